/-! printed by wip/whole/gen/gen20.py: methods as functions of the pure memory -/
theorem mf_X10_feed : hr_mf 122 10 1 (some .int) 6 5 bk_X10_feed := ⟨rfl, rfl, rfl, rfl, rfl, rfl⟩
theorem lb_X10_feed_0 : bk_X10_feed.lookup 0 = some [(.aload_n 0, 1), (.getfield 10, 3), (.getfield 66, 3), (.bipush 20, 2), (.iadd, 1), (.sipush 600, 3), (.if_icmp .le 5, 3)] := rfl
theorem lb_X10_feed_16 : bk_X10_feed.lookup 16 = some [(.iconst (-1), 1)] := rfl
theorem lb_X10_feed_17 : bk_X10_feed.lookup 17 = some [(.ireturn, 1)] := rfl
theorem lb_X10_feed_18 : bk_X10_feed.lookup 18 = some [(.aload_n 0, 1), (.getfield 10, 3), (.iload_n 1, 1)] := rfl
theorem lb_X10_feed_23 : bk_X10_feed.lookup 23 = some [(.invokevirtual 70, 3)] := rfl
theorem lb_X10_feed_26 : bk_X10_feed.lookup 26 = some [(.aload_n 0, 1), (.getfield 10, 3), (.iload_n 2, 1)] := rfl
theorem lb_X10_feed_31 : bk_X10_feed.lookup 31 = some [(.invokevirtual 70, 3)] := rfl
theorem lb_X10_feed_34 : bk_X10_feed.lookup 34 = some [(.aload_n 0, 1), (.getfield 10, 3), (.iload_n 3, 1)] := rfl
theorem lb_X10_feed_39 : bk_X10_feed.lookup 39 = some [(.invokevirtual 70, 3)] := rfl
theorem lb_X10_feed_42 : bk_X10_feed.lookup 42 = some [(.aload_n 0, 1), (.getfield 10, 3), (.iload 4, 2)] := rfl
theorem lb_X10_feed_48 : bk_X10_feed.lookup 48 = some [(.invokevirtual 70, 3)] := rfl
theorem lb_X10_feed_51 : bk_X10_feed.lookup 51 = some [(.aload_n 0, 1), (.getfield 10, 3), (.iload 5, 2)] := rfl
theorem lb_X10_feed_57 : bk_X10_feed.lookup 57 = some [(.invokevirtual 70, 3)] := rfl
theorem lb_X10_feed_60 : bk_X10_feed.lookup 60 = some [(.aload_n 0, 1), (.getfield 10, 3), (.getfield 66, 3)] := rfl
theorem lb_X10_feed_67 : bk_X10_feed.lookup 67 = some [(.ireturn, 1)] := rfl
def f_X10_feed (a1 : Int32) (a2 : Int32) (a3 : Int32) (a4 : Int32) (a5 : Int32) (M : PM) : Option (Int32 × PM) :=
  if ((M.1 1 1) + 20) ≤ 600 then
    hr_bd (f_X8_put a1 M) (fun v3 M3 =>
    hr_bd (f_X8_put a2 M3) (fun v5 M5 =>
    hr_bd (f_X8_put a3 M5) (fun v7 M7 =>
    hr_bd (f_X8_put a4 M7) (fun v9 M9 =>
    hr_bd (f_X8_put a5 M9) (fun v11 M11 =>
    some ((M11.1 1 1), M11))))))
  else
    some ((-1), M)
theorem g_X10_feed (a1 : Int32) (a2 : Int32) (a3 : Int32) (a4 : Int32) (a5 : Int32) : ∀ (M : PM) (r : Int32 × PM), f_X10_feed a1 a2 a3 a4 a5 M = some r → hr_G 122 0 [some (.ref 0), some (.int a1), some (.int a2), some (.int a3), some (.int a4), some (.int a5)] [] M (some (.int r.1), r.2) := by
  intro M r h
  unfold f_X10_feed at h
  refine hr_Grun mf_X10_feed lb_X10_feed_0 (P := hr_K 0 = 9 ∧ hr_K 1 = 7 ∧ True) (pc' := if ((M.1 1 1) + 20) ≤ 600 then 18 else 16) (ls' := [some (.ref 0), some (.int a1), some (.int a2), some (.int a3), some (.int a4), some (.int a5)]) (st' := []) (M' := M) rfl rfl ⟨K_0, K_1, trivial⟩ ?_
  refine hr_Gif h (fun _ h => ?_) (fun _ h => ?_)
  · refine hr_Grun mf_X10_feed lb_X10_feed_18 (P := hr_K 0 = 9 ∧ True) (pc' := 23) (ls' := [some (.ref 0), some (.int a1), some (.int a2), some (.int a3), some (.int a4), some (.int a5)]) (st' := [.int a1, .ref 1]) (M' := M) rfl rfl ⟨K_0, trivial⟩ ?_
    refine hr_Fb h (fun v3 M3 e3 h => ?_)
    refine hr_Gcv mf_X10_feed mf_X8_put lb_X10_feed_23 (b := 1) (as := [.int a1]) (rest := []) (st2 := []) (v := none) (M1 := M3) rfl rfl rfl rfl rfl rfl K_1 (g_X8_put a1 _ _ e3) rfl rfl ?_
    refine hr_Grun mf_X10_feed lb_X10_feed_26 (P := hr_K 0 = 9 ∧ True) (pc' := 31) (ls' := [some (.ref 0), some (.int a1), some (.int a2), some (.int a3), some (.int a4), some (.int a5)]) (st' := [.int a2, .ref 1]) (M' := M3) rfl rfl ⟨K_0, trivial⟩ ?_
    refine hr_Fb h (fun v5 M5 e5 h => ?_)
    refine hr_Gcv mf_X10_feed mf_X8_put lb_X10_feed_31 (b := 1) (as := [.int a2]) (rest := []) (st2 := []) (v := none) (M1 := M5) rfl rfl rfl rfl rfl rfl K_1 (g_X8_put a2 _ _ e5) rfl rfl ?_
    refine hr_Grun mf_X10_feed lb_X10_feed_34 (P := hr_K 0 = 9 ∧ True) (pc' := 39) (ls' := [some (.ref 0), some (.int a1), some (.int a2), some (.int a3), some (.int a4), some (.int a5)]) (st' := [.int a3, .ref 1]) (M' := M5) rfl rfl ⟨K_0, trivial⟩ ?_
    refine hr_Fb h (fun v7 M7 e7 h => ?_)
    refine hr_Gcv mf_X10_feed mf_X8_put lb_X10_feed_39 (b := 1) (as := [.int a3]) (rest := []) (st2 := []) (v := none) (M1 := M7) rfl rfl rfl rfl rfl rfl K_1 (g_X8_put a3 _ _ e7) rfl rfl ?_
    refine hr_Grun mf_X10_feed lb_X10_feed_42 (P := hr_K 0 = 9 ∧ True) (pc' := 48) (ls' := [some (.ref 0), some (.int a1), some (.int a2), some (.int a3), some (.int a4), some (.int a5)]) (st' := [.int a4, .ref 1]) (M' := M7) rfl rfl ⟨K_0, trivial⟩ ?_
    refine hr_Fb h (fun v9 M9 e9 h => ?_)
    refine hr_Gcv mf_X10_feed mf_X8_put lb_X10_feed_48 (b := 1) (as := [.int a4]) (rest := []) (st2 := []) (v := none) (M1 := M9) rfl rfl rfl rfl rfl rfl K_1 (g_X8_put a4 _ _ e9) rfl rfl ?_
    refine hr_Grun mf_X10_feed lb_X10_feed_51 (P := hr_K 0 = 9 ∧ True) (pc' := 57) (ls' := [some (.ref 0), some (.int a1), some (.int a2), some (.int a3), some (.int a4), some (.int a5)]) (st' := [.int a5, .ref 1]) (M' := M9) rfl rfl ⟨K_0, trivial⟩ ?_
    refine hr_Fb h (fun v11 M11 e11 h => ?_)
    refine hr_Gcv mf_X10_feed mf_X8_put lb_X10_feed_57 (b := 1) (as := [.int a5]) (rest := []) (st2 := []) (v := none) (M1 := M11) rfl rfl rfl rfl rfl rfl K_1 (g_X8_put a5 _ _ e11) rfl rfl ?_
    refine hr_Grun mf_X10_feed lb_X10_feed_60 (P := hr_K 0 = 9 ∧ hr_K 1 = 7 ∧ True) (pc' := 67) (ls' := [some (.ref 0), some (.int a1), some (.int a2), some (.int a3), some (.int a4), some (.int a5)]) (st' := [.int (M11.1 1 1)]) (M' := M11) rfl rfl ⟨K_0, K_1, trivial⟩ ?_
    cases h
    exact hr_Gret mf_X10_feed lb_X10_feed_67 rfl rfl trivial
  · refine hr_Grun mf_X10_feed lb_X10_feed_16 (P := True) (pc' := 17) (ls' := [some (.ref 0), some (.int a1), some (.int a2), some (.int a3), some (.int a4), some (.int a5)]) (st' := [.int (-1)]) (M' := M) rfl rfl trivial ?_
    cases h
    exact hr_Gret mf_X10_feed lb_X10_feed_17 rfl rfl trivial
theorem mf_X10_end : hr_mf 123 10 0 (some .int) 2 1 bk_X10_end := ⟨rfl, rfl, rfl, rfl, rfl, rfl⟩
theorem lb_X10_end_0 : bk_X10_end.lookup 0 = some [(.iload_n 1, 1), (.ifCond .lt 14, 3)] := rfl
theorem lb_X10_end_4 : bk_X10_end.lookup 4 = some [(.iload_n 1, 1), (.aload_n 0, 1), (.getfield 10, 3), (.getfield 66, 3), (.if_icmp .le 5, 3)] := rfl
theorem lb_X10_end_15 : bk_X10_end.lookup 15 = some [(.iconst (-1), 1)] := rfl
theorem lb_X10_end_16 : bk_X10_end.lookup 16 = some [(.ireturn, 1)] := rfl
theorem lb_X10_end_17 : bk_X10_end.lookup 17 = some [(.aload_n 0, 1), (.getfield 10, 3), (.iload_n 1, 1), (.putfield 66, 3), (.iload_n 1, 1)] := rfl
theorem lb_X10_end_26 : bk_X10_end.lookup 26 = some [(.ireturn, 1)] := rfl
def f_X10_end (a1 : Int32) (M : PM) : Option (Int32 × PM) :=
  if a1 < 0 then
    some ((-1), M)
  else
    if a1 ≤ (M.1 1 1) then
      some (a1, hr_si M 1 1 a1)
    else
      some ((-1), M)
theorem g_X10_end (a1 : Int32) : ∀ (M : PM) (r : Int32 × PM), f_X10_end a1 M = some r → hr_G 123 0 [some (.ref 0), some (.int a1)] [] M (some (.int r.1), r.2) := by
  intro M r h
  unfold f_X10_end at h
  refine hr_Grun mf_X10_end lb_X10_end_0 (P := True) (pc' := if a1 < 0 then 15 else 4) (ls' := [some (.ref 0), some (.int a1)]) (st' := []) (M' := M) rfl rfl trivial ?_
  refine hr_Gif h (fun _ h => ?_) (fun _ h => ?_)
  · refine hr_Grun mf_X10_end lb_X10_end_15 (P := True) (pc' := 16) (ls' := [some (.ref 0), some (.int a1)]) (st' := [.int (-1)]) (M' := M) rfl rfl trivial ?_
    cases h
    exact hr_Gret mf_X10_end lb_X10_end_16 rfl rfl trivial
  · refine hr_Grun mf_X10_end lb_X10_end_4 (P := hr_K 0 = 9 ∧ hr_K 1 = 7 ∧ True) (pc' := if a1 ≤ (M.1 1 1) then 17 else 15) (ls' := [some (.ref 0), some (.int a1)]) (st' := []) (M' := M) rfl rfl ⟨K_0, K_1, trivial⟩ ?_
    refine hr_Gif h (fun _ h => ?_) (fun _ h => ?_)
    · refine hr_Grun mf_X10_end lb_X10_end_17 (P := hr_K 0 = 9 ∧ (hr_K 1 = 7 ∧ 1 < hr_n) ∧ True) (pc' := 26) (ls' := [some (.ref 0), some (.int a1)]) (st' := [.int a1]) (M' := hr_si M 1 1 a1) rfl rfl ⟨K_0, ⟨K_1, L_1⟩, trivial⟩ ?_
      cases h
      exact hr_Gret mf_X10_end lb_X10_end_26 rfl rfl trivial
    · refine hr_Grun mf_X10_end lb_X10_end_15 (P := True) (pc' := 16) (ls' := [some (.ref 0), some (.int a1)]) (st' := [.int (-1)]) (M' := M) rfl rfl trivial ?_
      cases h
      exact hr_Gret mf_X10_end lb_X10_end_16 rfl rfl trivial
theorem mf_X10_forgetAnswers : hr_mf 154 10 1 none 1 0 bk_X10_forgetAnswers := ⟨rfl, rfl, rfl, rfl, rfl, rfl⟩
theorem lb_X10_forgetAnswers_0 : bk_X10_forgetAnswers.lookup 0 = some [(.aload_n 0, 1), (.getfield 34, 3)] := rfl
theorem lb_X10_forgetAnswers_4 : bk_X10_forgetAnswers.lookup 4 = some [(.invokevirtual 308, 3)] := rfl
theorem lb_X10_forgetAnswers_7 : bk_X10_forgetAnswers.lookup 7 = some [(.aload_n 0, 1), (.getfield 55, 3)] := rfl
theorem lb_X10_forgetAnswers_11 : bk_X10_forgetAnswers.lookup 11 = some [(.invokevirtual 311, 3)] := rfl
theorem lb_X10_forgetAnswers_14 : bk_X10_forgetAnswers.lookup 14 = some [(.return_, 1)] := rfl
def f_X10_forgetAnswers (M : PM) : Option (Unit × PM) :=
  hr_bd (f_X1_forget M) (fun v2 M2 =>
  hr_bd (f_X2_forget M2) (fun v4 M4 =>
  some ((), M4)))
theorem g_X10_forgetAnswers  : ∀ (M : PM) (r : Unit × PM), f_X10_forgetAnswers M = some r → hr_G 154 0 [some (.ref 0)] [] M (none, r.2) := by
  intro M r h
  unfold f_X10_forgetAnswers at h
  refine hr_Grun mf_X10_forgetAnswers lb_X10_forgetAnswers_0 (P := hr_K 0 = 9 ∧ True) (pc' := 4) (ls' := [some (.ref 0)]) (st' := [.ref 240]) (M' := M) rfl rfl ⟨K_0, trivial⟩ ?_
  refine hr_Fb h (fun v2 M2 e2 h => ?_)
  refine hr_Gcv mf_X10_forgetAnswers mf_X1_forget lb_X10_forgetAnswers_4 (b := 240) (as := []) (rest := []) (st2 := []) (v := none) (M1 := M2) rfl rfl rfl rfl rfl rfl K_240 (g_X1_forget  _ _ e2) rfl rfl ?_
  refine hr_Grun mf_X10_forgetAnswers lb_X10_forgetAnswers_7 (P := hr_K 0 = 9 ∧ True) (pc' := 11) (ls' := [some (.ref 0)]) (st' := [.ref 264]) (M' := M2) rfl rfl ⟨K_0, trivial⟩ ?_
  refine hr_Fb h (fun v4 M4 e4 h => ?_)
  refine hr_Gcv mf_X10_forgetAnswers mf_X2_forget lb_X10_forgetAnswers_11 (b := 264) (as := []) (rest := []) (st2 := []) (v := none) (M1 := M4) rfl rfl rfl rfl rfl rfl K_264 (g_X2_forget  _ _ e4) rfl rfl ?_
  cases h
  exact hr_Gret mf_X10_forgetAnswers lb_X10_forgetAnswers_14 rfl rfl trivial
theorem mf_X10_text : hr_mf 124 10 8 (some .int) 5 2 bk_X10_text := ⟨rfl, rfl, rfl, rfl, rfl, rfl⟩
theorem lb_X10_text_0 : bk_X10_text.lookup 0 = some [(.aload_n 0, 1), (.getfield 10, 3), (.iload_n 1, 1), (.iload_n 2, 1)] := rfl
theorem lb_X10_text_6 : bk_X10_text.lookup 6 = some [(.invokevirtual 74, 3)] := rfl
theorem lb_X10_text_9 : bk_X10_text.lookup 9 = some [(.istore_n 3, 1), (.aload_n 0, 1), (.getfield 10, 3), (.getfield 66, 3), (.istore 4, 2), (.aload_n 0, 1), (.getfield 10, 3), (.iconst 0, 1), (.putfield 66, 3), (.aload_n 0, 1), (.getfield 10, 3), (.iconst 0, 1), (.putfield 78, 3), (.aload_n 0, 1), (.getfield 10, 3), (.iconst (-1), 1), (.putfield 81, 3), (.iload_n 3, 1), (.ifCond .ge 6, 3)] := rfl
theorem lb_X10_text_47 : bk_X10_text.lookup 47 = some [(.bipush (-2), 2)] := rfl
theorem lb_X10_text_49 : bk_X10_text.lookup 49 = some [(.ireturn, 1)] := rfl
theorem lb_X10_text_50 : bk_X10_text.lookup 50 = some [(.aload_n 0, 1), (.getfield 27, 3), (.aload_n 0, 1), (.getfield 10, 3), (.getfield 84, 3), (.iload 4, 2), (.iload_n 1, 1)] := rfl
theorem lb_X10_text_64 : bk_X10_text.lookup 64 = some [(.invokevirtual 88, 3)] := rfl
theorem lb_X10_text_67 : bk_X10_text.lookup 67 = some [(.aload_n 0, 1), (.getfield 10, 3), (.aload_n 0, 1), (.getfield 27, 3), (.getfield 92, 3), (.putfield 78, 3), (.aload_n 0, 1), (.getfield 10, 3), (.aload_n 0, 1), (.getfield 27, 3), (.getfield 93, 3), (.putfield 81, 3), (.aload_n 0, 1), (.getfield 27, 3), (.getfield 92, 3), (.ifCond .eq 5, 3)] := rfl
theorem lb_X10_text_105 : bk_X10_text.lookup 105 = some [(.iconst (-1), 1)] := rfl
theorem lb_X10_text_106 : bk_X10_text.lookup 106 = some [(.ireturn, 1)] := rfl
theorem lb_X10_text_107 : bk_X10_text.lookup 107 = some [(.aload_n 0, 1), (.getfield 10, 3), (.iload_n 1, 1), (.iload_n 3, 1), (.aload_n 0, 1), (.getfield 27, 3), (.getfield 94, 3), (.aload_n 0, 1), (.getfield 27, 3), (.getfield 98, 3)] := rfl
theorem lb_X10_text_127 : bk_X10_text.lookup 127 = some [(.invokevirtual 102, 3)] := rfl
theorem lb_X10_text_130 : bk_X10_text.lookup 130 = some [(.aload_n 0, 1)] := rfl
theorem lb_X10_text_131 : bk_X10_text.lookup 131 = some [(.invokevirtual 106, 3)] := rfl
theorem lb_X10_text_134 : bk_X10_text.lookup 134 = some [(.iload_n 3, 1)] := rfl
theorem lb_X10_text_135 : bk_X10_text.lookup 135 = some [(.ireturn, 1)] := rfl
def f_X10_text (a1 : Int32) (a2 : Int32) (M : PM) : Option (Int32 × PM) :=
  hr_bd (f_X8_slotFor a1 a2 M) (fun v2 M2 =>
  if 0 ≤ v2 then
    hr_bd (f_X5_read 2 (M2.1 1 1) a1 (hr_si (hr_si (hr_si M2 1 1 0) 1 2 0) 1 3 (-1))) (fun v5 M5 =>
    if ((hr_si (hr_si M5 1 2 (M5.1 223 2)) 1 3 ((hr_si M5 1 2 (M5.1 223 2)).1 223 3)).1 223 2) = 0 then
      hr_bd (f_X8_keep a1 v2 224 233 (hr_si (hr_si M5 1 2 (M5.1 223 2)) 1 3 ((hr_si M5 1 2 (M5.1 223 2)).1 223 3))) (fun v8 M8 =>
      hr_bd (f_X10_forgetAnswers M8) (fun v10 M10 =>
      some (v2, M10)))
    else
      some ((-1), hr_si (hr_si M5 1 2 (M5.1 223 2)) 1 3 ((hr_si M5 1 2 (M5.1 223 2)).1 223 3)))
  else
    some ((-2), hr_si (hr_si (hr_si M2 1 1 0) 1 2 0) 1 3 (-1)))
theorem g_X10_text (a1 : Int32) (a2 : Int32) : ∀ (M : PM) (r : Int32 × PM), f_X10_text a1 a2 M = some r → hr_G 124 0 [some (.ref 0), some (.int a1), some (.int a2), none, none] [] M (some (.int r.1), r.2) := by
  intro M r h
  unfold f_X10_text at h
  refine hr_Grun mf_X10_text lb_X10_text_0 (P := hr_K 0 = 9 ∧ True) (pc' := 6) (ls' := [some (.ref 0), some (.int a1), some (.int a2), none, none]) (st' := [.int a2, .int a1, .ref 1]) (M' := M) rfl rfl ⟨K_0, trivial⟩ ?_
  refine hr_Fb h (fun v2 M2 e2 h => ?_)
  refine hr_Gcv mf_X10_text mf_X8_slotFor lb_X10_text_6 (b := 1) (as := [.int a1, .int a2]) (rest := []) (st2 := [.int v2]) (v := some (.int v2)) (M1 := M2) rfl rfl rfl rfl rfl rfl K_1 (g_X8_slotFor a1 a2 _ _ e2) rfl rfl ?_
  refine hr_Grun mf_X10_text lb_X10_text_9 (P := hr_K 0 = 9 ∧ hr_K 1 = 7 ∧ hr_K 0 = 9 ∧ (hr_K 1 = 7 ∧ 1 < hr_n) ∧ hr_K 0 = 9 ∧ (hr_K 1 = 7 ∧ 1 < hr_n) ∧ hr_K 0 = 9 ∧ (hr_K 1 = 7 ∧ 1 < hr_n) ∧ True) (pc' := if 0 ≤ v2 then 50 else 47) (ls' := [some (.ref 0), some (.int a1), some (.int a2), some (.int v2), some (.int (M2.1 1 1))]) (st' := []) (M' := hr_si (hr_si (hr_si M2 1 1 0) 1 2 0) 1 3 (-1)) rfl rfl ⟨K_0, K_1, K_0, ⟨K_1, L_1⟩, K_0, ⟨K_1, L_1⟩, K_0, ⟨K_1, L_1⟩, trivial⟩ ?_
  refine hr_Gif h (fun _ h => ?_) (fun _ h => ?_)
  · refine hr_Grun mf_X10_text lb_X10_text_50 (P := hr_K 0 = 9 ∧ hr_K 0 = 9 ∧ hr_K 1 = 7 ∧ True) (pc' := 64) (ls' := [some (.ref 0), some (.int a1), some (.int a2), some (.int v2), some (.int (M2.1 1 1))]) (st' := [.int a1, .int (M2.1 1 1), .ref 2, .ref 223]) (M' := hr_si (hr_si (hr_si M2 1 1 0) 1 2 0) 1 3 (-1)) rfl rfl ⟨K_0, K_0, K_1, trivial⟩ ?_
    refine hr_Fb h (fun v5 M5 e5 h => ?_)
    refine hr_Gcv mf_X10_text mf_X5_read lb_X10_text_64 (b := 223) (as := [.ref 2, .int (M2.1 1 1), .int a1]) (rest := []) (st2 := []) (v := none) (M1 := M5) rfl rfl rfl rfl rfl rfl K_223 (g_X5_read 2 (M2.1 1 1) a1 _ _ e5) rfl rfl ?_
    refine hr_Grun mf_X10_text lb_X10_text_67 (P := hr_K 0 = 9 ∧ hr_K 0 = 9 ∧ hr_K 223 = 4 ∧ (hr_K 1 = 7 ∧ 1 < hr_n) ∧ hr_K 0 = 9 ∧ hr_K 0 = 9 ∧ hr_K 223 = 4 ∧ (hr_K 1 = 7 ∧ 1 < hr_n) ∧ hr_K 0 = 9 ∧ hr_K 223 = 4 ∧ True) (pc' := if ((hr_si (hr_si M5 1 2 (M5.1 223 2)) 1 3 ((hr_si M5 1 2 (M5.1 223 2)).1 223 3)).1 223 2) = 0 then 107 else 105) (ls' := [some (.ref 0), some (.int a1), some (.int a2), some (.int v2), some (.int (M2.1 1 1))]) (st' := []) (M' := hr_si (hr_si M5 1 2 (M5.1 223 2)) 1 3 ((hr_si M5 1 2 (M5.1 223 2)).1 223 3)) rfl rfl ⟨K_0, K_0, K_223, ⟨K_1, L_1⟩, K_0, K_0, K_223, ⟨K_1, L_1⟩, K_0, K_223, trivial⟩ ?_
    refine hr_Gif h (fun _ h => ?_) (fun _ h => ?_)
    · refine hr_Grun mf_X10_text lb_X10_text_107 (P := hr_K 0 = 9 ∧ hr_K 0 = 9 ∧ hr_K 223 = 4 ∧ hr_K 0 = 9 ∧ hr_K 223 = 4 ∧ True) (pc' := 127) (ls' := [some (.ref 0), some (.int a1), some (.int a2), some (.int v2), some (.int (M2.1 1 1))]) (st' := [.ref 233, .ref 224, .int v2, .int a1, .ref 1]) (M' := hr_si (hr_si M5 1 2 (M5.1 223 2)) 1 3 ((hr_si M5 1 2 (M5.1 223 2)).1 223 3)) rfl rfl ⟨K_0, K_0, K_223, K_0, K_223, trivial⟩ ?_
      refine hr_Fb h (fun v8 M8 e8 h => ?_)
      refine hr_Gcv mf_X10_text mf_X8_keep lb_X10_text_127 (b := 1) (as := [.int a1, .int v2, .ref 224, .ref 233]) (rest := []) (st2 := []) (v := none) (M1 := M8) rfl rfl rfl rfl rfl rfl K_1 (g_X8_keep a1 v2 224 233 _ _ e8) rfl rfl ?_
      refine hr_Grun mf_X10_text lb_X10_text_130 (P := True) (pc' := 131) (ls' := [some (.ref 0), some (.int a1), some (.int a2), some (.int v2), some (.int (M2.1 1 1))]) (st' := [.ref 0]) (M' := M8) rfl rfl trivial ?_
      refine hr_Fb h (fun v10 M10 e10 h => ?_)
      refine hr_Gcv mf_X10_text mf_X10_forgetAnswers lb_X10_text_131 (b := 0) (as := []) (rest := []) (st2 := []) (v := none) (M1 := M10) rfl rfl rfl rfl rfl rfl K_0 (g_X10_forgetAnswers  _ _ e10) rfl rfl ?_
      refine hr_Grun mf_X10_text lb_X10_text_134 (P := True) (pc' := 135) (ls' := [some (.ref 0), some (.int a1), some (.int a2), some (.int v2), some (.int (M2.1 1 1))]) (st' := [.int v2]) (M' := M10) rfl rfl trivial ?_
      cases h
      exact hr_Gret mf_X10_text lb_X10_text_135 rfl rfl trivial
    · refine hr_Grun mf_X10_text lb_X10_text_105 (P := True) (pc' := 106) (ls' := [some (.ref 0), some (.int a1), some (.int a2), some (.int v2), some (.int (M2.1 1 1))]) (st' := [.int (-1)]) (M' := hr_si (hr_si M5 1 2 (M5.1 223 2)) 1 3 ((hr_si M5 1 2 (M5.1 223 2)).1 223 3)) rfl rfl trivial ?_
      cases h
      exact hr_Gret mf_X10_text lb_X10_text_106 rfl rfl trivial
  · refine hr_Grun mf_X10_text lb_X10_text_47 (P := True) (pc' := 49) (ls' := [some (.ref 0), some (.int a1), some (.int a2), some (.int v2), some (.int (M2.1 1 1))]) (st' := [.int (-2)]) (M' := hr_si (hr_si (hr_si M2 1 1 0) 1 2 0) 1 3 (-1)) rfl rfl trivial ?_
    cases h
    exact hr_Gret mf_X10_text lb_X10_text_49 rfl rfl trivial
theorem mf_X10_fault : hr_mf 125 10 0 (some .int) 2 1 bk_X10_fault := ⟨rfl, rfl, rfl, rfl, rfl, rfl⟩
theorem lb_X10_fault_0 : bk_X10_fault.lookup 0 = some [(.iload_n 1, 1), (.ifCond .ne 11, 3)] := rfl
theorem lb_X10_fault_4 : bk_X10_fault.lookup 4 = some [(.aload_n 0, 1), (.getfield 10, 3), (.getfield 78, 3)] := rfl
theorem lb_X10_fault_11 : bk_X10_fault.lookup 11 = some [(.ireturn, 1)] := rfl
theorem lb_X10_fault_12 : bk_X10_fault.lookup 12 = some [(.iload_n 1, 1), (.iconst 1, 1), (.if_icmp .ne 13, 3)] := rfl
theorem lb_X10_fault_17 : bk_X10_fault.lookup 17 = some [(.aload_n 0, 1), (.getfield 10, 3), (.getfield 81, 3), (.goto 4, 3)] := rfl
theorem lb_X10_fault_27 : bk_X10_fault.lookup 27 = some [(.iconst (-1), 1)] := rfl
theorem lb_X10_fault_28 : bk_X10_fault.lookup 28 = some [(.ireturn, 1)] := rfl
def f_X10_fault (a1 : Int32) (M : PM) : Option (Int32 × PM) :=
  if a1 = 0 then
    some ((M.1 1 2), M)
  else
    if a1 = 1 then
      some ((M.1 1 3), M)
    else
      some ((-1), M)
theorem g_X10_fault (a1 : Int32) : ∀ (M : PM) (r : Int32 × PM), f_X10_fault a1 M = some r → hr_G 125 0 [some (.ref 0), some (.int a1)] [] M (some (.int r.1), r.2) := by
  intro M r h
  unfold f_X10_fault at h
  refine hr_Grun mf_X10_fault lb_X10_fault_0 (P := True) (pc' := if a1 = 0 then 4 else 12) (ls' := [some (.ref 0), some (.int a1)]) (st' := []) (M' := M) rfl rfl trivial ?_
  refine hr_Gif h (fun _ h => ?_) (fun _ h => ?_)
  · refine hr_Grun mf_X10_fault lb_X10_fault_4 (P := hr_K 0 = 9 ∧ hr_K 1 = 7 ∧ True) (pc' := 11) (ls' := [some (.ref 0), some (.int a1)]) (st' := [.int (M.1 1 2)]) (M' := M) rfl rfl ⟨K_0, K_1, trivial⟩ ?_
    cases h
    exact hr_Gret mf_X10_fault lb_X10_fault_11 rfl rfl trivial
  · refine hr_Grun mf_X10_fault lb_X10_fault_12 (P := True) (pc' := if a1 = 1 then 17 else 27) (ls' := [some (.ref 0), some (.int a1)]) (st' := []) (M' := M) rfl rfl trivial ?_
    refine hr_Gif h (fun _ h => ?_) (fun _ h => ?_)
    · refine hr_Grun mf_X10_fault lb_X10_fault_17 (P := hr_K 0 = 9 ∧ hr_K 1 = 7 ∧ True) (pc' := 28) (ls' := [some (.ref 0), some (.int a1)]) (st' := [.int (M.1 1 3)]) (M' := M) rfl rfl ⟨K_0, K_1, trivial⟩ ?_
      cases h
      exact hr_Gret mf_X10_fault lb_X10_fault_28 rfl rfl trivial
    · refine hr_Grun mf_X10_fault lb_X10_fault_27 (P := True) (pc' := 28) (ls' := [some (.ref 0), some (.int a1)]) (st' := [.int (-1)]) (M' := M) rfl rfl trivial ?_
      cases h
      exact hr_Gret mf_X10_fault lb_X10_fault_28 rfl rfl trivial
theorem mf_X10_palette : hr_mf 126 10 4 (some .int) 4 2 bk_X10_palette := ⟨rfl, rfl, rfl, rfl, rfl, rfl⟩
theorem lb_X10_palette_0 : bk_X10_palette.lookup 0 = some [(.aload_n 0, 1), (.getfield 10, 3), (.iload_n 1, 1)] := rfl
theorem lb_X10_palette_5 : bk_X10_palette.lookup 5 = some [(.invokevirtual 109, 3)] := rfl
theorem lb_X10_palette_8 : bk_X10_palette.lookup 8 = some [(.astore_n 3, 1), (.aload_n 3, 1), (.ifnonnull 7, 3)] := rfl
theorem lb_X10_palette_13 : bk_X10_palette.lookup 13 = some [(.iconst (-1), 1), (.goto 8, 3)] := rfl
theorem lb_X10_palette_17 : bk_X10_palette.lookup 17 = some [(.aload_n 3, 1), (.iload_n 2, 1)] := rfl
theorem lb_X10_palette_19 : bk_X10_palette.lookup 19 = some [(.invokevirtual 113, 3)] := rfl
theorem lb_X10_palette_22 : bk_X10_palette.lookup 22 = some [(.ireturn, 1)] := rfl
def f_X10_palette (a1 : Int32) (a2 : Int32) (M : PM) : Option (Int32 × PM) :=
  hr_bd (f_X8_paletteAt a1 M) (fun v2 M2 => match v2 with
  | .null => some ((-1), M2)
  | .ref q2 => if hr_K q2 = 3 then
    hr_bd (f_X4_answer q2 a2 M2) (fun v7 M7 =>
    some (v7, M7))
    else none
  | _ => none)
theorem g_X10_palette (a1 : Int32) (a2 : Int32) : ∀ (M : PM) (r : Int32 × PM), f_X10_palette a1 a2 M = some r → hr_G 126 0 [some (.ref 0), some (.int a1), some (.int a2), none] [] M (some (.int r.1), r.2) := by
  intro M r h
  unfold f_X10_palette at h
  refine hr_Grun mf_X10_palette lb_X10_palette_0 (P := hr_K 0 = 9 ∧ True) (pc' := 5) (ls' := [some (.ref 0), some (.int a1), some (.int a2), none]) (st' := [.int a1, .ref 1]) (M' := M) rfl rfl ⟨K_0, trivial⟩ ?_
  refine hr_Fb h (fun v2 M2 e2 h => ?_)
  refine hr_Fv h (fun hv h => ?_) (fun q2 hv h => ?_)
  · subst hv
    refine hr_Gcv mf_X10_palette mf_X8_paletteAt lb_X10_palette_5 (b := 1) (as := [.int a1]) (rest := []) (st2 := [.null]) (v := some .null) (M1 := M2) rfl rfl rfl rfl rfl rfl K_1 (g_X8_paletteAt a1 _ _ e2) rfl rfl ?_
    refine hr_Grun mf_X10_palette lb_X10_palette_8 (P := True) (pc' := 13) (ls' := [some (.ref 0), some (.int a1), some (.int a2), some .null]) (st' := []) (M' := M2) rfl rfl trivial ?_
    refine hr_Grun mf_X10_palette lb_X10_palette_13 (P := True) (pc' := 22) (ls' := [some (.ref 0), some (.int a1), some (.int a2), some .null]) (st' := [.int (-1)]) (M' := M2) rfl rfl trivial ?_
    cases h
    exact hr_Gret mf_X10_palette lb_X10_palette_22 rfl rfl trivial
  · subst hv
    refine hr_Fg h (fun kq2 h => ?_)
    refine hr_Gcv mf_X10_palette mf_X8_paletteAt lb_X10_palette_5 (b := 1) (as := [.int a1]) (rest := []) (st2 := [.ref q2]) (v := some (.ref q2)) (M1 := M2) rfl rfl rfl rfl rfl rfl K_1 (g_X8_paletteAt a1 _ _ e2) rfl rfl ?_
    refine hr_Grun mf_X10_palette lb_X10_palette_8 (P := True) (pc' := 17) (ls' := [some (.ref 0), some (.int a1), some (.int a2), some (.ref q2)]) (st' := []) (M' := M2) rfl rfl trivial ?_
    refine hr_Grun mf_X10_palette lb_X10_palette_17 (P := True) (pc' := 19) (ls' := [some (.ref 0), some (.int a1), some (.int a2), some (.ref q2)]) (st' := [.int a2, .ref q2]) (M' := M2) rfl rfl trivial ?_
    refine hr_Fb h (fun v7 M7 e7 h => ?_)
    refine hr_Gcv mf_X10_palette mf_X4_answer lb_X10_palette_19 (b := q2) (as := [.int a2]) (rest := []) (st2 := [.int v7]) (v := some (.int v7)) (M1 := M7) rfl rfl rfl rfl rfl rfl kq2 (g_X4_answer q2 a2 _ _ e7) rfl rfl ?_
    cases h
    exact hr_Gret mf_X10_palette lb_X10_palette_22 rfl rfl trivial
theorem mf_X10_rule : hr_mf 127 10 1 (some .int) 5 3 bk_X10_rule := ⟨rfl, rfl, rfl, rfl, rfl, rfl⟩
theorem lb_X10_rule_0 : bk_X10_rule.lookup 0 = some [(.aload_n 0, 1), (.getfield 10, 3), (.iload_n 1, 1)] := rfl
theorem lb_X10_rule_5 : bk_X10_rule.lookup 5 = some [(.invokevirtual 109, 3)] := rfl
theorem lb_X10_rule_8 : bk_X10_rule.lookup 8 = some [(.astore 4, 2), (.aload 4, 2), (.ifnull 25, 3)] := rfl
theorem lb_X10_rule_15 : bk_X10_rule.lookup 15 = some [(.iload_n 2, 1), (.ifCond .lt 21, 3)] := rfl
theorem lb_X10_rule_19 : bk_X10_rule.lookup 19 = some [(.iload_n 2, 1), (.aload 4, 2), (.getfield 119, 3), (.if_icmp .ge 12, 3)] := rfl
theorem lb_X10_rule_28 : bk_X10_rule.lookup 28 = some [(.iload_n 3, 1), (.ifCond .lt 8, 3)] := rfl
theorem lb_X10_rule_32 : bk_X10_rule.lookup 32 = some [(.iload_n 3, 1), (.iconst 2, 1), (.if_icmp .le 6, 3)] := rfl
theorem lb_X10_rule_37 : bk_X10_rule.lookup 37 = some [(.bipush (-2), 2)] := rfl
theorem lb_X10_rule_39 : bk_X10_rule.lookup 39 = some [(.ireturn, 1)] := rfl
theorem lb_X10_rule_40 : bk_X10_rule.lookup 40 = some [(.aload 4, 2), (.getfield 122, 3), (.iconst 3, 1), (.iload_n 2, 1), (.imul, 1), (.iload_n 3, 1), (.iadd, 1), (.iaload, 1)] := rfl
theorem lb_X10_rule_51 : bk_X10_rule.lookup 51 = some [(.ireturn, 1)] := rfl
def f_X10_rule (a1 : Int32) (a2 : Int32) (a3 : Int32) (M : PM) : Option (Int32 × PM) :=
  hr_bd (f_X8_paletteAt a1 M) (fun v2 M2 => match v2 with
  | .null => some ((-2), M2)
  | .ref q2 => if hr_K q2 = 3 then
    if a2 < 0 then
      some ((-2), M2)
    else
      if (M2.1 q2 1) ≤ a2 then
        some ((-2), M2)
      else
        if a3 < 0 then
          some ((-2), M2)
        else
          if a3 ≤ 2 then
            if inB ((3 * a2) + a3) 18 = true then 
            some ((M2.1 (q2 + 2) ((3 * a2) + a3).toNatClampNeg), M2) else none
          else
            some ((-2), M2)
    else none
  | _ => none)
theorem g_X10_rule (a1 : Int32) (a2 : Int32) (a3 : Int32) : ∀ (M : PM) (r : Int32 × PM), f_X10_rule a1 a2 a3 M = some r → hr_G 127 0 [some (.ref 0), some (.int a1), some (.int a2), some (.int a3), none] [] M (some (.int r.1), r.2) := by
  intro M r h
  unfold f_X10_rule at h
  refine hr_Grun mf_X10_rule lb_X10_rule_0 (P := hr_K 0 = 9 ∧ True) (pc' := 5) (ls' := [some (.ref 0), some (.int a1), some (.int a2), some (.int a3), none]) (st' := [.int a1, .ref 1]) (M' := M) rfl rfl ⟨K_0, trivial⟩ ?_
  refine hr_Fb h (fun v2 M2 e2 h => ?_)
  refine hr_Fv h (fun hv h => ?_) (fun q2 hv h => ?_)
  · subst hv
    refine hr_Gcv mf_X10_rule mf_X8_paletteAt lb_X10_rule_5 (b := 1) (as := [.int a1]) (rest := []) (st2 := [.null]) (v := some .null) (M1 := M2) rfl rfl rfl rfl rfl rfl K_1 (g_X8_paletteAt a1 _ _ e2) rfl rfl ?_
    refine hr_Grun mf_X10_rule lb_X10_rule_8 (P := True) (pc' := 37) (ls' := [some (.ref 0), some (.int a1), some (.int a2), some (.int a3), some .null]) (st' := []) (M' := M2) rfl rfl trivial ?_
    refine hr_Grun mf_X10_rule lb_X10_rule_37 (P := True) (pc' := 39) (ls' := [some (.ref 0), some (.int a1), some (.int a2), some (.int a3), some .null]) (st' := [.int (-2)]) (M' := M2) rfl rfl trivial ?_
    cases h
    exact hr_Gret mf_X10_rule lb_X10_rule_39 rfl rfl trivial
  · subst hv
    refine hr_Fg h (fun kq2 h => ?_)
    refine hr_Gcv mf_X10_rule mf_X8_paletteAt lb_X10_rule_5 (b := 1) (as := [.int a1]) (rest := []) (st2 := [.ref q2]) (v := some (.ref q2)) (M1 := M2) rfl rfl rfl rfl rfl rfl K_1 (g_X8_paletteAt a1 _ _ e2) rfl rfl ?_
    refine hr_Grun mf_X10_rule lb_X10_rule_8 (P := True) (pc' := 15) (ls' := [some (.ref 0), some (.int a1), some (.int a2), some (.int a3), some (.ref q2)]) (st' := []) (M' := M2) rfl rfl trivial ?_
    refine hr_Grun mf_X10_rule lb_X10_rule_15 (P := True) (pc' := if a2 < 0 then 37 else 19) (ls' := [some (.ref 0), some (.int a1), some (.int a2), some (.int a3), some (.ref q2)]) (st' := []) (M' := M2) rfl rfl trivial ?_
    refine hr_Gif h (fun _ h => ?_) (fun _ h => ?_)
    · refine hr_Grun mf_X10_rule lb_X10_rule_37 (P := True) (pc' := 39) (ls' := [some (.ref 0), some (.int a1), some (.int a2), some (.int a3), some (.ref q2)]) (st' := [.int (-2)]) (M' := M2) rfl rfl trivial ?_
      cases h
      exact hr_Gret mf_X10_rule lb_X10_rule_39 rfl rfl trivial
    · refine hr_Grun mf_X10_rule lb_X10_rule_19 (P := hr_K q2 = 3 ∧ True) (pc' := if (M2.1 q2 1) ≤ a2 then 37 else 28) (ls' := [some (.ref 0), some (.int a1), some (.int a2), some (.int a3), some (.ref q2)]) (st' := []) (M' := M2) rfl rfl ⟨kq2, trivial⟩ ?_
      refine hr_Gif h (fun _ h => ?_) (fun _ h => ?_)
      · refine hr_Grun mf_X10_rule lb_X10_rule_37 (P := True) (pc' := 39) (ls' := [some (.ref 0), some (.int a1), some (.int a2), some (.int a3), some (.ref q2)]) (st' := [.int (-2)]) (M' := M2) rfl rfl trivial ?_
        cases h
        exact hr_Gret mf_X10_rule lb_X10_rule_39 rfl rfl trivial
      · refine hr_Grun mf_X10_rule lb_X10_rule_28 (P := True) (pc' := if a3 < 0 then 37 else 32) (ls' := [some (.ref 0), some (.int a1), some (.int a2), some (.int a3), some (.ref q2)]) (st' := []) (M' := M2) rfl rfl trivial ?_
        refine hr_Gif h (fun _ h => ?_) (fun _ h => ?_)
        · refine hr_Grun mf_X10_rule lb_X10_rule_37 (P := True) (pc' := 39) (ls' := [some (.ref 0), some (.int a1), some (.int a2), some (.int a3), some (.ref q2)]) (st' := [.int (-2)]) (M' := M2) rfl rfl trivial ?_
          cases h
          exact hr_Gret mf_X10_rule lb_X10_rule_39 rfl rfl trivial
        · refine hr_Grun mf_X10_rule lb_X10_rule_32 (P := True) (pc' := if a3 ≤ 2 then 40 else 37) (ls' := [some (.ref 0), some (.int a1), some (.int a2), some (.int a3), some (.ref q2)]) (st' := []) (M' := M2) rfl rfl trivial ?_
          refine hr_Gif h (fun _ h => ?_) (fun _ h => ?_)
          · refine hr_Fg h (fun hg13_0 h => ?_)
            refine hr_Grun mf_X10_rule lb_X10_rule_40 (P := hr_K q2 = 3 ∧ (hr_K (q2 + 2) = 12 ∧ vp_in ((3 * a2) + a3) (hr_N (q2 + 2))) ∧ True) (pc' := 51) (ls' := [some (.ref 0), some (.int a1), some (.int a2), some (.int a3), some (.ref q2)]) (st' := [.int (M2.1 (q2 + 2) ((3 * a2) + a3).toNatClampNeg)]) (M' := M2) rfl rfl ⟨kq2, ⟨(kf_3_3 kq2).1, (inB_N (kf_3_3 kq2).2.1 hg13_0)⟩, trivial⟩ ?_
            cases h
            exact hr_Gret mf_X10_rule lb_X10_rule_51 rfl rfl trivial
          · refine hr_Grun mf_X10_rule lb_X10_rule_37 (P := True) (pc' := 39) (ls' := [some (.ref 0), some (.int a1), some (.int a2), some (.int a3), some (.ref q2)]) (st' := [.int (-2)]) (M' := M2) rfl rfl trivial ?_
            cases h
            exact hr_Gret mf_X10_rule lb_X10_rule_39 rfl rfl trivial
theorem mf_X10_strength : hr_mf 128 10 1 (some .int) 5 3 bk_X10_strength := ⟨rfl, rfl, rfl, rfl, rfl, rfl⟩
theorem lb_X10_strength_0 : bk_X10_strength.lookup 0 = some [(.aload_n 0, 1), (.getfield 10, 3), (.iload_n 1, 1)] := rfl
theorem lb_X10_strength_5 : bk_X10_strength.lookup 5 = some [(.invokevirtual 109, 3)] := rfl
theorem lb_X10_strength_8 : bk_X10_strength.lookup 8 = some [(.astore 4, 2), (.aload 4, 2), (.ifnull 21, 3)] := rfl
theorem lb_X10_strength_15 : bk_X10_strength.lookup 15 = some [(.aload 4, 2), (.iload_n 2, 1)] := rfl
theorem lb_X10_strength_18 : bk_X10_strength.lookup 18 = some [(.invokevirtual 126, 3)] := rfl
theorem lb_X10_strength_21 : bk_X10_strength.lookup 21 = some [(.ifCond .eq 12, 3)] := rfl
theorem lb_X10_strength_24 : bk_X10_strength.lookup 24 = some [(.aload 4, 2), (.iload_n 3, 1)] := rfl
theorem lb_X10_strength_27 : bk_X10_strength.lookup 27 = some [(.invokevirtual 126, 3)] := rfl
theorem lb_X10_strength_30 : bk_X10_strength.lookup 30 = some [(.ifCond .ne 5, 3)] := rfl
theorem lb_X10_strength_33 : bk_X10_strength.lookup 33 = some [(.iconst (-1), 1)] := rfl
theorem lb_X10_strength_34 : bk_X10_strength.lookup 34 = some [(.ireturn, 1)] := rfl
theorem lb_X10_strength_35 : bk_X10_strength.lookup 35 = some [(.aload 4, 2), (.iload_n 2, 1), (.iload_n 3, 1)] := rfl
theorem lb_X10_strength_39 : bk_X10_strength.lookup 39 = some [(.invokevirtual 130, 3)] := rfl
theorem lb_X10_strength_42 : bk_X10_strength.lookup 42 = some [(.ireturn, 1)] := rfl
def f_X10_strength (a1 : Int32) (a2 : Int32) (a3 : Int32) (M : PM) : Option (Int32 × PM) :=
  hr_bd (f_X8_paletteAt a1 M) (fun v2 M2 => match v2 with
  | .null => some ((-1), M2)
  | .ref q2 => if hr_K q2 = 3 then
    hr_bd (f_X4_has q2 a2 M2) (fun v7 M7 =>
    if v7 = 0 then
      some ((-1), M7)
    else
      hr_bd (f_X4_has q2 a3 M7) (fun v11 M11 =>
      if v11 = 0 then
        some ((-1), M11)
      else
        hr_bd (f_X4_strengthOf q2 a2 a3 M11) (fun v15 M15 =>
        some (v15, M15))))
    else none
  | _ => none)
theorem g_X10_strength (a1 : Int32) (a2 : Int32) (a3 : Int32) : ∀ (M : PM) (r : Int32 × PM), f_X10_strength a1 a2 a3 M = some r → hr_G 128 0 [some (.ref 0), some (.int a1), some (.int a2), some (.int a3), none] [] M (some (.int r.1), r.2) := by
  intro M r h
  unfold f_X10_strength at h
  refine hr_Grun mf_X10_strength lb_X10_strength_0 (P := hr_K 0 = 9 ∧ True) (pc' := 5) (ls' := [some (.ref 0), some (.int a1), some (.int a2), some (.int a3), none]) (st' := [.int a1, .ref 1]) (M' := M) rfl rfl ⟨K_0, trivial⟩ ?_
  refine hr_Fb h (fun v2 M2 e2 h => ?_)
  refine hr_Fv h (fun hv h => ?_) (fun q2 hv h => ?_)
  · subst hv
    refine hr_Gcv mf_X10_strength mf_X8_paletteAt lb_X10_strength_5 (b := 1) (as := [.int a1]) (rest := []) (st2 := [.null]) (v := some .null) (M1 := M2) rfl rfl rfl rfl rfl rfl K_1 (g_X8_paletteAt a1 _ _ e2) rfl rfl ?_
    refine hr_Grun mf_X10_strength lb_X10_strength_8 (P := True) (pc' := 33) (ls' := [some (.ref 0), some (.int a1), some (.int a2), some (.int a3), some .null]) (st' := []) (M' := M2) rfl rfl trivial ?_
    refine hr_Grun mf_X10_strength lb_X10_strength_33 (P := True) (pc' := 34) (ls' := [some (.ref 0), some (.int a1), some (.int a2), some (.int a3), some .null]) (st' := [.int (-1)]) (M' := M2) rfl rfl trivial ?_
    cases h
    exact hr_Gret mf_X10_strength lb_X10_strength_34 rfl rfl trivial
  · subst hv
    refine hr_Fg h (fun kq2 h => ?_)
    refine hr_Gcv mf_X10_strength mf_X8_paletteAt lb_X10_strength_5 (b := 1) (as := [.int a1]) (rest := []) (st2 := [.ref q2]) (v := some (.ref q2)) (M1 := M2) rfl rfl rfl rfl rfl rfl K_1 (g_X8_paletteAt a1 _ _ e2) rfl rfl ?_
    refine hr_Grun mf_X10_strength lb_X10_strength_8 (P := True) (pc' := 15) (ls' := [some (.ref 0), some (.int a1), some (.int a2), some (.int a3), some (.ref q2)]) (st' := []) (M' := M2) rfl rfl trivial ?_
    refine hr_Grun mf_X10_strength lb_X10_strength_15 (P := True) (pc' := 18) (ls' := [some (.ref 0), some (.int a1), some (.int a2), some (.int a3), some (.ref q2)]) (st' := [.int a2, .ref q2]) (M' := M2) rfl rfl trivial ?_
    refine hr_Fb h (fun v7 M7 e7 h => ?_)
    refine hr_Gcv mf_X10_strength mf_X4_has lb_X10_strength_18 (b := q2) (as := [.int a2]) (rest := []) (st2 := [.int v7]) (v := some (.int v7)) (M1 := M7) rfl rfl rfl rfl rfl rfl kq2 (g_X4_has q2 a2 _ _ e7) rfl rfl ?_
    refine hr_Grun mf_X10_strength lb_X10_strength_21 (P := True) (pc' := if v7 = 0 then 33 else 24) (ls' := [some (.ref 0), some (.int a1), some (.int a2), some (.int a3), some (.ref q2)]) (st' := []) (M' := M7) rfl rfl trivial ?_
    refine hr_Gif h (fun _ h => ?_) (fun _ h => ?_)
    · refine hr_Grun mf_X10_strength lb_X10_strength_33 (P := True) (pc' := 34) (ls' := [some (.ref 0), some (.int a1), some (.int a2), some (.int a3), some (.ref q2)]) (st' := [.int (-1)]) (M' := M7) rfl rfl trivial ?_
      cases h
      exact hr_Gret mf_X10_strength lb_X10_strength_34 rfl rfl trivial
    · refine hr_Grun mf_X10_strength lb_X10_strength_24 (P := True) (pc' := 27) (ls' := [some (.ref 0), some (.int a1), some (.int a2), some (.int a3), some (.ref q2)]) (st' := [.int a3, .ref q2]) (M' := M7) rfl rfl trivial ?_
      refine hr_Fb h (fun v11 M11 e11 h => ?_)
      refine hr_Gcv mf_X10_strength mf_X4_has lb_X10_strength_27 (b := q2) (as := [.int a3]) (rest := []) (st2 := [.int v11]) (v := some (.int v11)) (M1 := M11) rfl rfl rfl rfl rfl rfl kq2 (g_X4_has q2 a3 _ _ e11) rfl rfl ?_
      refine hr_Grun mf_X10_strength lb_X10_strength_30 (P := True) (pc' := if v11 = 0 then 33 else 35) (ls' := [some (.ref 0), some (.int a1), some (.int a2), some (.int a3), some (.ref q2)]) (st' := []) (M' := M11) rfl rfl trivial ?_
      refine hr_Gif h (fun _ h => ?_) (fun _ h => ?_)
      · refine hr_Grun mf_X10_strength lb_X10_strength_33 (P := True) (pc' := 34) (ls' := [some (.ref 0), some (.int a1), some (.int a2), some (.int a3), some (.ref q2)]) (st' := [.int (-1)]) (M' := M11) rfl rfl trivial ?_
        cases h
        exact hr_Gret mf_X10_strength lb_X10_strength_34 rfl rfl trivial
      · refine hr_Grun mf_X10_strength lb_X10_strength_35 (P := True) (pc' := 39) (ls' := [some (.ref 0), some (.int a1), some (.int a2), some (.int a3), some (.ref q2)]) (st' := [.int a3, .int a2, .ref q2]) (M' := M11) rfl rfl trivial ?_
        refine hr_Fb h (fun v15 M15 e15 h => ?_)
        refine hr_Gcv mf_X10_strength mf_X4_strengthOf lb_X10_strength_39 (b := q2) (as := [.int a2, .int a3]) (rest := []) (st2 := [.int v15]) (v := some (.int v15)) (M1 := M15) rfl rfl rfl rfl rfl rfl kq2 (g_X4_strengthOf q2 a2 a3 _ _ e15) rfl rfl ?_
        cases h
        exact hr_Gret mf_X10_strength lb_X10_strength_42 rfl rfl trivial
theorem mf_X10_isTone : hr_mf 159 10 0 (some .boolean) 1 1 bk_X10_isTone := ⟨rfl, rfl, rfl, rfl, rfl, rfl⟩
theorem lb_X10_isTone_0 : bk_X10_isTone.lookup 0 = some [(.iload_n 0, 1), (.ifCond .lt 13, 3)] := rfl
theorem lb_X10_isTone_4 : bk_X10_isTone.lookup 4 = some [(.iload_n 0, 1), (.bipush 10, 2), (.if_icmp .ge 7, 3)] := rfl
theorem lb_X10_isTone_10 : bk_X10_isTone.lookup 10 = some [(.iconst 1, 1), (.goto 4, 3)] := rfl
theorem lb_X10_isTone_14 : bk_X10_isTone.lookup 14 = some [(.iconst 0, 1)] := rfl
theorem lb_X10_isTone_15 : bk_X10_isTone.lookup 15 = some [(.ireturn, 1)] := rfl
def f_X10_isTone (a0 : Int32) (M : PM) : Option (Int32 × PM) :=
  if a0 < 0 then
    some (0, M)
  else
    if 10 ≤ a0 then
      some (0, M)
    else
      some (1, M)
theorem g_X10_isTone (a0 : Int32) : ∀ (M : PM) (r : Int32 × PM), f_X10_isTone a0 M = some r → hr_G 159 0 [some (.int a0)] [] M (some (.int r.1), r.2) := by
  intro M r h
  unfold f_X10_isTone at h
  refine hr_Grun mf_X10_isTone lb_X10_isTone_0 (P := True) (pc' := if a0 < 0 then 14 else 4) (ls' := [some (.int a0)]) (st' := []) (M' := M) rfl rfl trivial ?_
  refine hr_Gif h (fun _ h => ?_) (fun _ h => ?_)
  · refine hr_Grun mf_X10_isTone lb_X10_isTone_14 (P := True) (pc' := 15) (ls' := [some (.int a0)]) (st' := [.int 0]) (M' := M) rfl rfl trivial ?_
    cases h
    exact hr_Gret mf_X10_isTone lb_X10_isTone_15 rfl rfl (Or.inl rfl)
  · refine hr_Grun mf_X10_isTone lb_X10_isTone_4 (P := True) (pc' := if 10 ≤ a0 then 14 else 10) (ls' := [some (.int a0)]) (st' := []) (M' := M) rfl rfl trivial ?_
    refine hr_Gif h (fun _ h => ?_) (fun _ h => ?_)
    · refine hr_Grun mf_X10_isTone lb_X10_isTone_14 (P := True) (pc' := 15) (ls' := [some (.int a0)]) (st' := [.int 0]) (M' := M) rfl rfl trivial ?_
      cases h
      exact hr_Gret mf_X10_isTone lb_X10_isTone_15 rfl rfl (Or.inl rfl)
    · refine hr_Grun mf_X10_isTone lb_X10_isTone_10 (P := True) (pc' := 15) (ls' := [some (.int a0)]) (st' := [.int 1]) (M' := M) rfl rfl trivial ?_
      cases h
      exact hr_Gret mf_X10_isTone lb_X10_isTone_15 rfl rfl (Or.inr rfl)
theorem mf_X10_minds : hr_mf 129 10 3 (some .int) 7 5 bk_X10_minds := ⟨rfl, rfl, rfl, rfl, rfl, rfl⟩
theorem lb_X10_minds_0 : bk_X10_minds.lookup 0 = some [(.aload_n 0, 1), (.getfield 10, 3), (.iload_n 1, 1)] := rfl
theorem lb_X10_minds_5 : bk_X10_minds.lookup 5 = some [(.invokevirtual 109, 3)] := rfl
theorem lb_X10_minds_8 : bk_X10_minds.lookup 8 = some [(.astore 6, 2), (.aload 6, 2), (.ifnull 12, 3)] := rfl
theorem lb_X10_minds_15 : bk_X10_minds.lookup 15 = some [(.aload 6, 2), (.iload_n 2, 1)] := rfl
theorem lb_X10_minds_18 : bk_X10_minds.lookup 18 = some [(.invokevirtual 126, 3)] := rfl
theorem lb_X10_minds_21 : bk_X10_minds.lookup 21 = some [(.ifCond .ne 5, 3)] := rfl
theorem lb_X10_minds_24 : bk_X10_minds.lookup 24 = some [(.iconst (-1), 1)] := rfl
theorem lb_X10_minds_25 : bk_X10_minds.lookup 25 = some [(.ireturn, 1)] := rfl
theorem lb_X10_minds_26 : bk_X10_minds.lookup 26 = some [(.iload_n 3, 1)] := rfl
theorem lb_X10_minds_27 : bk_X10_minds.lookup 27 = some [(.invokestatic 133, 3)] := rfl
theorem lb_X10_minds_30 : bk_X10_minds.lookup 30 = some [(.ifCond .eq 19, 3)] := rfl
theorem lb_X10_minds_33 : bk_X10_minds.lookup 33 = some [(.iload 4, 2)] := rfl
theorem lb_X10_minds_35 : bk_X10_minds.lookup 35 = some [(.invokestatic 133, 3)] := rfl
theorem lb_X10_minds_38 : bk_X10_minds.lookup 38 = some [(.ifCond .eq 11, 3)] := rfl
theorem lb_X10_minds_41 : bk_X10_minds.lookup 41 = some [(.iload 5, 2)] := rfl
theorem lb_X10_minds_43 : bk_X10_minds.lookup 43 = some [(.invokestatic 133, 3)] := rfl
theorem lb_X10_minds_46 : bk_X10_minds.lookup 46 = some [(.ifCond .ne 5, 3)] := rfl
theorem lb_X10_minds_49 : bk_X10_minds.lookup 49 = some [(.iconst (-1), 1)] := rfl
theorem lb_X10_minds_50 : bk_X10_minds.lookup 50 = some [(.ireturn, 1)] := rfl
theorem lb_X10_minds_51 : bk_X10_minds.lookup 51 = some [(.aload 6, 2), (.iload_n 2, 1), (.iload_n 3, 1), (.iload 4, 2), (.iload 5, 2)] := rfl
theorem lb_X10_minds_59 : bk_X10_minds.lookup 59 = some [(.invokevirtual 136, 3)] := rfl
theorem lb_X10_minds_62 : bk_X10_minds.lookup 62 = some [(.ireturn, 1)] := rfl
def f_X10_minds (a1 : Int32) (a2 : Int32) (a3 : Int32) (a4 : Int32) (a5 : Int32) (M : PM) : Option (Int32 × PM) :=
  hr_bd (f_X8_paletteAt a1 M) (fun v2 M2 => match v2 with
  | .null => some ((-1), M2)
  | .ref q2 => if hr_K q2 = 3 then
    hr_bd (f_X4_has q2 a2 M2) (fun v7 M7 =>
    if v7 = 0 then
      some ((-1), M7)
    else
      hr_bd (f_X10_isTone a3 M7) (fun v11 M11 =>
      if v11 = 0 then
        some ((-1), M11)
      else
        hr_bd (f_X10_isTone a4 M11) (fun v15 M15 =>
        if v15 = 0 then
          some ((-1), M15)
        else
          hr_bd (f_X10_isTone a5 M15) (fun v19 M19 =>
          if v19 = 0 then
            some ((-1), M19)
          else
            hr_bd (f_X4_strengthWith q2 a2 a3 a4 a5 M19) (fun v23 M23 =>
            some (v23, M23))))))
    else none
  | _ => none)
theorem g_X10_minds (a1 : Int32) (a2 : Int32) (a3 : Int32) (a4 : Int32) (a5 : Int32) : ∀ (M : PM) (r : Int32 × PM), f_X10_minds a1 a2 a3 a4 a5 M = some r → hr_G 129 0 [some (.ref 0), some (.int a1), some (.int a2), some (.int a3), some (.int a4), some (.int a5), none] [] M (some (.int r.1), r.2) := by
  intro M r h
  unfold f_X10_minds at h
  refine hr_Grun mf_X10_minds lb_X10_minds_0 (P := hr_K 0 = 9 ∧ True) (pc' := 5) (ls' := [some (.ref 0), some (.int a1), some (.int a2), some (.int a3), some (.int a4), some (.int a5), none]) (st' := [.int a1, .ref 1]) (M' := M) rfl rfl ⟨K_0, trivial⟩ ?_
  refine hr_Fb h (fun v2 M2 e2 h => ?_)
  refine hr_Fv h (fun hv h => ?_) (fun q2 hv h => ?_)
  · subst hv
    refine hr_Gcv mf_X10_minds mf_X8_paletteAt lb_X10_minds_5 (b := 1) (as := [.int a1]) (rest := []) (st2 := [.null]) (v := some .null) (M1 := M2) rfl rfl rfl rfl rfl rfl K_1 (g_X8_paletteAt a1 _ _ e2) rfl rfl ?_
    refine hr_Grun mf_X10_minds lb_X10_minds_8 (P := True) (pc' := 24) (ls' := [some (.ref 0), some (.int a1), some (.int a2), some (.int a3), some (.int a4), some (.int a5), some .null]) (st' := []) (M' := M2) rfl rfl trivial ?_
    refine hr_Grun mf_X10_minds lb_X10_minds_24 (P := True) (pc' := 25) (ls' := [some (.ref 0), some (.int a1), some (.int a2), some (.int a3), some (.int a4), some (.int a5), some .null]) (st' := [.int (-1)]) (M' := M2) rfl rfl trivial ?_
    cases h
    exact hr_Gret mf_X10_minds lb_X10_minds_25 rfl rfl trivial
  · subst hv
    refine hr_Fg h (fun kq2 h => ?_)
    refine hr_Gcv mf_X10_minds mf_X8_paletteAt lb_X10_minds_5 (b := 1) (as := [.int a1]) (rest := []) (st2 := [.ref q2]) (v := some (.ref q2)) (M1 := M2) rfl rfl rfl rfl rfl rfl K_1 (g_X8_paletteAt a1 _ _ e2) rfl rfl ?_
    refine hr_Grun mf_X10_minds lb_X10_minds_8 (P := True) (pc' := 15) (ls' := [some (.ref 0), some (.int a1), some (.int a2), some (.int a3), some (.int a4), some (.int a5), some (.ref q2)]) (st' := []) (M' := M2) rfl rfl trivial ?_
    refine hr_Grun mf_X10_minds lb_X10_minds_15 (P := True) (pc' := 18) (ls' := [some (.ref 0), some (.int a1), some (.int a2), some (.int a3), some (.int a4), some (.int a5), some (.ref q2)]) (st' := [.int a2, .ref q2]) (M' := M2) rfl rfl trivial ?_
    refine hr_Fb h (fun v7 M7 e7 h => ?_)
    refine hr_Gcv mf_X10_minds mf_X4_has lb_X10_minds_18 (b := q2) (as := [.int a2]) (rest := []) (st2 := [.int v7]) (v := some (.int v7)) (M1 := M7) rfl rfl rfl rfl rfl rfl kq2 (g_X4_has q2 a2 _ _ e7) rfl rfl ?_
    refine hr_Grun mf_X10_minds lb_X10_minds_21 (P := True) (pc' := if v7 = 0 then 24 else 26) (ls' := [some (.ref 0), some (.int a1), some (.int a2), some (.int a3), some (.int a4), some (.int a5), some (.ref q2)]) (st' := []) (M' := M7) rfl rfl trivial ?_
    refine hr_Gif h (fun _ h => ?_) (fun _ h => ?_)
    · refine hr_Grun mf_X10_minds lb_X10_minds_24 (P := True) (pc' := 25) (ls' := [some (.ref 0), some (.int a1), some (.int a2), some (.int a3), some (.int a4), some (.int a5), some (.ref q2)]) (st' := [.int (-1)]) (M' := M7) rfl rfl trivial ?_
      cases h
      exact hr_Gret mf_X10_minds lb_X10_minds_25 rfl rfl trivial
    · refine hr_Grun mf_X10_minds lb_X10_minds_26 (P := True) (pc' := 27) (ls' := [some (.ref 0), some (.int a1), some (.int a2), some (.int a3), some (.int a4), some (.int a5), some (.ref q2)]) (st' := [.int a3]) (M' := M7) rfl rfl trivial ?_
      refine hr_Fb h (fun v11 M11 e11 h => ?_)
      refine hr_Gcs mf_X10_minds mf_X10_isTone lb_X10_minds_27 (as := [.int a3]) (rest := []) (st2 := [.int v11]) (v := some (.int v11)) (M1 := M11) rfl rfl rfl rfl rfl rfl (g_X10_isTone a3 _ _ e11) rfl rfl ?_
      refine hr_Grun mf_X10_minds lb_X10_minds_30 (P := True) (pc' := if v11 = 0 then 49 else 33) (ls' := [some (.ref 0), some (.int a1), some (.int a2), some (.int a3), some (.int a4), some (.int a5), some (.ref q2)]) (st' := []) (M' := M11) rfl rfl trivial ?_
      refine hr_Gif h (fun _ h => ?_) (fun _ h => ?_)
      · refine hr_Grun mf_X10_minds lb_X10_minds_49 (P := True) (pc' := 50) (ls' := [some (.ref 0), some (.int a1), some (.int a2), some (.int a3), some (.int a4), some (.int a5), some (.ref q2)]) (st' := [.int (-1)]) (M' := M11) rfl rfl trivial ?_
        cases h
        exact hr_Gret mf_X10_minds lb_X10_minds_50 rfl rfl trivial
      · refine hr_Grun mf_X10_minds lb_X10_minds_33 (P := True) (pc' := 35) (ls' := [some (.ref 0), some (.int a1), some (.int a2), some (.int a3), some (.int a4), some (.int a5), some (.ref q2)]) (st' := [.int a4]) (M' := M11) rfl rfl trivial ?_
        refine hr_Fb h (fun v15 M15 e15 h => ?_)
        refine hr_Gcs mf_X10_minds mf_X10_isTone lb_X10_minds_35 (as := [.int a4]) (rest := []) (st2 := [.int v15]) (v := some (.int v15)) (M1 := M15) rfl rfl rfl rfl rfl rfl (g_X10_isTone a4 _ _ e15) rfl rfl ?_
        refine hr_Grun mf_X10_minds lb_X10_minds_38 (P := True) (pc' := if v15 = 0 then 49 else 41) (ls' := [some (.ref 0), some (.int a1), some (.int a2), some (.int a3), some (.int a4), some (.int a5), some (.ref q2)]) (st' := []) (M' := M15) rfl rfl trivial ?_
        refine hr_Gif h (fun _ h => ?_) (fun _ h => ?_)
        · refine hr_Grun mf_X10_minds lb_X10_minds_49 (P := True) (pc' := 50) (ls' := [some (.ref 0), some (.int a1), some (.int a2), some (.int a3), some (.int a4), some (.int a5), some (.ref q2)]) (st' := [.int (-1)]) (M' := M15) rfl rfl trivial ?_
          cases h
          exact hr_Gret mf_X10_minds lb_X10_minds_50 rfl rfl trivial
        · refine hr_Grun mf_X10_minds lb_X10_minds_41 (P := True) (pc' := 43) (ls' := [some (.ref 0), some (.int a1), some (.int a2), some (.int a3), some (.int a4), some (.int a5), some (.ref q2)]) (st' := [.int a5]) (M' := M15) rfl rfl trivial ?_
          refine hr_Fb h (fun v19 M19 e19 h => ?_)
          refine hr_Gcs mf_X10_minds mf_X10_isTone lb_X10_minds_43 (as := [.int a5]) (rest := []) (st2 := [.int v19]) (v := some (.int v19)) (M1 := M19) rfl rfl rfl rfl rfl rfl (g_X10_isTone a5 _ _ e19) rfl rfl ?_
          refine hr_Grun mf_X10_minds lb_X10_minds_46 (P := True) (pc' := if v19 = 0 then 49 else 51) (ls' := [some (.ref 0), some (.int a1), some (.int a2), some (.int a3), some (.int a4), some (.int a5), some (.ref q2)]) (st' := []) (M' := M19) rfl rfl trivial ?_
          refine hr_Gif h (fun _ h => ?_) (fun _ h => ?_)
          · refine hr_Grun mf_X10_minds lb_X10_minds_49 (P := True) (pc' := 50) (ls' := [some (.ref 0), some (.int a1), some (.int a2), some (.int a3), some (.int a4), some (.int a5), some (.ref q2)]) (st' := [.int (-1)]) (M' := M19) rfl rfl trivial ?_
            cases h
            exact hr_Gret mf_X10_minds lb_X10_minds_50 rfl rfl trivial
          · refine hr_Grun mf_X10_minds lb_X10_minds_51 (P := True) (pc' := 59) (ls' := [some (.ref 0), some (.int a1), some (.int a2), some (.int a3), some (.int a4), some (.int a5), some (.ref q2)]) (st' := [.int a5, .int a4, .int a3, .int a2, .ref q2]) (M' := M19) rfl rfl trivial ?_
            refine hr_Fb h (fun v23 M23 e23 h => ?_)
            refine hr_Gcv mf_X10_minds mf_X4_strengthWith lb_X10_minds_59 (b := q2) (as := [.int a2, .int a3, .int a4, .int a5]) (rest := []) (st2 := [.int v23]) (v := some (.int v23)) (M1 := M23) rfl rfl rfl rfl rfl rfl kq2 (g_X4_strengthWith q2 a2 a3 a4 a5 _ _ e23) rfl rfl ?_
            cases h
            exact hr_Gret mf_X10_minds lb_X10_minds_62 rfl rfl trivial
theorem mf_X10_gallery : hr_mf 130 10 2 (some .int) 4 2 bk_X10_gallery := ⟨rfl, rfl, rfl, rfl, rfl, rfl⟩
theorem lb_X10_gallery_0 : bk_X10_gallery.lookup 0 = some [(.aload_n 0, 1), (.getfield 10, 3), (.iconst 1, 1), (.iload_n 1, 1)] := rfl
theorem lb_X10_gallery_6 : bk_X10_gallery.lookup 6 = some [(.invokevirtual 140, 3)] := rfl
theorem lb_X10_gallery_9 : bk_X10_gallery.lookup 9 = some [(.astore_n 3, 1), (.aload_n 3, 1), (.ifnonnull 5, 3)] := rfl
theorem lb_X10_gallery_14 : bk_X10_gallery.lookup 14 = some [(.iconst (-1), 1)] := rfl
theorem lb_X10_gallery_15 : bk_X10_gallery.lookup 15 = some [(.ireturn, 1)] := rfl
theorem lb_X10_gallery_16 : bk_X10_gallery.lookup 16 = some [(.iload_n 2, 1), (.ifCond .ne 8, 3)] := rfl
theorem lb_X10_gallery_20 : bk_X10_gallery.lookup 20 = some [(.aload_n 3, 1), (.getfield 144, 3)] := rfl
theorem lb_X10_gallery_24 : bk_X10_gallery.lookup 24 = some [(.ireturn, 1)] := rfl
theorem lb_X10_gallery_25 : bk_X10_gallery.lookup 25 = some [(.iload_n 2, 1), (.iconst 1, 1), (.if_icmp .ne 8, 3)] := rfl
theorem lb_X10_gallery_30 : bk_X10_gallery.lookup 30 = some [(.aload_n 3, 1), (.getfield 149, 3)] := rfl
theorem lb_X10_gallery_34 : bk_X10_gallery.lookup 34 = some [(.ireturn, 1)] := rfl
theorem lb_X10_gallery_35 : bk_X10_gallery.lookup 35 = some [(.iload_n 2, 1), (.bipush 10, 2), (.if_icmp .lt 24, 3)] := rfl
theorem lb_X10_gallery_41 : bk_X10_gallery.lookup 41 = some [(.iload_n 2, 1), (.bipush 10, 2), (.aload_n 3, 1), (.getfield 144, 3), (.iadd, 1), (.if_icmp .ge 13, 3)] := rfl
theorem lb_X10_gallery_52 : bk_X10_gallery.lookup 52 = some [(.aload_n 3, 1), (.getfield 152, 3), (.iload_n 2, 1), (.bipush 10, 2), (.isub, 1), (.iaload, 1)] := rfl
theorem lb_X10_gallery_61 : bk_X10_gallery.lookup 61 = some [(.ireturn, 1)] := rfl
theorem lb_X10_gallery_62 : bk_X10_gallery.lookup 62 = some [(.iload_n 2, 1), (.bipush 20, 2), (.if_icmp .lt 24, 3)] := rfl
theorem lb_X10_gallery_68 : bk_X10_gallery.lookup 68 = some [(.iload_n 2, 1), (.bipush 20, 2), (.aload_n 3, 1), (.getfield 144, 3), (.iadd, 1), (.if_icmp .ge 13, 3)] := rfl
theorem lb_X10_gallery_79 : bk_X10_gallery.lookup 79 = some [(.aload_n 3, 1), (.getfield 155, 3), (.iload_n 2, 1), (.bipush 20, 2), (.isub, 1), (.iaload, 1)] := rfl
theorem lb_X10_gallery_88 : bk_X10_gallery.lookup 88 = some [(.ireturn, 1)] := rfl
theorem lb_X10_gallery_89 : bk_X10_gallery.lookup 89 = some [(.iconst (-1), 1)] := rfl
theorem lb_X10_gallery_90 : bk_X10_gallery.lookup 90 = some [(.ireturn, 1)] := rfl
def f_X10_gallery_62 (a1 : Int32) (a2 : Int32) (x3 : Nat) (M : PM) : Option (Int32 × PM) :=
  if a2 < 20 then
    some ((-1), M)
  else
    if (20 + (M.1 x3 0)) ≤ a2 then
      some ((-1), M)
    else
      if inB (a2 - 20) 40 = true then 
      some ((M.1 (x3 + 3) (a2 - 20).toNatClampNeg), M) else none
theorem g_X10_gallery_62 (a1 : Int32) (a2 : Int32)  : ∀ (x3 : Nat) (kx3 : hr_K x3 = 5) (M : PM) (r : Int32 × PM), f_X10_gallery_62 a1 a2 x3 M = some r → hr_G 130 62 [none, none, some (.int a2), some (.ref x3)] [] M (some (.int r.1), r.2) := by
  intro x3 kx3 M r h
  unfold f_X10_gallery_62 at h
  refine hr_Grun mf_X10_gallery lb_X10_gallery_62 (P := True) (pc' := if a2 < 20 then 89 else 68) (ls' := [none, none, some (.int a2), some (.ref x3)]) (st' := []) (M' := M) rfl rfl trivial ?_
  refine hr_Gif h (fun _ h => ?_) (fun _ h => ?_)
  · refine hr_Grun mf_X10_gallery lb_X10_gallery_89 (P := True) (pc' := 90) (ls' := [none, none, some (.int a2), some (.ref x3)]) (st' := [.int (-1)]) (M' := M) rfl rfl trivial ?_
    cases h
    exact hr_Gret mf_X10_gallery lb_X10_gallery_90 rfl rfl trivial
  · refine hr_Grun mf_X10_gallery lb_X10_gallery_68 (P := hr_K x3 = 5 ∧ True) (pc' := if (20 + (M.1 x3 0)) ≤ a2 then 89 else 79) (ls' := [none, none, some (.int a2), some (.ref x3)]) (st' := []) (M' := M) rfl rfl ⟨kx3, trivial⟩ ?_
    refine hr_Gif h (fun _ h => ?_) (fun _ h => ?_)
    · refine hr_Grun mf_X10_gallery lb_X10_gallery_89 (P := True) (pc' := 90) (ls' := [none, none, some (.int a2), some (.ref x3)]) (st' := [.int (-1)]) (M' := M) rfl rfl trivial ?_
      cases h
      exact hr_Gret mf_X10_gallery lb_X10_gallery_90 rfl rfl trivial
    · refine hr_Fg h (fun hg5_0 h => ?_)
      refine hr_Grun mf_X10_gallery lb_X10_gallery_79 (P := hr_K x3 = 5 ∧ (hr_K (x3 + 3) = 12 ∧ vp_in (a2 - 20) (hr_N (x3 + 3))) ∧ True) (pc' := 88) (ls' := [none, none, some (.int a2), some (.ref x3)]) (st' := [.int (M.1 (x3 + 3) (a2 - 20).toNatClampNeg)]) (M' := M) rfl rfl ⟨kx3, ⟨(kf_5_5 kx3).1, (inB_N (kf_5_5 kx3).2.1 hg5_0)⟩, trivial⟩ ?_
      cases h
      exact hr_Gret mf_X10_gallery lb_X10_gallery_88 rfl rfl trivial
def f_X10_gallery (a1 : Int32) (a2 : Int32) (M : PM) : Option (Int32 × PM) :=
  hr_bd (f_X8_rollAt 1 a1 M) (fun v2 M2 => match v2 with
  | .null => some ((-1), M2)
  | .ref q2 => if hr_K q2 = 5 then
    if a2 = 0 then
      some ((M2.1 q2 0), M2)
    else
      if a2 = 1 then
        some ((M2.1 q2 1), M2)
      else
        if a2 < 10 then
          f_X10_gallery_62 a1 a2 q2 M2
        else
          if (10 + (M2.1 q2 0)) ≤ a2 then
            f_X10_gallery_62 a1 a2 q2 M2
          else
            if inB (a2 - 10) 40 = true then 
            some ((M2.1 (q2 + 2) (a2 - 10).toNatClampNeg), M2) else none
    else none
  | _ => none)
theorem g_X10_gallery (a1 : Int32) (a2 : Int32) : ∀ (M : PM) (r : Int32 × PM), f_X10_gallery a1 a2 M = some r → hr_G 130 0 [some (.ref 0), some (.int a1), some (.int a2), none] [] M (some (.int r.1), r.2) := by
  intro M r h
  unfold f_X10_gallery at h
  refine hr_Grun mf_X10_gallery lb_X10_gallery_0 (P := hr_K 0 = 9 ∧ True) (pc' := 6) (ls' := [some (.ref 0), some (.int a1), some (.int a2), none]) (st' := [.int a1, .int 1, .ref 1]) (M' := M) rfl rfl ⟨K_0, trivial⟩ ?_
  refine hr_Fb h (fun v2 M2 e2 h => ?_)
  refine hr_Fv h (fun hv h => ?_) (fun q2 hv h => ?_)
  · subst hv
    refine hr_Gcv mf_X10_gallery mf_X8_rollAt lb_X10_gallery_6 (b := 1) (as := [.int 1, .int a1]) (rest := []) (st2 := [.null]) (v := some .null) (M1 := M2) rfl rfl rfl rfl rfl rfl K_1 (g_X8_rollAt 1 a1 _ _ e2) rfl rfl ?_
    refine hr_Grun mf_X10_gallery lb_X10_gallery_9 (P := True) (pc' := 14) (ls' := [some (.ref 0), some (.int a1), some (.int a2), some .null]) (st' := []) (M' := M2) rfl rfl trivial ?_
    refine hr_Grun mf_X10_gallery lb_X10_gallery_14 (P := True) (pc' := 15) (ls' := [some (.ref 0), some (.int a1), some (.int a2), some .null]) (st' := [.int (-1)]) (M' := M2) rfl rfl trivial ?_
    cases h
    exact hr_Gret mf_X10_gallery lb_X10_gallery_15 rfl rfl trivial
  · subst hv
    refine hr_Fg h (fun kq2 h => ?_)
    refine hr_Gcv mf_X10_gallery mf_X8_rollAt lb_X10_gallery_6 (b := 1) (as := [.int 1, .int a1]) (rest := []) (st2 := [.ref q2]) (v := some (.ref q2)) (M1 := M2) rfl rfl rfl rfl rfl rfl K_1 (g_X8_rollAt 1 a1 _ _ e2) rfl rfl ?_
    refine hr_Grun mf_X10_gallery lb_X10_gallery_9 (P := True) (pc' := 16) (ls' := [some (.ref 0), some (.int a1), some (.int a2), some (.ref q2)]) (st' := []) (M' := M2) rfl rfl trivial ?_
    refine hr_Grun mf_X10_gallery lb_X10_gallery_16 (P := True) (pc' := if a2 = 0 then 20 else 25) (ls' := [some (.ref 0), some (.int a1), some (.int a2), some (.ref q2)]) (st' := []) (M' := M2) rfl rfl trivial ?_
    refine hr_Gif h (fun _ h => ?_) (fun _ h => ?_)
    · refine hr_Grun mf_X10_gallery lb_X10_gallery_20 (P := hr_K q2 = 5 ∧ True) (pc' := 24) (ls' := [some (.ref 0), some (.int a1), some (.int a2), some (.ref q2)]) (st' := [.int (M2.1 q2 0)]) (M' := M2) rfl rfl ⟨kq2, trivial⟩ ?_
      cases h
      exact hr_Gret mf_X10_gallery lb_X10_gallery_24 rfl rfl trivial
    · refine hr_Grun mf_X10_gallery lb_X10_gallery_25 (P := True) (pc' := if a2 = 1 then 30 else 35) (ls' := [some (.ref 0), some (.int a1), some (.int a2), some (.ref q2)]) (st' := []) (M' := M2) rfl rfl trivial ?_
      refine hr_Gif h (fun _ h => ?_) (fun _ h => ?_)
      · refine hr_Grun mf_X10_gallery lb_X10_gallery_30 (P := hr_K q2 = 5 ∧ True) (pc' := 34) (ls' := [some (.ref 0), some (.int a1), some (.int a2), some (.ref q2)]) (st' := [.int (M2.1 q2 1)]) (M' := M2) rfl rfl ⟨kq2, trivial⟩ ?_
        cases h
        exact hr_Gret mf_X10_gallery lb_X10_gallery_34 rfl rfl trivial
      · refine hr_Grun mf_X10_gallery lb_X10_gallery_35 (P := True) (pc' := if a2 < 10 then 62 else 41) (ls' := [some (.ref 0), some (.int a1), some (.int a2), some (.ref q2)]) (st' := []) (M' := M2) rfl rfl trivial ?_
        refine hr_Gif h (fun _ h => ?_) (fun _ h => ?_)
        · refine hr_Gle (ls := [none, none, some (.int a2), some (.ref q2)]) (hr_le_n (hr_le_n (hr_le_s (hr_le_s hr_le_0)))) ?_
          exact g_X10_gallery_62 a1 a2 q2 kq2 M2 _ h
        · refine hr_Grun mf_X10_gallery lb_X10_gallery_41 (P := hr_K q2 = 5 ∧ True) (pc' := if (10 + (M2.1 q2 0)) ≤ a2 then 62 else 52) (ls' := [some (.ref 0), some (.int a1), some (.int a2), some (.ref q2)]) (st' := []) (M' := M2) rfl rfl ⟨kq2, trivial⟩ ?_
          refine hr_Gif h (fun _ h => ?_) (fun _ h => ?_)
          · refine hr_Gle (ls := [none, none, some (.int a2), some (.ref q2)]) (hr_le_n (hr_le_n (hr_le_s (hr_le_s hr_le_0)))) ?_
            exact g_X10_gallery_62 a1 a2 q2 kq2 M2 _ h
          · refine hr_Fg h (fun hg12_0 h => ?_)
            refine hr_Grun mf_X10_gallery lb_X10_gallery_52 (P := hr_K q2 = 5 ∧ (hr_K (q2 + 2) = 12 ∧ vp_in (a2 - 10) (hr_N (q2 + 2))) ∧ True) (pc' := 61) (ls' := [some (.ref 0), some (.int a1), some (.int a2), some (.ref q2)]) (st' := [.int (M2.1 (q2 + 2) (a2 - 10).toNatClampNeg)]) (M' := M2) rfl rfl ⟨kq2, ⟨(kf_5_4 kq2).1, (inB_N (kf_5_4 kq2).2.1 hg12_0)⟩, trivial⟩ ?_
            cases h
            exact hr_Gret mf_X10_gallery lb_X10_gallery_61 rfl rfl trivial
theorem mf_X10_lineOf : hr_mf 157 10 1 (some .int) 3 3 bk_X10_lineOf := ⟨rfl, rfl, rfl, rfl, rfl, rfl⟩
theorem lb_X10_lineOf_0 : bk_X10_lineOf.lookup 0 = some [(.aload_n 0, 1), (.ifnonnull 6, 3)] := rfl
theorem lb_X10_lineOf_4 : bk_X10_lineOf.lookup 4 = some [(.bipush (-2), 2)] := rfl
theorem lb_X10_lineOf_6 : bk_X10_lineOf.lookup 6 = some [(.ireturn, 1)] := rfl
theorem lb_X10_lineOf_7 : bk_X10_lineOf.lookup 7 = some [(.iload_n 1, 1), (.iconst (-1), 1), (.if_icmp .ne 17, 3)] := rfl
theorem lb_X10_lineOf_12 : bk_X10_lineOf.lookup 12 = some [(.iload_n 2, 1), (.ifCond .ne 10, 3)] := rfl
theorem lb_X10_lineOf_16 : bk_X10_lineOf.lookup 16 = some [(.aload_n 0, 1), (.getfield 144, 3), (.goto 5, 3)] := rfl
theorem lb_X10_lineOf_23 : bk_X10_lineOf.lookup 23 = some [(.bipush (-2), 2)] := rfl
theorem lb_X10_lineOf_25 : bk_X10_lineOf.lookup 25 = some [(.ireturn, 1)] := rfl
theorem lb_X10_lineOf_26 : bk_X10_lineOf.lookup 26 = some [(.aload_n 0, 1), (.iload_n 1, 1)] := rfl
theorem lb_X10_lineOf_28 : bk_X10_lineOf.lookup 28 = some [(.invokevirtual 279, 3)] := rfl
theorem lb_X10_lineOf_31 : bk_X10_lineOf.lookup 31 = some [(.ifCond .ne 6, 3)] := rfl
theorem lb_X10_lineOf_34 : bk_X10_lineOf.lookup 34 = some [(.bipush (-2), 2)] := rfl
theorem lb_X10_lineOf_36 : bk_X10_lineOf.lookup 36 = some [(.ireturn, 1)] := rfl
theorem lb_X10_lineOf_37 : bk_X10_lineOf.lookup 37 = some [(.iload_n 2, 1), (.tableswitch 47 0 2 #[26, 33, 40], 26)] := rfl
theorem lb_X10_lineOf_64 : bk_X10_lineOf.lookup 64 = some [(.aload_n 0, 1), (.getfield 318, 3), (.iload_n 1, 1), (.iaload, 1)] := rfl
theorem lb_X10_lineOf_70 : bk_X10_lineOf.lookup 70 = some [(.ireturn, 1)] := rfl
theorem lb_X10_lineOf_71 : bk_X10_lineOf.lookup 71 = some [(.aload_n 0, 1), (.getfield 152, 3), (.iload_n 1, 1), (.iaload, 1)] := rfl
theorem lb_X10_lineOf_77 : bk_X10_lineOf.lookup 77 = some [(.ireturn, 1)] := rfl
theorem lb_X10_lineOf_78 : bk_X10_lineOf.lookup 78 = some [(.aload_n 0, 1), (.getfield 155, 3), (.iload_n 1, 1), (.iaload, 1)] := rfl
theorem lb_X10_lineOf_84 : bk_X10_lineOf.lookup 84 = some [(.ireturn, 1)] := rfl
theorem lb_X10_lineOf_85 : bk_X10_lineOf.lookup 85 = some [(.bipush (-2), 2)] := rfl
theorem lb_X10_lineOf_87 : bk_X10_lineOf.lookup 87 = some [(.ireturn, 1)] := rfl
def f_X10_lineOf (a0 : Value) (a1 : Int32) (a2 : Int32) (M : PM) : Option (Int32 × PM) :=
  match a0 with
  | .null => some ((-2), M)
  | .ref ra0 => if hr_K ra0 = 5 then
    if a1 = (-1) then
      if a2 = 0 then
        some ((M.1 ra0 0), M)
      else
        some ((-2), M)
    else
      hr_bd (f_X6_has ra0 a1 M) (fun v9 M9 =>
      if v9 = 0 then
        some ((-2), M9)
      else
        if a2 = 0 then
          if inB a1 40 = true then 
          some ((M9.1 (ra0 + 1) a1.toNatClampNeg), M9) else none
        else if a2 = 1 then
          if inB a1 40 = true then 
          some ((M9.1 (ra0 + 2) a1.toNatClampNeg), M9) else none
        else if a2 = 2 then
          if inB a1 40 = true then 
          some ((M9.1 (ra0 + 3) a1.toNatClampNeg), M9) else none
        else 
          some ((-2), M9))
    else none
  | _ => none
theorem g_X10_lineOf (a0 : Value) (a1 : Int32) (a2 : Int32) : ∀ (M : PM) (r : Int32 × PM), f_X10_lineOf a0 a1 a2 M = some r → hr_G 157 0 [some a0, some (.int a1), some (.int a2)] [] M (some (.int r.1), r.2) := by
  intro M r h
  unfold f_X10_lineOf at h
  refine hr_Fv h (fun hv h => ?_) (fun ra0 hv h => ?_)
  · subst hv
    refine hr_Grun mf_X10_lineOf lb_X10_lineOf_0 (P := True) (pc' := 4) (ls' := [some .null, some (.int a1), some (.int a2)]) (st' := []) (M' := M) rfl rfl trivial ?_
    refine hr_Grun mf_X10_lineOf lb_X10_lineOf_4 (P := True) (pc' := 6) (ls' := [some .null, some (.int a1), some (.int a2)]) (st' := [.int (-2)]) (M' := M) rfl rfl trivial ?_
    cases h
    exact hr_Gret mf_X10_lineOf lb_X10_lineOf_6 rfl rfl trivial
  · subst hv
    refine hr_Fg h (fun kra0 h => ?_)
    refine hr_Grun mf_X10_lineOf lb_X10_lineOf_0 (P := True) (pc' := 7) (ls' := [some (.ref ra0), some (.int a1), some (.int a2)]) (st' := []) (M' := M) rfl rfl trivial ?_
    refine hr_Grun mf_X10_lineOf lb_X10_lineOf_7 (P := True) (pc' := if a1 = (-1) then 12 else 26) (ls' := [some (.ref ra0), some (.int a1), some (.int a2)]) (st' := []) (M' := M) rfl rfl trivial ?_
    refine hr_Gif h (fun _ h => ?_) (fun _ h => ?_)
    · refine hr_Grun mf_X10_lineOf lb_X10_lineOf_12 (P := True) (pc' := if a2 = 0 then 16 else 23) (ls' := [some (.ref ra0), some (.int a1), some (.int a2)]) (st' := []) (M' := M) rfl rfl trivial ?_
      refine hr_Gif h (fun _ h => ?_) (fun _ h => ?_)
      · refine hr_Grun mf_X10_lineOf lb_X10_lineOf_16 (P := hr_K ra0 = 5 ∧ True) (pc' := 25) (ls' := [some (.ref ra0), some (.int a1), some (.int a2)]) (st' := [.int (M.1 ra0 0)]) (M' := M) rfl rfl ⟨kra0, trivial⟩ ?_
        cases h
        exact hr_Gret mf_X10_lineOf lb_X10_lineOf_25 rfl rfl trivial
      · refine hr_Grun mf_X10_lineOf lb_X10_lineOf_23 (P := True) (pc' := 25) (ls' := [some (.ref ra0), some (.int a1), some (.int a2)]) (st' := [.int (-2)]) (M' := M) rfl rfl trivial ?_
        cases h
        exact hr_Gret mf_X10_lineOf lb_X10_lineOf_25 rfl rfl trivial
    · refine hr_Grun mf_X10_lineOf lb_X10_lineOf_26 (P := True) (pc' := 28) (ls' := [some (.ref ra0), some (.int a1), some (.int a2)]) (st' := [.int a1, .ref ra0]) (M' := M) rfl rfl trivial ?_
      refine hr_Fb h (fun v9 M9 e9 h => ?_)
      refine hr_Gcv mf_X10_lineOf mf_X6_has lb_X10_lineOf_28 (b := ra0) (as := [.int a1]) (rest := []) (st2 := [.int v9]) (v := some (.int v9)) (M1 := M9) rfl rfl rfl rfl rfl rfl kra0 (g_X6_has ra0 a1 _ _ e9) rfl rfl ?_
      refine hr_Grun mf_X10_lineOf lb_X10_lineOf_31 (P := True) (pc' := if v9 = 0 then 34 else 37) (ls' := [some (.ref ra0), some (.int a1), some (.int a2)]) (st' := []) (M' := M9) rfl rfl trivial ?_
      refine hr_Gif h (fun _ h => ?_) (fun _ h => ?_)
      · refine hr_Grun mf_X10_lineOf lb_X10_lineOf_34 (P := True) (pc' := 36) (ls' := [some (.ref ra0), some (.int a1), some (.int a2)]) (st' := [.int (-2)]) (M' := M9) rfl rfl trivial ?_
        cases h
        exact hr_Gret mf_X10_lineOf lb_X10_lineOf_36 rfl rfl trivial
      · refine hr_Grun mf_X10_lineOf lb_X10_lineOf_37 (P := True) (pc' := if a2 = 0 then 64 else if a2 = 1 then 71 else if a2 = 2 then 78 else 85) (ls' := [some (.ref ra0), some (.int a1), some (.int a2)]) (st' := []) (M' := M9) rfl rfl trivial ?_
        refine hr_Gif h (fun _ h => ?_) (fun _ h => ?_)
        · refine hr_Fg h (fun hg13_0 h => ?_)
          refine hr_Grun mf_X10_lineOf lb_X10_lineOf_64 (P := hr_K ra0 = 5 ∧ (hr_K (ra0 + 1) = 12 ∧ vp_in a1 (hr_N (ra0 + 1))) ∧ True) (pc' := 70) (ls' := [some (.ref ra0), some (.int a1), some (.int a2)]) (st' := [.int (M9.1 (ra0 + 1) a1.toNatClampNeg)]) (M' := M9) rfl rfl ⟨kra0, ⟨(kf_5_3 kra0).1, (inB_N (kf_5_3 kra0).2.1 hg13_0)⟩, trivial⟩ ?_
          cases h
          exact hr_Gret mf_X10_lineOf lb_X10_lineOf_70 rfl rfl trivial
        refine hr_Gif h (fun _ h => ?_) (fun _ h => ?_)
        · refine hr_Fg h (fun hg14_0 h => ?_)
          refine hr_Grun mf_X10_lineOf lb_X10_lineOf_71 (P := hr_K ra0 = 5 ∧ (hr_K (ra0 + 2) = 12 ∧ vp_in a1 (hr_N (ra0 + 2))) ∧ True) (pc' := 77) (ls' := [some (.ref ra0), some (.int a1), some (.int a2)]) (st' := [.int (M9.1 (ra0 + 2) a1.toNatClampNeg)]) (M' := M9) rfl rfl ⟨kra0, ⟨(kf_5_4 kra0).1, (inB_N (kf_5_4 kra0).2.1 hg14_0)⟩, trivial⟩ ?_
          cases h
          exact hr_Gret mf_X10_lineOf lb_X10_lineOf_77 rfl rfl trivial
        refine hr_Gif h (fun _ h => ?_) (fun _ h => ?_)
        · refine hr_Fg h (fun hg15_0 h => ?_)
          refine hr_Grun mf_X10_lineOf lb_X10_lineOf_78 (P := hr_K ra0 = 5 ∧ (hr_K (ra0 + 3) = 12 ∧ vp_in a1 (hr_N (ra0 + 3))) ∧ True) (pc' := 84) (ls' := [some (.ref ra0), some (.int a1), some (.int a2)]) (st' := [.int (M9.1 (ra0 + 3) a1.toNatClampNeg)]) (M' := M9) rfl rfl ⟨kra0, ⟨(kf_5_5 kra0).1, (inB_N (kf_5_5 kra0).2.1 hg15_0)⟩, trivial⟩ ?_
          cases h
          exact hr_Gret mf_X10_lineOf lb_X10_lineOf_84 rfl rfl trivial
        · refine hr_Grun mf_X10_lineOf lb_X10_lineOf_85 (P := True) (pc' := 87) (ls' := [some (.ref ra0), some (.int a1), some (.int a2)]) (st' := [.int (-2)]) (M' := M9) rfl rfl trivial ?_
          cases h
          exact hr_Gret mf_X10_lineOf lb_X10_lineOf_87 rfl rfl trivial
theorem mf_X10_deed : hr_mf 131 10 2 (some .int) 4 3 bk_X10_deed := ⟨rfl, rfl, rfl, rfl, rfl, rfl⟩
theorem lb_X10_deed_0 : bk_X10_deed.lookup 0 = some [(.aload_n 0, 1), (.getfield 10, 3), (.iconst 2, 1), (.iload_n 1, 1)] := rfl
theorem lb_X10_deed_6 : bk_X10_deed.lookup 6 = some [(.invokevirtual 140, 3)] := rfl
theorem lb_X10_deed_9 : bk_X10_deed.lookup 9 = some [(.iload_n 2, 1), (.iload_n 3, 1)] := rfl
theorem lb_X10_deed_11 : bk_X10_deed.lookup 11 = some [(.invokestatic 158, 3)] := rfl
theorem lb_X10_deed_14 : bk_X10_deed.lookup 14 = some [(.ireturn, 1)] := rfl
def f_X10_deed (a1 : Int32) (a2 : Int32) (a3 : Int32) (M : PM) : Option (Int32 × PM) :=
  hr_bd (f_X8_rollAt 2 a1 M) (fun v2 M2 => match v2 with
  | .null => hr_bd (f_X10_lineOf .null a2 a3 M2) (fun v4 M4 =>
    some (v4, M4))
  | .ref q2 => if hr_K q2 = 5 then
    hr_bd (f_X10_lineOf (.ref q2) a2 a3 M2) (fun v6 M6 =>
    some (v6, M6))
    else none
  | _ => none)
theorem g_X10_deed (a1 : Int32) (a2 : Int32) (a3 : Int32) : ∀ (M : PM) (r : Int32 × PM), f_X10_deed a1 a2 a3 M = some r → hr_G 131 0 [some (.ref 0), some (.int a1), some (.int a2), some (.int a3)] [] M (some (.int r.1), r.2) := by
  intro M r h
  unfold f_X10_deed at h
  refine hr_Grun mf_X10_deed lb_X10_deed_0 (P := hr_K 0 = 9 ∧ True) (pc' := 6) (ls' := [some (.ref 0), some (.int a1), some (.int a2), some (.int a3)]) (st' := [.int a1, .int 2, .ref 1]) (M' := M) rfl rfl ⟨K_0, trivial⟩ ?_
  refine hr_Fb h (fun v2 M2 e2 h => ?_)
  refine hr_Fv h (fun hv h => ?_) (fun q2 hv h => ?_)
  · subst hv
    refine hr_Gcv mf_X10_deed mf_X8_rollAt lb_X10_deed_6 (b := 1) (as := [.int 2, .int a1]) (rest := []) (st2 := [.null]) (v := some .null) (M1 := M2) rfl rfl rfl rfl rfl rfl K_1 (g_X8_rollAt 2 a1 _ _ e2) rfl rfl ?_
    refine hr_Grun mf_X10_deed lb_X10_deed_9 (P := True) (pc' := 11) (ls' := [some (.ref 0), some (.int a1), some (.int a2), some (.int a3)]) (st' := [.int a3, .int a2, .null]) (M' := M2) rfl rfl trivial ?_
    refine hr_Fb h (fun v4 M4 e4 h => ?_)
    refine hr_Gcs mf_X10_deed mf_X10_lineOf lb_X10_deed_11 (as := [.null, .int a2, .int a3]) (rest := []) (st2 := [.int v4]) (v := some (.int v4)) (M1 := M4) rfl rfl rfl rfl rfl rfl (g_X10_lineOf .null a2 a3 _ _ e4) rfl rfl ?_
    cases h
    exact hr_Gret mf_X10_deed lb_X10_deed_14 rfl rfl trivial
  · subst hv
    refine hr_Fg h (fun kq2 h => ?_)
    refine hr_Gcv mf_X10_deed mf_X8_rollAt lb_X10_deed_6 (b := 1) (as := [.int 2, .int a1]) (rest := []) (st2 := [.ref q2]) (v := some (.ref q2)) (M1 := M2) rfl rfl rfl rfl rfl rfl K_1 (g_X8_rollAt 2 a1 _ _ e2) rfl rfl ?_
    refine hr_Grun mf_X10_deed lb_X10_deed_9 (P := True) (pc' := 11) (ls' := [some (.ref 0), some (.int a1), some (.int a2), some (.int a3)]) (st' := [.int a3, .int a2, .ref q2]) (M' := M2) rfl rfl trivial ?_
    refine hr_Fb h (fun v6 M6 e6 h => ?_)
    refine hr_Gcs mf_X10_deed mf_X10_lineOf lb_X10_deed_11 (as := [.ref q2, .int a2, .int a3]) (rest := []) (st2 := [.int v6]) (v := some (.int v6)) (M1 := M6) rfl rfl rfl rfl rfl rfl (g_X10_lineOf (.ref q2) a2 a3 _ _ e6) rfl rfl ?_
    cases h
    exact hr_Gret mf_X10_deed lb_X10_deed_14 rfl rfl trivial
theorem mf_X10_goTogether : hr_mf 158 10 2 (some .boolean) 2 2 bk_X10_goTogether := ⟨rfl, rfl, rfl, rfl, rfl, rfl⟩
theorem lb_X10_goTogether_0 : bk_X10_goTogether.lookup 0 = some [(.aload_n 0, 1), (.ifnull 22, 3)] := rfl
theorem lb_X10_goTogether_4 : bk_X10_goTogether.lookup 4 = some [(.aload_n 1, 1), (.ifnull 18, 3)] := rfl
theorem lb_X10_goTogether_8 : bk_X10_goTogether.lookup 8 = some [(.aload_n 0, 1), (.aload_n 1, 1), (.getfield 321, 3)] := rfl
theorem lb_X10_goTogether_13 : bk_X10_goTogether.lookup 13 = some [(.invokevirtual 324, 3)] := rfl
theorem lb_X10_goTogether_16 : bk_X10_goTogether.lookup 16 = some [(.ifCond .eq 7, 3)] := rfl
theorem lb_X10_goTogether_19 : bk_X10_goTogether.lookup 19 = some [(.iconst 1, 1), (.goto 4, 3)] := rfl
theorem lb_X10_goTogether_23 : bk_X10_goTogether.lookup 23 = some [(.iconst 0, 1)] := rfl
theorem lb_X10_goTogether_24 : bk_X10_goTogether.lookup 24 = some [(.ireturn, 1)] := rfl
def f_X10_goTogether (a0 : Value) (a1 : Value) (M : PM) : Option (Int32 × PM) :=
  match a0 with
  | .null => match a1 with
    | .null => some (0, M)
    | .ref ra1 => if hr_K ra1 = 5 then
      some (0, M)
      else none
    | _ => none
  | .ref ra0 => if hr_K ra0 = 3 then
    match a1 with
    | .null => some (0, M)
    | .ref ra1 => if hr_K ra1 = 5 then
      hr_bd (f_X4_hasAll ra0 (M.1 ra1 2) M) (fun v11 M11 =>
      if v11 = 0 then
        some (0, M11)
      else
        some (1, M11))
      else none
    | _ => none
    else none
  | _ => none
theorem g_X10_goTogether (a0 : Value) (a1 : Value) : ∀ (M : PM) (r : Int32 × PM), f_X10_goTogether a0 a1 M = some r → hr_G 158 0 [some a0, some a1] [] M (some (.int r.1), r.2) := by
  intro M r h
  unfold f_X10_goTogether at h
  refine hr_Fv h (fun hv h => ?_) (fun ra0 hv h => ?_)
  · subst hv
    refine hr_Fv h (fun hv h => ?_) (fun ra1 hv h => ?_)
    · subst hv
      refine hr_Grun mf_X10_goTogether lb_X10_goTogether_0 (P := True) (pc' := 23) (ls' := [some .null, some .null]) (st' := []) (M' := M) rfl rfl trivial ?_
      refine hr_Grun mf_X10_goTogether lb_X10_goTogether_23 (P := True) (pc' := 24) (ls' := [some .null, some .null]) (st' := [.int 0]) (M' := M) rfl rfl trivial ?_
      cases h
      exact hr_Gret mf_X10_goTogether lb_X10_goTogether_24 rfl rfl (Or.inl rfl)
    · subst hv
      refine hr_Fg h (fun kra1 h => ?_)
      refine hr_Grun mf_X10_goTogether lb_X10_goTogether_0 (P := True) (pc' := 23) (ls' := [some .null, some (.ref ra1)]) (st' := []) (M' := M) rfl rfl trivial ?_
      refine hr_Grun mf_X10_goTogether lb_X10_goTogether_23 (P := True) (pc' := 24) (ls' := [some .null, some (.ref ra1)]) (st' := [.int 0]) (M' := M) rfl rfl trivial ?_
      cases h
      exact hr_Gret mf_X10_goTogether lb_X10_goTogether_24 rfl rfl (Or.inl rfl)
  · subst hv
    refine hr_Fg h (fun kra0 h => ?_)
    refine hr_Fv h (fun hv h => ?_) (fun ra1 hv h => ?_)
    · subst hv
      refine hr_Grun mf_X10_goTogether lb_X10_goTogether_0 (P := True) (pc' := 4) (ls' := [some (.ref ra0), some .null]) (st' := []) (M' := M) rfl rfl trivial ?_
      refine hr_Grun mf_X10_goTogether lb_X10_goTogether_4 (P := True) (pc' := 23) (ls' := [some (.ref ra0), some .null]) (st' := []) (M' := M) rfl rfl trivial ?_
      refine hr_Grun mf_X10_goTogether lb_X10_goTogether_23 (P := True) (pc' := 24) (ls' := [some (.ref ra0), some .null]) (st' := [.int 0]) (M' := M) rfl rfl trivial ?_
      cases h
      exact hr_Gret mf_X10_goTogether lb_X10_goTogether_24 rfl rfl (Or.inl rfl)
    · subst hv
      refine hr_Fg h (fun kra1 h => ?_)
      refine hr_Grun mf_X10_goTogether lb_X10_goTogether_0 (P := True) (pc' := 4) (ls' := [some (.ref ra0), some (.ref ra1)]) (st' := []) (M' := M) rfl rfl trivial ?_
      refine hr_Grun mf_X10_goTogether lb_X10_goTogether_4 (P := True) (pc' := 8) (ls' := [some (.ref ra0), some (.ref ra1)]) (st' := []) (M' := M) rfl rfl trivial ?_
      refine hr_Grun mf_X10_goTogether lb_X10_goTogether_8 (P := hr_K ra1 = 5 ∧ True) (pc' := 13) (ls' := [some (.ref ra0), some (.ref ra1)]) (st' := [.int (M.1 ra1 2), .ref ra0]) (M' := M) rfl rfl ⟨kra1, trivial⟩ ?_
      refine hr_Fb h (fun v11 M11 e11 h => ?_)
      refine hr_Gcv mf_X10_goTogether mf_X4_hasAll lb_X10_goTogether_13 (b := ra0) (as := [.int (M.1 ra1 2)]) (rest := []) (st2 := [.int v11]) (v := some (.int v11)) (M1 := M11) rfl rfl rfl rfl rfl rfl kra0 (g_X4_hasAll ra0 (M.1 ra1 2) _ _ e11) rfl rfl ?_
      refine hr_Grun mf_X10_goTogether lb_X10_goTogether_16 (P := True) (pc' := if v11 = 0 then 23 else 19) (ls' := [some (.ref ra0), some (.ref ra1)]) (st' := []) (M' := M11) rfl rfl trivial ?_
      refine hr_Gif h (fun _ h => ?_) (fun _ h => ?_)
      · refine hr_Grun mf_X10_goTogether lb_X10_goTogether_23 (P := True) (pc' := 24) (ls' := [some (.ref ra0), some (.ref ra1)]) (st' := [.int 0]) (M' := M11) rfl rfl trivial ?_
        cases h
        exact hr_Gret mf_X10_goTogether lb_X10_goTogether_24 rfl rfl (Or.inl rfl)
      · refine hr_Grun mf_X10_goTogether lb_X10_goTogether_19 (P := True) (pc' := 24) (ls' := [some (.ref ra0), some (.ref ra1)]) (st' := [.int 1]) (M' := M11) rfl rfl trivial ?_
        cases h
        exact hr_Gret mf_X10_goTogether lb_X10_goTogether_24 rfl rfl (Or.inr rfl)
theorem mf_X10_stop : hr_mf 132 10 6 (some .int) 7 3 bk_X10_stop := ⟨rfl, rfl, rfl, rfl, rfl, rfl⟩
theorem lb_X10_stop_0 : bk_X10_stop.lookup 0 = some [(.aload_n 0, 1), (.getfield 10, 3), (.iload_n 1, 1)] := rfl
theorem lb_X10_stop_5 : bk_X10_stop.lookup 5 = some [(.invokevirtual 109, 3)] := rfl
theorem lb_X10_stop_8 : bk_X10_stop.lookup 8 = some [(.astore 4, 2), (.aload_n 0, 1), (.getfield 10, 3), (.iconst 1, 1), (.iload_n 2, 1)] := rfl
theorem lb_X10_stop_16 : bk_X10_stop.lookup 16 = some [(.invokevirtual 140, 3)] := rfl
theorem lb_X10_stop_19 : bk_X10_stop.lookup 19 = some [(.astore 5, 2), (.aload_n 0, 1), (.getfield 10, 3), (.iconst 2, 1), (.iload_n 3, 1)] := rfl
theorem lb_X10_stop_27 : bk_X10_stop.lookup 27 = some [(.invokevirtual 140, 3)] := rfl
theorem lb_X10_stop_30 : bk_X10_stop.lookup 30 = some [(.astore 6, 2), (.aload 6, 2), (.ifnull 13, 3)] := rfl
theorem lb_X10_stop_37 : bk_X10_stop.lookup 37 = some [(.aload 4, 2), (.aload 5, 2)] := rfl
theorem lb_X10_stop_41 : bk_X10_stop.lookup 41 = some [(.invokestatic 162, 3)] := rfl
theorem lb_X10_stop_44 : bk_X10_stop.lookup 44 = some [(.ifCond .ne 5, 3)] := rfl
theorem lb_X10_stop_47 : bk_X10_stop.lookup 47 = some [(.iconst (-1), 1)] := rfl
theorem lb_X10_stop_48 : bk_X10_stop.lookup 48 = some [(.ireturn, 1)] := rfl
theorem lb_X10_stop_49 : bk_X10_stop.lookup 49 = some [(.aload_n 0, 1), (.getfield 41, 3), (.aload 4, 2), (.aload 5, 2), (.aload 6, 2), (.aload 6, 2), (.getfield 144, 3)] := rfl
theorem lb_X10_stop_64 : bk_X10_stop.lookup 64 = some [(.invokevirtual 166, 3)] := rfl
theorem lb_X10_stop_67 : bk_X10_stop.lookup 67 = some [(.ireturn, 1)] := rfl
def f_X10_stop (a1 : Int32) (a2 : Int32) (a3 : Int32) (M : PM) : Option (Int32 × PM) :=
  hr_bd (f_X8_paletteAt a1 M) (fun v2 M2 => match v2 with
  | .null => hr_bd (f_X8_rollAt 1 a2 M2) (fun v4 M4 => match v4 with
    | .null => hr_bd (f_X8_rollAt 2 a3 M4) (fun v6 M6 => match v6 with
      | .null => some ((-1), M6)
      | .ref q6 => if hr_K q6 = 5 then
        hr_bd (f_X10_goTogether .null .null M6) (fun v11 M11 =>
        if v11 = 0 then
          some ((-1), M11)
        else
          none)
        else none
      | _ => none)
    | .ref q4 => if hr_K q4 = 5 then
      hr_bd (f_X8_rollAt 2 a3 M4) (fun v16 M16 => match v16 with
      | .null => some ((-1), M16)
      | .ref q16 => if hr_K q16 = 5 then
        hr_bd (f_X10_goTogether .null (.ref q4) M16) (fun v21 M21 =>
        if v21 = 0 then
          some ((-1), M21)
        else
          none)
        else none
      | _ => none)
      else none
    | _ => none)
  | .ref q2 => if hr_K q2 = 3 then
    hr_bd (f_X8_rollAt 1 a2 M2) (fun v26 M26 => match v26 with
    | .null => hr_bd (f_X8_rollAt 2 a3 M26) (fun v28 M28 => match v28 with
      | .null => some ((-1), M28)
      | .ref q28 => if hr_K q28 = 5 then
        hr_bd (f_X10_goTogether (.ref q2) .null M28) (fun v33 M33 =>
        if v33 = 0 then
          some ((-1), M33)
        else
          none)
        else none
      | _ => none)
    | .ref q26 => if hr_K q26 = 5 then
      hr_bd (f_X8_rollAt 2 a3 M26) (fun v38 M38 => match v38 with
      | .null => some ((-1), M38)
      | .ref q38 => if hr_K q38 = 5 then
        hr_bd (f_X10_goTogether (.ref q2) (.ref q26) M38) (fun v43 M43 =>
        if v43 = 0 then
          some ((-1), M43)
        else
          hr_bd (f_X9_go q2 q26 q38 (M43.1 q38 0) M43) (fun v47 M47 =>
          some (v47, M47)))
        else none
      | _ => none)
      else none
    | _ => none)
    else none
  | _ => none)
theorem g_X10_stop (a1 : Int32) (a2 : Int32) (a3 : Int32) : ∀ (M : PM) (r : Int32 × PM), f_X10_stop a1 a2 a3 M = some r → hr_G 132 0 [some (.ref 0), some (.int a1), some (.int a2), some (.int a3), none, none, none] [] M (some (.int r.1), r.2) := by
  intro M r h
  unfold f_X10_stop at h
  refine hr_Grun mf_X10_stop lb_X10_stop_0 (P := hr_K 0 = 9 ∧ True) (pc' := 5) (ls' := [some (.ref 0), some (.int a1), some (.int a2), some (.int a3), none, none, none]) (st' := [.int a1, .ref 1]) (M' := M) rfl rfl ⟨K_0, trivial⟩ ?_
  refine hr_Fb h (fun v2 M2 e2 h => ?_)
  refine hr_Fv h (fun hv h => ?_) (fun q2 hv h => ?_)
  · subst hv
    refine hr_Gcv mf_X10_stop mf_X8_paletteAt lb_X10_stop_5 (b := 1) (as := [.int a1]) (rest := []) (st2 := [.null]) (v := some .null) (M1 := M2) rfl rfl rfl rfl rfl rfl K_1 (g_X8_paletteAt a1 _ _ e2) rfl rfl ?_
    refine hr_Grun mf_X10_stop lb_X10_stop_8 (P := hr_K 0 = 9 ∧ True) (pc' := 16) (ls' := [some (.ref 0), some (.int a1), some (.int a2), some (.int a3), some .null, none, none]) (st' := [.int a2, .int 1, .ref 1]) (M' := M2) rfl rfl ⟨K_0, trivial⟩ ?_
    refine hr_Fb h (fun v4 M4 e4 h => ?_)
    refine hr_Fv h (fun hv h => ?_) (fun q4 hv h => ?_)
    · subst hv
      refine hr_Gcv mf_X10_stop mf_X8_rollAt lb_X10_stop_16 (b := 1) (as := [.int 1, .int a2]) (rest := []) (st2 := [.null]) (v := some .null) (M1 := M4) rfl rfl rfl rfl rfl rfl K_1 (g_X8_rollAt 1 a2 _ _ e4) rfl rfl ?_
      refine hr_Grun mf_X10_stop lb_X10_stop_19 (P := hr_K 0 = 9 ∧ True) (pc' := 27) (ls' := [some (.ref 0), some (.int a1), some (.int a2), some (.int a3), some .null, some .null, none]) (st' := [.int a3, .int 2, .ref 1]) (M' := M4) rfl rfl ⟨K_0, trivial⟩ ?_
      refine hr_Fb h (fun v6 M6 e6 h => ?_)
      refine hr_Fv h (fun hv h => ?_) (fun q6 hv h => ?_)
      · subst hv
        refine hr_Gcv mf_X10_stop mf_X8_rollAt lb_X10_stop_27 (b := 1) (as := [.int 2, .int a3]) (rest := []) (st2 := [.null]) (v := some .null) (M1 := M6) rfl rfl rfl rfl rfl rfl K_1 (g_X8_rollAt 2 a3 _ _ e6) rfl rfl ?_
        refine hr_Grun mf_X10_stop lb_X10_stop_30 (P := True) (pc' := 47) (ls' := [some (.ref 0), some (.int a1), some (.int a2), some (.int a3), some .null, some .null, some .null]) (st' := []) (M' := M6) rfl rfl trivial ?_
        refine hr_Grun mf_X10_stop lb_X10_stop_47 (P := True) (pc' := 48) (ls' := [some (.ref 0), some (.int a1), some (.int a2), some (.int a3), some .null, some .null, some .null]) (st' := [.int (-1)]) (M' := M6) rfl rfl trivial ?_
        cases h
        exact hr_Gret mf_X10_stop lb_X10_stop_48 rfl rfl trivial
      · subst hv
        refine hr_Fg h (fun kq6 h => ?_)
        refine hr_Gcv mf_X10_stop mf_X8_rollAt lb_X10_stop_27 (b := 1) (as := [.int 2, .int a3]) (rest := []) (st2 := [.ref q6]) (v := some (.ref q6)) (M1 := M6) rfl rfl rfl rfl rfl rfl K_1 (g_X8_rollAt 2 a3 _ _ e6) rfl rfl ?_
        refine hr_Grun mf_X10_stop lb_X10_stop_30 (P := True) (pc' := 37) (ls' := [some (.ref 0), some (.int a1), some (.int a2), some (.int a3), some .null, some .null, some (.ref q6)]) (st' := []) (M' := M6) rfl rfl trivial ?_
        refine hr_Grun mf_X10_stop lb_X10_stop_37 (P := True) (pc' := 41) (ls' := [some (.ref 0), some (.int a1), some (.int a2), some (.int a3), some .null, some .null, some (.ref q6)]) (st' := [.null, .null]) (M' := M6) rfl rfl trivial ?_
        refine hr_Fb h (fun v11 M11 e11 h => ?_)
        refine hr_Gcs mf_X10_stop mf_X10_goTogether lb_X10_stop_41 (as := [.null, .null]) (rest := []) (st2 := [.int v11]) (v := some (.int v11)) (M1 := M11) rfl rfl rfl rfl rfl rfl (g_X10_goTogether .null .null _ _ e11) rfl rfl ?_
        refine hr_Grun mf_X10_stop lb_X10_stop_44 (P := True) (pc' := if v11 = 0 then 47 else 49) (ls' := [some (.ref 0), some (.int a1), some (.int a2), some (.int a3), some .null, some .null, some (.ref q6)]) (st' := []) (M' := M11) rfl rfl trivial ?_
        refine hr_Gif h (fun _ h => ?_) (fun _ h => ?_)
        · refine hr_Grun mf_X10_stop lb_X10_stop_47 (P := True) (pc' := 48) (ls' := [some (.ref 0), some (.int a1), some (.int a2), some (.int a3), some .null, some .null, some (.ref q6)]) (st' := [.int (-1)]) (M' := M11) rfl rfl trivial ?_
          cases h
          exact hr_Gret mf_X10_stop lb_X10_stop_48 rfl rfl trivial
        · refine hr_Grun mf_X10_stop lb_X10_stop_49 (P := hr_K 0 = 9 ∧ hr_K q6 = 5 ∧ True) (pc' := 64) (ls' := [some (.ref 0), some (.int a1), some (.int a2), some (.int a3), some .null, some .null, some (.ref q6)]) (st' := [.int (M11.1 q6 0), .ref q6, .null, .null, .ref 249]) (M' := M11) rfl rfl ⟨K_0, kq6, trivial⟩ ?_
          cases h
    · subst hv
      refine hr_Fg h (fun kq4 h => ?_)
      refine hr_Gcv mf_X10_stop mf_X8_rollAt lb_X10_stop_16 (b := 1) (as := [.int 1, .int a2]) (rest := []) (st2 := [.ref q4]) (v := some (.ref q4)) (M1 := M4) rfl rfl rfl rfl rfl rfl K_1 (g_X8_rollAt 1 a2 _ _ e4) rfl rfl ?_
      refine hr_Grun mf_X10_stop lb_X10_stop_19 (P := hr_K 0 = 9 ∧ True) (pc' := 27) (ls' := [some (.ref 0), some (.int a1), some (.int a2), some (.int a3), some .null, some (.ref q4), none]) (st' := [.int a3, .int 2, .ref 1]) (M' := M4) rfl rfl ⟨K_0, trivial⟩ ?_
      refine hr_Fb h (fun v16 M16 e16 h => ?_)
      refine hr_Fv h (fun hv h => ?_) (fun q16 hv h => ?_)
      · subst hv
        refine hr_Gcv mf_X10_stop mf_X8_rollAt lb_X10_stop_27 (b := 1) (as := [.int 2, .int a3]) (rest := []) (st2 := [.null]) (v := some .null) (M1 := M16) rfl rfl rfl rfl rfl rfl K_1 (g_X8_rollAt 2 a3 _ _ e16) rfl rfl ?_
        refine hr_Grun mf_X10_stop lb_X10_stop_30 (P := True) (pc' := 47) (ls' := [some (.ref 0), some (.int a1), some (.int a2), some (.int a3), some .null, some (.ref q4), some .null]) (st' := []) (M' := M16) rfl rfl trivial ?_
        refine hr_Grun mf_X10_stop lb_X10_stop_47 (P := True) (pc' := 48) (ls' := [some (.ref 0), some (.int a1), some (.int a2), some (.int a3), some .null, some (.ref q4), some .null]) (st' := [.int (-1)]) (M' := M16) rfl rfl trivial ?_
        cases h
        exact hr_Gret mf_X10_stop lb_X10_stop_48 rfl rfl trivial
      · subst hv
        refine hr_Fg h (fun kq16 h => ?_)
        refine hr_Gcv mf_X10_stop mf_X8_rollAt lb_X10_stop_27 (b := 1) (as := [.int 2, .int a3]) (rest := []) (st2 := [.ref q16]) (v := some (.ref q16)) (M1 := M16) rfl rfl rfl rfl rfl rfl K_1 (g_X8_rollAt 2 a3 _ _ e16) rfl rfl ?_
        refine hr_Grun mf_X10_stop lb_X10_stop_30 (P := True) (pc' := 37) (ls' := [some (.ref 0), some (.int a1), some (.int a2), some (.int a3), some .null, some (.ref q4), some (.ref q16)]) (st' := []) (M' := M16) rfl rfl trivial ?_
        refine hr_Grun mf_X10_stop lb_X10_stop_37 (P := True) (pc' := 41) (ls' := [some (.ref 0), some (.int a1), some (.int a2), some (.int a3), some .null, some (.ref q4), some (.ref q16)]) (st' := [.ref q4, .null]) (M' := M16) rfl rfl trivial ?_
        refine hr_Fb h (fun v21 M21 e21 h => ?_)
        refine hr_Gcs mf_X10_stop mf_X10_goTogether lb_X10_stop_41 (as := [.null, .ref q4]) (rest := []) (st2 := [.int v21]) (v := some (.int v21)) (M1 := M21) rfl rfl rfl rfl rfl rfl (g_X10_goTogether .null (.ref q4) _ _ e21) rfl rfl ?_
        refine hr_Grun mf_X10_stop lb_X10_stop_44 (P := True) (pc' := if v21 = 0 then 47 else 49) (ls' := [some (.ref 0), some (.int a1), some (.int a2), some (.int a3), some .null, some (.ref q4), some (.ref q16)]) (st' := []) (M' := M21) rfl rfl trivial ?_
        refine hr_Gif h (fun _ h => ?_) (fun _ h => ?_)
        · refine hr_Grun mf_X10_stop lb_X10_stop_47 (P := True) (pc' := 48) (ls' := [some (.ref 0), some (.int a1), some (.int a2), some (.int a3), some .null, some (.ref q4), some (.ref q16)]) (st' := [.int (-1)]) (M' := M21) rfl rfl trivial ?_
          cases h
          exact hr_Gret mf_X10_stop lb_X10_stop_48 rfl rfl trivial
        · refine hr_Grun mf_X10_stop lb_X10_stop_49 (P := hr_K 0 = 9 ∧ hr_K q16 = 5 ∧ True) (pc' := 64) (ls' := [some (.ref 0), some (.int a1), some (.int a2), some (.int a3), some .null, some (.ref q4), some (.ref q16)]) (st' := [.int (M21.1 q16 0), .ref q16, .ref q4, .null, .ref 249]) (M' := M21) rfl rfl ⟨K_0, kq16, trivial⟩ ?_
          cases h
  · subst hv
    refine hr_Fg h (fun kq2 h => ?_)
    refine hr_Gcv mf_X10_stop mf_X8_paletteAt lb_X10_stop_5 (b := 1) (as := [.int a1]) (rest := []) (st2 := [.ref q2]) (v := some (.ref q2)) (M1 := M2) rfl rfl rfl rfl rfl rfl K_1 (g_X8_paletteAt a1 _ _ e2) rfl rfl ?_
    refine hr_Grun mf_X10_stop lb_X10_stop_8 (P := hr_K 0 = 9 ∧ True) (pc' := 16) (ls' := [some (.ref 0), some (.int a1), some (.int a2), some (.int a3), some (.ref q2), none, none]) (st' := [.int a2, .int 1, .ref 1]) (M' := M2) rfl rfl ⟨K_0, trivial⟩ ?_
    refine hr_Fb h (fun v26 M26 e26 h => ?_)
    refine hr_Fv h (fun hv h => ?_) (fun q26 hv h => ?_)
    · subst hv
      refine hr_Gcv mf_X10_stop mf_X8_rollAt lb_X10_stop_16 (b := 1) (as := [.int 1, .int a2]) (rest := []) (st2 := [.null]) (v := some .null) (M1 := M26) rfl rfl rfl rfl rfl rfl K_1 (g_X8_rollAt 1 a2 _ _ e26) rfl rfl ?_
      refine hr_Grun mf_X10_stop lb_X10_stop_19 (P := hr_K 0 = 9 ∧ True) (pc' := 27) (ls' := [some (.ref 0), some (.int a1), some (.int a2), some (.int a3), some (.ref q2), some .null, none]) (st' := [.int a3, .int 2, .ref 1]) (M' := M26) rfl rfl ⟨K_0, trivial⟩ ?_
      refine hr_Fb h (fun v28 M28 e28 h => ?_)
      refine hr_Fv h (fun hv h => ?_) (fun q28 hv h => ?_)
      · subst hv
        refine hr_Gcv mf_X10_stop mf_X8_rollAt lb_X10_stop_27 (b := 1) (as := [.int 2, .int a3]) (rest := []) (st2 := [.null]) (v := some .null) (M1 := M28) rfl rfl rfl rfl rfl rfl K_1 (g_X8_rollAt 2 a3 _ _ e28) rfl rfl ?_
        refine hr_Grun mf_X10_stop lb_X10_stop_30 (P := True) (pc' := 47) (ls' := [some (.ref 0), some (.int a1), some (.int a2), some (.int a3), some (.ref q2), some .null, some .null]) (st' := []) (M' := M28) rfl rfl trivial ?_
        refine hr_Grun mf_X10_stop lb_X10_stop_47 (P := True) (pc' := 48) (ls' := [some (.ref 0), some (.int a1), some (.int a2), some (.int a3), some (.ref q2), some .null, some .null]) (st' := [.int (-1)]) (M' := M28) rfl rfl trivial ?_
        cases h
        exact hr_Gret mf_X10_stop lb_X10_stop_48 rfl rfl trivial
      · subst hv
        refine hr_Fg h (fun kq28 h => ?_)
        refine hr_Gcv mf_X10_stop mf_X8_rollAt lb_X10_stop_27 (b := 1) (as := [.int 2, .int a3]) (rest := []) (st2 := [.ref q28]) (v := some (.ref q28)) (M1 := M28) rfl rfl rfl rfl rfl rfl K_1 (g_X8_rollAt 2 a3 _ _ e28) rfl rfl ?_
        refine hr_Grun mf_X10_stop lb_X10_stop_30 (P := True) (pc' := 37) (ls' := [some (.ref 0), some (.int a1), some (.int a2), some (.int a3), some (.ref q2), some .null, some (.ref q28)]) (st' := []) (M' := M28) rfl rfl trivial ?_
        refine hr_Grun mf_X10_stop lb_X10_stop_37 (P := True) (pc' := 41) (ls' := [some (.ref 0), some (.int a1), some (.int a2), some (.int a3), some (.ref q2), some .null, some (.ref q28)]) (st' := [.null, .ref q2]) (M' := M28) rfl rfl trivial ?_
        refine hr_Fb h (fun v33 M33 e33 h => ?_)
        refine hr_Gcs mf_X10_stop mf_X10_goTogether lb_X10_stop_41 (as := [.ref q2, .null]) (rest := []) (st2 := [.int v33]) (v := some (.int v33)) (M1 := M33) rfl rfl rfl rfl rfl rfl (g_X10_goTogether (.ref q2) .null _ _ e33) rfl rfl ?_
        refine hr_Grun mf_X10_stop lb_X10_stop_44 (P := True) (pc' := if v33 = 0 then 47 else 49) (ls' := [some (.ref 0), some (.int a1), some (.int a2), some (.int a3), some (.ref q2), some .null, some (.ref q28)]) (st' := []) (M' := M33) rfl rfl trivial ?_
        refine hr_Gif h (fun _ h => ?_) (fun _ h => ?_)
        · refine hr_Grun mf_X10_stop lb_X10_stop_47 (P := True) (pc' := 48) (ls' := [some (.ref 0), some (.int a1), some (.int a2), some (.int a3), some (.ref q2), some .null, some (.ref q28)]) (st' := [.int (-1)]) (M' := M33) rfl rfl trivial ?_
          cases h
          exact hr_Gret mf_X10_stop lb_X10_stop_48 rfl rfl trivial
        · refine hr_Grun mf_X10_stop lb_X10_stop_49 (P := hr_K 0 = 9 ∧ hr_K q28 = 5 ∧ True) (pc' := 64) (ls' := [some (.ref 0), some (.int a1), some (.int a2), some (.int a3), some (.ref q2), some .null, some (.ref q28)]) (st' := [.int (M33.1 q28 0), .ref q28, .null, .ref q2, .ref 249]) (M' := M33) rfl rfl ⟨K_0, kq28, trivial⟩ ?_
          cases h
    · subst hv
      refine hr_Fg h (fun kq26 h => ?_)
      refine hr_Gcv mf_X10_stop mf_X8_rollAt lb_X10_stop_16 (b := 1) (as := [.int 1, .int a2]) (rest := []) (st2 := [.ref q26]) (v := some (.ref q26)) (M1 := M26) rfl rfl rfl rfl rfl rfl K_1 (g_X8_rollAt 1 a2 _ _ e26) rfl rfl ?_
      refine hr_Grun mf_X10_stop lb_X10_stop_19 (P := hr_K 0 = 9 ∧ True) (pc' := 27) (ls' := [some (.ref 0), some (.int a1), some (.int a2), some (.int a3), some (.ref q2), some (.ref q26), none]) (st' := [.int a3, .int 2, .ref 1]) (M' := M26) rfl rfl ⟨K_0, trivial⟩ ?_
      refine hr_Fb h (fun v38 M38 e38 h => ?_)
      refine hr_Fv h (fun hv h => ?_) (fun q38 hv h => ?_)
      · subst hv
        refine hr_Gcv mf_X10_stop mf_X8_rollAt lb_X10_stop_27 (b := 1) (as := [.int 2, .int a3]) (rest := []) (st2 := [.null]) (v := some .null) (M1 := M38) rfl rfl rfl rfl rfl rfl K_1 (g_X8_rollAt 2 a3 _ _ e38) rfl rfl ?_
        refine hr_Grun mf_X10_stop lb_X10_stop_30 (P := True) (pc' := 47) (ls' := [some (.ref 0), some (.int a1), some (.int a2), some (.int a3), some (.ref q2), some (.ref q26), some .null]) (st' := []) (M' := M38) rfl rfl trivial ?_
        refine hr_Grun mf_X10_stop lb_X10_stop_47 (P := True) (pc' := 48) (ls' := [some (.ref 0), some (.int a1), some (.int a2), some (.int a3), some (.ref q2), some (.ref q26), some .null]) (st' := [.int (-1)]) (M' := M38) rfl rfl trivial ?_
        cases h
        exact hr_Gret mf_X10_stop lb_X10_stop_48 rfl rfl trivial
      · subst hv
        refine hr_Fg h (fun kq38 h => ?_)
        refine hr_Gcv mf_X10_stop mf_X8_rollAt lb_X10_stop_27 (b := 1) (as := [.int 2, .int a3]) (rest := []) (st2 := [.ref q38]) (v := some (.ref q38)) (M1 := M38) rfl rfl rfl rfl rfl rfl K_1 (g_X8_rollAt 2 a3 _ _ e38) rfl rfl ?_
        refine hr_Grun mf_X10_stop lb_X10_stop_30 (P := True) (pc' := 37) (ls' := [some (.ref 0), some (.int a1), some (.int a2), some (.int a3), some (.ref q2), some (.ref q26), some (.ref q38)]) (st' := []) (M' := M38) rfl rfl trivial ?_
        refine hr_Grun mf_X10_stop lb_X10_stop_37 (P := True) (pc' := 41) (ls' := [some (.ref 0), some (.int a1), some (.int a2), some (.int a3), some (.ref q2), some (.ref q26), some (.ref q38)]) (st' := [.ref q26, .ref q2]) (M' := M38) rfl rfl trivial ?_
        refine hr_Fb h (fun v43 M43 e43 h => ?_)
        refine hr_Gcs mf_X10_stop mf_X10_goTogether lb_X10_stop_41 (as := [.ref q2, .ref q26]) (rest := []) (st2 := [.int v43]) (v := some (.int v43)) (M1 := M43) rfl rfl rfl rfl rfl rfl (g_X10_goTogether (.ref q2) (.ref q26) _ _ e43) rfl rfl ?_
        refine hr_Grun mf_X10_stop lb_X10_stop_44 (P := True) (pc' := if v43 = 0 then 47 else 49) (ls' := [some (.ref 0), some (.int a1), some (.int a2), some (.int a3), some (.ref q2), some (.ref q26), some (.ref q38)]) (st' := []) (M' := M43) rfl rfl trivial ?_
        refine hr_Gif h (fun _ h => ?_) (fun _ h => ?_)
        · refine hr_Grun mf_X10_stop lb_X10_stop_47 (P := True) (pc' := 48) (ls' := [some (.ref 0), some (.int a1), some (.int a2), some (.int a3), some (.ref q2), some (.ref q26), some (.ref q38)]) (st' := [.int (-1)]) (M' := M43) rfl rfl trivial ?_
          cases h
          exact hr_Gret mf_X10_stop lb_X10_stop_48 rfl rfl trivial
        · refine hr_Grun mf_X10_stop lb_X10_stop_49 (P := hr_K 0 = 9 ∧ hr_K q38 = 5 ∧ True) (pc' := 64) (ls' := [some (.ref 0), some (.int a1), some (.int a2), some (.int a3), some (.ref q2), some (.ref q26), some (.ref q38)]) (st' := [.int (M43.1 q38 0), .ref q38, .ref q26, .ref q2, .ref 249]) (M' := M43) rfl rfl ⟨K_0, kq38, trivial⟩ ?_
          refine hr_Fb h (fun v47 M47 e47 h => ?_)
          refine hr_Gcv mf_X10_stop mf_X9_go lb_X10_stop_64 (b := 249) (as := [.ref q2, .ref q26, .ref q38, .int (M43.1 q38 0)]) (rest := []) (st2 := [.int v47]) (v := some (.int v47)) (M1 := M47) rfl rfl rfl rfl rfl rfl K_249 (g_X9_go q2 q26 q38 (M43.1 q38 0) _ _ e47) rfl rfl ?_
          cases h
          exact hr_Gret mf_X10_stop lb_X10_stop_67 rfl rfl trivial
theorem mf_X10_state : hr_mf 133 10 6 (some .int) 9 5 bk_X10_state := ⟨rfl, rfl, rfl, rfl, rfl, rfl⟩
theorem lb_X10_state_0 : bk_X10_state.lookup 0 = some [(.aload_n 0, 1), (.getfield 10, 3), (.iload_n 1, 1)] := rfl
theorem lb_X10_state_5 : bk_X10_state.lookup 5 = some [(.invokevirtual 109, 3)] := rfl
theorem lb_X10_state_8 : bk_X10_state.lookup 8 = some [(.astore 6, 2), (.aload_n 0, 1), (.getfield 10, 3), (.iconst 1, 1), (.iload_n 2, 1)] := rfl
theorem lb_X10_state_16 : bk_X10_state.lookup 16 = some [(.invokevirtual 140, 3)] := rfl
theorem lb_X10_state_19 : bk_X10_state.lookup 19 = some [(.astore 7, 2), (.aload_n 0, 1), (.getfield 10, 3), (.iconst 2, 1), (.iload_n 3, 1)] := rfl
theorem lb_X10_state_27 : bk_X10_state.lookup 27 = some [(.invokevirtual 140, 3)] := rfl
theorem lb_X10_state_30 : bk_X10_state.lookup 30 = some [(.astore 8, 2), (.aload 8, 2), (.ifnull 28, 3)] := rfl
theorem lb_X10_state_37 : bk_X10_state.lookup 37 = some [(.aload 6, 2), (.aload 7, 2)] := rfl
theorem lb_X10_state_41 : bk_X10_state.lookup 41 = some [(.invokestatic 162, 3)] := rfl
theorem lb_X10_state_44 : bk_X10_state.lookup 44 = some [(.ifCond .eq 18, 3)] := rfl
theorem lb_X10_state_47 : bk_X10_state.lookup 47 = some [(.iload 4, 2), (.ifCond .lt 13, 3)] := rfl
theorem lb_X10_state_52 : bk_X10_state.lookup 52 = some [(.iload 4, 2), (.aload 8, 2), (.getfield 144, 3), (.if_icmp .le 6, 3)] := rfl
theorem lb_X10_state_62 : bk_X10_state.lookup 62 = some [(.bipush (-2), 2)] := rfl
theorem lb_X10_state_64 : bk_X10_state.lookup 64 = some [(.ireturn, 1)] := rfl
theorem lb_X10_state_65 : bk_X10_state.lookup 65 = some [(.aload_n 0, 1), (.getfield 41, 3), (.aload 6, 2), (.aload 7, 2), (.aload 8, 2), (.iload 4, 2)] := rfl
theorem lb_X10_state_77 : bk_X10_state.lookup 77 = some [(.invokevirtual 166, 3)] := rfl
theorem lb_X10_state_80 : bk_X10_state.lookup 80 = some [(.iload 4, 2), (.if_icmp .ge 6, 3)] := rfl
theorem lb_X10_state_85 : bk_X10_state.lookup 85 = some [(.bipush (-2), 2)] := rfl
theorem lb_X10_state_87 : bk_X10_state.lookup 87 = some [(.ireturn, 1)] := rfl
theorem lb_X10_state_88 : bk_X10_state.lookup 88 = some [(.aload_n 0, 1), (.getfield 41, 3), (.aload 6, 2), (.aload 7, 2), (.iload 5, 2)] := rfl
theorem lb_X10_state_98 : bk_X10_state.lookup 98 = some [(.invokevirtual 170, 3)] := rfl
theorem lb_X10_state_101 : bk_X10_state.lookup 101 = some [(.ireturn, 1)] := rfl
def f_X10_state (a1 : Int32) (a2 : Int32) (a3 : Int32) (a4 : Int32) (a5 : Int32) (M : PM) : Option (Int32 × PM) :=
  hr_bd (f_X8_paletteAt a1 M) (fun v2 M2 => match v2 with
  | .null => hr_bd (f_X8_rollAt 1 a2 M2) (fun v4 M4 => match v4 with
    | .null => hr_bd (f_X8_rollAt 2 a3 M4) (fun v6 M6 => match v6 with
      | .null => some ((-2), M6)
      | .ref q6 => if hr_K q6 = 5 then
        hr_bd (f_X10_goTogether .null .null M6) (fun v11 M11 =>
        if v11 = 0 then
          some ((-2), M11)
        else
          if a4 < 0 then
            some ((-2), M11)
          else
            if a4 ≤ (M11.1 q6 0) then
              none
            else
              some ((-2), M11))
        else none
      | _ => none)
    | .ref q4 => if hr_K q4 = 5 then
      hr_bd (f_X8_rollAt 2 a3 M4) (fun v20 M20 => match v20 with
      | .null => some ((-2), M20)
      | .ref q20 => if hr_K q20 = 5 then
        hr_bd (f_X10_goTogether .null (.ref q4) M20) (fun v25 M25 =>
        if v25 = 0 then
          some ((-2), M25)
        else
          if a4 < 0 then
            some ((-2), M25)
          else
            if a4 ≤ (M25.1 q20 0) then
              none
            else
              some ((-2), M25))
        else none
      | _ => none)
      else none
    | _ => none)
  | .ref q2 => if hr_K q2 = 3 then
    hr_bd (f_X8_rollAt 1 a2 M2) (fun v34 M34 => match v34 with
    | .null => hr_bd (f_X8_rollAt 2 a3 M34) (fun v36 M36 => match v36 with
      | .null => some ((-2), M36)
      | .ref q36 => if hr_K q36 = 5 then
        hr_bd (f_X10_goTogether (.ref q2) .null M36) (fun v41 M41 =>
        if v41 = 0 then
          some ((-2), M41)
        else
          if a4 < 0 then
            some ((-2), M41)
          else
            if a4 ≤ (M41.1 q36 0) then
              none
            else
              some ((-2), M41))
        else none
      | _ => none)
    | .ref q34 => if hr_K q34 = 5 then
      hr_bd (f_X8_rollAt 2 a3 M34) (fun v50 M50 => match v50 with
      | .null => some ((-2), M50)
      | .ref q50 => if hr_K q50 = 5 then
        hr_bd (f_X10_goTogether (.ref q2) (.ref q34) M50) (fun v55 M55 =>
        if v55 = 0 then
          some ((-2), M55)
        else
          if a4 < 0 then
            some ((-2), M55)
          else
            if a4 ≤ (M55.1 q50 0) then
              hr_bd (f_X9_go q2 q34 q50 a4 M55) (fun v62 M62 =>
              if a4 ≤ v62 then
                hr_bd (f_X9_answer q2 q34 a5 M62) (fun v65 M65 =>
                some (v65, M65))
              else
                some ((-2), M62))
            else
              some ((-2), M55))
        else none
      | _ => none)
      else none
    | _ => none)
    else none
  | _ => none)
theorem g_X10_state (a1 : Int32) (a2 : Int32) (a3 : Int32) (a4 : Int32) (a5 : Int32) : ∀ (M : PM) (r : Int32 × PM), f_X10_state a1 a2 a3 a4 a5 M = some r → hr_G 133 0 [some (.ref 0), some (.int a1), some (.int a2), some (.int a3), some (.int a4), some (.int a5), none, none, none] [] M (some (.int r.1), r.2) := by
  intro M r h
  unfold f_X10_state at h
  refine hr_Grun mf_X10_state lb_X10_state_0 (P := hr_K 0 = 9 ∧ True) (pc' := 5) (ls' := [some (.ref 0), some (.int a1), some (.int a2), some (.int a3), some (.int a4), some (.int a5), none, none, none]) (st' := [.int a1, .ref 1]) (M' := M) rfl rfl ⟨K_0, trivial⟩ ?_
  refine hr_Fb h (fun v2 M2 e2 h => ?_)
  refine hr_Fv h (fun hv h => ?_) (fun q2 hv h => ?_)
  · subst hv
    refine hr_Gcv mf_X10_state mf_X8_paletteAt lb_X10_state_5 (b := 1) (as := [.int a1]) (rest := []) (st2 := [.null]) (v := some .null) (M1 := M2) rfl rfl rfl rfl rfl rfl K_1 (g_X8_paletteAt a1 _ _ e2) rfl rfl ?_
    refine hr_Grun mf_X10_state lb_X10_state_8 (P := hr_K 0 = 9 ∧ True) (pc' := 16) (ls' := [some (.ref 0), some (.int a1), some (.int a2), some (.int a3), some (.int a4), some (.int a5), some .null, none, none]) (st' := [.int a2, .int 1, .ref 1]) (M' := M2) rfl rfl ⟨K_0, trivial⟩ ?_
    refine hr_Fb h (fun v4 M4 e4 h => ?_)
    refine hr_Fv h (fun hv h => ?_) (fun q4 hv h => ?_)
    · subst hv
      refine hr_Gcv mf_X10_state mf_X8_rollAt lb_X10_state_16 (b := 1) (as := [.int 1, .int a2]) (rest := []) (st2 := [.null]) (v := some .null) (M1 := M4) rfl rfl rfl rfl rfl rfl K_1 (g_X8_rollAt 1 a2 _ _ e4) rfl rfl ?_
      refine hr_Grun mf_X10_state lb_X10_state_19 (P := hr_K 0 = 9 ∧ True) (pc' := 27) (ls' := [some (.ref 0), some (.int a1), some (.int a2), some (.int a3), some (.int a4), some (.int a5), some .null, some .null, none]) (st' := [.int a3, .int 2, .ref 1]) (M' := M4) rfl rfl ⟨K_0, trivial⟩ ?_
      refine hr_Fb h (fun v6 M6 e6 h => ?_)
      refine hr_Fv h (fun hv h => ?_) (fun q6 hv h => ?_)
      · subst hv
        refine hr_Gcv mf_X10_state mf_X8_rollAt lb_X10_state_27 (b := 1) (as := [.int 2, .int a3]) (rest := []) (st2 := [.null]) (v := some .null) (M1 := M6) rfl rfl rfl rfl rfl rfl K_1 (g_X8_rollAt 2 a3 _ _ e6) rfl rfl ?_
        refine hr_Grun mf_X10_state lb_X10_state_30 (P := True) (pc' := 62) (ls' := [some (.ref 0), some (.int a1), some (.int a2), some (.int a3), some (.int a4), some (.int a5), some .null, some .null, some .null]) (st' := []) (M' := M6) rfl rfl trivial ?_
        refine hr_Grun mf_X10_state lb_X10_state_62 (P := True) (pc' := 64) (ls' := [some (.ref 0), some (.int a1), some (.int a2), some (.int a3), some (.int a4), some (.int a5), some .null, some .null, some .null]) (st' := [.int (-2)]) (M' := M6) rfl rfl trivial ?_
        cases h
        exact hr_Gret mf_X10_state lb_X10_state_64 rfl rfl trivial
      · subst hv
        refine hr_Fg h (fun kq6 h => ?_)
        refine hr_Gcv mf_X10_state mf_X8_rollAt lb_X10_state_27 (b := 1) (as := [.int 2, .int a3]) (rest := []) (st2 := [.ref q6]) (v := some (.ref q6)) (M1 := M6) rfl rfl rfl rfl rfl rfl K_1 (g_X8_rollAt 2 a3 _ _ e6) rfl rfl ?_
        refine hr_Grun mf_X10_state lb_X10_state_30 (P := True) (pc' := 37) (ls' := [some (.ref 0), some (.int a1), some (.int a2), some (.int a3), some (.int a4), some (.int a5), some .null, some .null, some (.ref q6)]) (st' := []) (M' := M6) rfl rfl trivial ?_
        refine hr_Grun mf_X10_state lb_X10_state_37 (P := True) (pc' := 41) (ls' := [some (.ref 0), some (.int a1), some (.int a2), some (.int a3), some (.int a4), some (.int a5), some .null, some .null, some (.ref q6)]) (st' := [.null, .null]) (M' := M6) rfl rfl trivial ?_
        refine hr_Fb h (fun v11 M11 e11 h => ?_)
        refine hr_Gcs mf_X10_state mf_X10_goTogether lb_X10_state_41 (as := [.null, .null]) (rest := []) (st2 := [.int v11]) (v := some (.int v11)) (M1 := M11) rfl rfl rfl rfl rfl rfl (g_X10_goTogether .null .null _ _ e11) rfl rfl ?_
        refine hr_Grun mf_X10_state lb_X10_state_44 (P := True) (pc' := if v11 = 0 then 62 else 47) (ls' := [some (.ref 0), some (.int a1), some (.int a2), some (.int a3), some (.int a4), some (.int a5), some .null, some .null, some (.ref q6)]) (st' := []) (M' := M11) rfl rfl trivial ?_
        refine hr_Gif h (fun _ h => ?_) (fun _ h => ?_)
        · refine hr_Grun mf_X10_state lb_X10_state_62 (P := True) (pc' := 64) (ls' := [some (.ref 0), some (.int a1), some (.int a2), some (.int a3), some (.int a4), some (.int a5), some .null, some .null, some (.ref q6)]) (st' := [.int (-2)]) (M' := M11) rfl rfl trivial ?_
          cases h
          exact hr_Gret mf_X10_state lb_X10_state_64 rfl rfl trivial
        · refine hr_Grun mf_X10_state lb_X10_state_47 (P := True) (pc' := if a4 < 0 then 62 else 52) (ls' := [some (.ref 0), some (.int a1), some (.int a2), some (.int a3), some (.int a4), some (.int a5), some .null, some .null, some (.ref q6)]) (st' := []) (M' := M11) rfl rfl trivial ?_
          refine hr_Gif h (fun _ h => ?_) (fun _ h => ?_)
          · refine hr_Grun mf_X10_state lb_X10_state_62 (P := True) (pc' := 64) (ls' := [some (.ref 0), some (.int a1), some (.int a2), some (.int a3), some (.int a4), some (.int a5), some .null, some .null, some (.ref q6)]) (st' := [.int (-2)]) (M' := M11) rfl rfl trivial ?_
            cases h
            exact hr_Gret mf_X10_state lb_X10_state_64 rfl rfl trivial
          · refine hr_Grun mf_X10_state lb_X10_state_52 (P := hr_K q6 = 5 ∧ True) (pc' := if a4 ≤ (M11.1 q6 0) then 65 else 62) (ls' := [some (.ref 0), some (.int a1), some (.int a2), some (.int a3), some (.int a4), some (.int a5), some .null, some .null, some (.ref q6)]) (st' := []) (M' := M11) rfl rfl ⟨kq6, trivial⟩ ?_
            refine hr_Gif h (fun _ h => ?_) (fun _ h => ?_)
            · refine hr_Grun mf_X10_state lb_X10_state_65 (P := hr_K 0 = 9 ∧ True) (pc' := 77) (ls' := [some (.ref 0), some (.int a1), some (.int a2), some (.int a3), some (.int a4), some (.int a5), some .null, some .null, some (.ref q6)]) (st' := [.int a4, .ref q6, .null, .null, .ref 249]) (M' := M11) rfl rfl ⟨K_0, trivial⟩ ?_
              cases h
            · refine hr_Grun mf_X10_state lb_X10_state_62 (P := True) (pc' := 64) (ls' := [some (.ref 0), some (.int a1), some (.int a2), some (.int a3), some (.int a4), some (.int a5), some .null, some .null, some (.ref q6)]) (st' := [.int (-2)]) (M' := M11) rfl rfl trivial ?_
              cases h
              exact hr_Gret mf_X10_state lb_X10_state_64 rfl rfl trivial
    · subst hv
      refine hr_Fg h (fun kq4 h => ?_)
      refine hr_Gcv mf_X10_state mf_X8_rollAt lb_X10_state_16 (b := 1) (as := [.int 1, .int a2]) (rest := []) (st2 := [.ref q4]) (v := some (.ref q4)) (M1 := M4) rfl rfl rfl rfl rfl rfl K_1 (g_X8_rollAt 1 a2 _ _ e4) rfl rfl ?_
      refine hr_Grun mf_X10_state lb_X10_state_19 (P := hr_K 0 = 9 ∧ True) (pc' := 27) (ls' := [some (.ref 0), some (.int a1), some (.int a2), some (.int a3), some (.int a4), some (.int a5), some .null, some (.ref q4), none]) (st' := [.int a3, .int 2, .ref 1]) (M' := M4) rfl rfl ⟨K_0, trivial⟩ ?_
      refine hr_Fb h (fun v20 M20 e20 h => ?_)
      refine hr_Fv h (fun hv h => ?_) (fun q20 hv h => ?_)
      · subst hv
        refine hr_Gcv mf_X10_state mf_X8_rollAt lb_X10_state_27 (b := 1) (as := [.int 2, .int a3]) (rest := []) (st2 := [.null]) (v := some .null) (M1 := M20) rfl rfl rfl rfl rfl rfl K_1 (g_X8_rollAt 2 a3 _ _ e20) rfl rfl ?_
        refine hr_Grun mf_X10_state lb_X10_state_30 (P := True) (pc' := 62) (ls' := [some (.ref 0), some (.int a1), some (.int a2), some (.int a3), some (.int a4), some (.int a5), some .null, some (.ref q4), some .null]) (st' := []) (M' := M20) rfl rfl trivial ?_
        refine hr_Grun mf_X10_state lb_X10_state_62 (P := True) (pc' := 64) (ls' := [some (.ref 0), some (.int a1), some (.int a2), some (.int a3), some (.int a4), some (.int a5), some .null, some (.ref q4), some .null]) (st' := [.int (-2)]) (M' := M20) rfl rfl trivial ?_
        cases h
        exact hr_Gret mf_X10_state lb_X10_state_64 rfl rfl trivial
      · subst hv
        refine hr_Fg h (fun kq20 h => ?_)
        refine hr_Gcv mf_X10_state mf_X8_rollAt lb_X10_state_27 (b := 1) (as := [.int 2, .int a3]) (rest := []) (st2 := [.ref q20]) (v := some (.ref q20)) (M1 := M20) rfl rfl rfl rfl rfl rfl K_1 (g_X8_rollAt 2 a3 _ _ e20) rfl rfl ?_
        refine hr_Grun mf_X10_state lb_X10_state_30 (P := True) (pc' := 37) (ls' := [some (.ref 0), some (.int a1), some (.int a2), some (.int a3), some (.int a4), some (.int a5), some .null, some (.ref q4), some (.ref q20)]) (st' := []) (M' := M20) rfl rfl trivial ?_
        refine hr_Grun mf_X10_state lb_X10_state_37 (P := True) (pc' := 41) (ls' := [some (.ref 0), some (.int a1), some (.int a2), some (.int a3), some (.int a4), some (.int a5), some .null, some (.ref q4), some (.ref q20)]) (st' := [.ref q4, .null]) (M' := M20) rfl rfl trivial ?_
        refine hr_Fb h (fun v25 M25 e25 h => ?_)
        refine hr_Gcs mf_X10_state mf_X10_goTogether lb_X10_state_41 (as := [.null, .ref q4]) (rest := []) (st2 := [.int v25]) (v := some (.int v25)) (M1 := M25) rfl rfl rfl rfl rfl rfl (g_X10_goTogether .null (.ref q4) _ _ e25) rfl rfl ?_
        refine hr_Grun mf_X10_state lb_X10_state_44 (P := True) (pc' := if v25 = 0 then 62 else 47) (ls' := [some (.ref 0), some (.int a1), some (.int a2), some (.int a3), some (.int a4), some (.int a5), some .null, some (.ref q4), some (.ref q20)]) (st' := []) (M' := M25) rfl rfl trivial ?_
        refine hr_Gif h (fun _ h => ?_) (fun _ h => ?_)
        · refine hr_Grun mf_X10_state lb_X10_state_62 (P := True) (pc' := 64) (ls' := [some (.ref 0), some (.int a1), some (.int a2), some (.int a3), some (.int a4), some (.int a5), some .null, some (.ref q4), some (.ref q20)]) (st' := [.int (-2)]) (M' := M25) rfl rfl trivial ?_
          cases h
          exact hr_Gret mf_X10_state lb_X10_state_64 rfl rfl trivial
        · refine hr_Grun mf_X10_state lb_X10_state_47 (P := True) (pc' := if a4 < 0 then 62 else 52) (ls' := [some (.ref 0), some (.int a1), some (.int a2), some (.int a3), some (.int a4), some (.int a5), some .null, some (.ref q4), some (.ref q20)]) (st' := []) (M' := M25) rfl rfl trivial ?_
          refine hr_Gif h (fun _ h => ?_) (fun _ h => ?_)
          · refine hr_Grun mf_X10_state lb_X10_state_62 (P := True) (pc' := 64) (ls' := [some (.ref 0), some (.int a1), some (.int a2), some (.int a3), some (.int a4), some (.int a5), some .null, some (.ref q4), some (.ref q20)]) (st' := [.int (-2)]) (M' := M25) rfl rfl trivial ?_
            cases h
            exact hr_Gret mf_X10_state lb_X10_state_64 rfl rfl trivial
          · refine hr_Grun mf_X10_state lb_X10_state_52 (P := hr_K q20 = 5 ∧ True) (pc' := if a4 ≤ (M25.1 q20 0) then 65 else 62) (ls' := [some (.ref 0), some (.int a1), some (.int a2), some (.int a3), some (.int a4), some (.int a5), some .null, some (.ref q4), some (.ref q20)]) (st' := []) (M' := M25) rfl rfl ⟨kq20, trivial⟩ ?_
            refine hr_Gif h (fun _ h => ?_) (fun _ h => ?_)
            · refine hr_Grun mf_X10_state lb_X10_state_65 (P := hr_K 0 = 9 ∧ True) (pc' := 77) (ls' := [some (.ref 0), some (.int a1), some (.int a2), some (.int a3), some (.int a4), some (.int a5), some .null, some (.ref q4), some (.ref q20)]) (st' := [.int a4, .ref q20, .ref q4, .null, .ref 249]) (M' := M25) rfl rfl ⟨K_0, trivial⟩ ?_
              cases h
            · refine hr_Grun mf_X10_state lb_X10_state_62 (P := True) (pc' := 64) (ls' := [some (.ref 0), some (.int a1), some (.int a2), some (.int a3), some (.int a4), some (.int a5), some .null, some (.ref q4), some (.ref q20)]) (st' := [.int (-2)]) (M' := M25) rfl rfl trivial ?_
              cases h
              exact hr_Gret mf_X10_state lb_X10_state_64 rfl rfl trivial
  · subst hv
    refine hr_Fg h (fun kq2 h => ?_)
    refine hr_Gcv mf_X10_state mf_X8_paletteAt lb_X10_state_5 (b := 1) (as := [.int a1]) (rest := []) (st2 := [.ref q2]) (v := some (.ref q2)) (M1 := M2) rfl rfl rfl rfl rfl rfl K_1 (g_X8_paletteAt a1 _ _ e2) rfl rfl ?_
    refine hr_Grun mf_X10_state lb_X10_state_8 (P := hr_K 0 = 9 ∧ True) (pc' := 16) (ls' := [some (.ref 0), some (.int a1), some (.int a2), some (.int a3), some (.int a4), some (.int a5), some (.ref q2), none, none]) (st' := [.int a2, .int 1, .ref 1]) (M' := M2) rfl rfl ⟨K_0, trivial⟩ ?_
    refine hr_Fb h (fun v34 M34 e34 h => ?_)
    refine hr_Fv h (fun hv h => ?_) (fun q34 hv h => ?_)
    · subst hv
      refine hr_Gcv mf_X10_state mf_X8_rollAt lb_X10_state_16 (b := 1) (as := [.int 1, .int a2]) (rest := []) (st2 := [.null]) (v := some .null) (M1 := M34) rfl rfl rfl rfl rfl rfl K_1 (g_X8_rollAt 1 a2 _ _ e34) rfl rfl ?_
      refine hr_Grun mf_X10_state lb_X10_state_19 (P := hr_K 0 = 9 ∧ True) (pc' := 27) (ls' := [some (.ref 0), some (.int a1), some (.int a2), some (.int a3), some (.int a4), some (.int a5), some (.ref q2), some .null, none]) (st' := [.int a3, .int 2, .ref 1]) (M' := M34) rfl rfl ⟨K_0, trivial⟩ ?_
      refine hr_Fb h (fun v36 M36 e36 h => ?_)
      refine hr_Fv h (fun hv h => ?_) (fun q36 hv h => ?_)
      · subst hv
        refine hr_Gcv mf_X10_state mf_X8_rollAt lb_X10_state_27 (b := 1) (as := [.int 2, .int a3]) (rest := []) (st2 := [.null]) (v := some .null) (M1 := M36) rfl rfl rfl rfl rfl rfl K_1 (g_X8_rollAt 2 a3 _ _ e36) rfl rfl ?_
        refine hr_Grun mf_X10_state lb_X10_state_30 (P := True) (pc' := 62) (ls' := [some (.ref 0), some (.int a1), some (.int a2), some (.int a3), some (.int a4), some (.int a5), some (.ref q2), some .null, some .null]) (st' := []) (M' := M36) rfl rfl trivial ?_
        refine hr_Grun mf_X10_state lb_X10_state_62 (P := True) (pc' := 64) (ls' := [some (.ref 0), some (.int a1), some (.int a2), some (.int a3), some (.int a4), some (.int a5), some (.ref q2), some .null, some .null]) (st' := [.int (-2)]) (M' := M36) rfl rfl trivial ?_
        cases h
        exact hr_Gret mf_X10_state lb_X10_state_64 rfl rfl trivial
      · subst hv
        refine hr_Fg h (fun kq36 h => ?_)
        refine hr_Gcv mf_X10_state mf_X8_rollAt lb_X10_state_27 (b := 1) (as := [.int 2, .int a3]) (rest := []) (st2 := [.ref q36]) (v := some (.ref q36)) (M1 := M36) rfl rfl rfl rfl rfl rfl K_1 (g_X8_rollAt 2 a3 _ _ e36) rfl rfl ?_
        refine hr_Grun mf_X10_state lb_X10_state_30 (P := True) (pc' := 37) (ls' := [some (.ref 0), some (.int a1), some (.int a2), some (.int a3), some (.int a4), some (.int a5), some (.ref q2), some .null, some (.ref q36)]) (st' := []) (M' := M36) rfl rfl trivial ?_
        refine hr_Grun mf_X10_state lb_X10_state_37 (P := True) (pc' := 41) (ls' := [some (.ref 0), some (.int a1), some (.int a2), some (.int a3), some (.int a4), some (.int a5), some (.ref q2), some .null, some (.ref q36)]) (st' := [.null, .ref q2]) (M' := M36) rfl rfl trivial ?_
        refine hr_Fb h (fun v41 M41 e41 h => ?_)
        refine hr_Gcs mf_X10_state mf_X10_goTogether lb_X10_state_41 (as := [.ref q2, .null]) (rest := []) (st2 := [.int v41]) (v := some (.int v41)) (M1 := M41) rfl rfl rfl rfl rfl rfl (g_X10_goTogether (.ref q2) .null _ _ e41) rfl rfl ?_
        refine hr_Grun mf_X10_state lb_X10_state_44 (P := True) (pc' := if v41 = 0 then 62 else 47) (ls' := [some (.ref 0), some (.int a1), some (.int a2), some (.int a3), some (.int a4), some (.int a5), some (.ref q2), some .null, some (.ref q36)]) (st' := []) (M' := M41) rfl rfl trivial ?_
        refine hr_Gif h (fun _ h => ?_) (fun _ h => ?_)
        · refine hr_Grun mf_X10_state lb_X10_state_62 (P := True) (pc' := 64) (ls' := [some (.ref 0), some (.int a1), some (.int a2), some (.int a3), some (.int a4), some (.int a5), some (.ref q2), some .null, some (.ref q36)]) (st' := [.int (-2)]) (M' := M41) rfl rfl trivial ?_
          cases h
          exact hr_Gret mf_X10_state lb_X10_state_64 rfl rfl trivial
        · refine hr_Grun mf_X10_state lb_X10_state_47 (P := True) (pc' := if a4 < 0 then 62 else 52) (ls' := [some (.ref 0), some (.int a1), some (.int a2), some (.int a3), some (.int a4), some (.int a5), some (.ref q2), some .null, some (.ref q36)]) (st' := []) (M' := M41) rfl rfl trivial ?_
          refine hr_Gif h (fun _ h => ?_) (fun _ h => ?_)
          · refine hr_Grun mf_X10_state lb_X10_state_62 (P := True) (pc' := 64) (ls' := [some (.ref 0), some (.int a1), some (.int a2), some (.int a3), some (.int a4), some (.int a5), some (.ref q2), some .null, some (.ref q36)]) (st' := [.int (-2)]) (M' := M41) rfl rfl trivial ?_
            cases h
            exact hr_Gret mf_X10_state lb_X10_state_64 rfl rfl trivial
          · refine hr_Grun mf_X10_state lb_X10_state_52 (P := hr_K q36 = 5 ∧ True) (pc' := if a4 ≤ (M41.1 q36 0) then 65 else 62) (ls' := [some (.ref 0), some (.int a1), some (.int a2), some (.int a3), some (.int a4), some (.int a5), some (.ref q2), some .null, some (.ref q36)]) (st' := []) (M' := M41) rfl rfl ⟨kq36, trivial⟩ ?_
            refine hr_Gif h (fun _ h => ?_) (fun _ h => ?_)
            · refine hr_Grun mf_X10_state lb_X10_state_65 (P := hr_K 0 = 9 ∧ True) (pc' := 77) (ls' := [some (.ref 0), some (.int a1), some (.int a2), some (.int a3), some (.int a4), some (.int a5), some (.ref q2), some .null, some (.ref q36)]) (st' := [.int a4, .ref q36, .null, .ref q2, .ref 249]) (M' := M41) rfl rfl ⟨K_0, trivial⟩ ?_
              cases h
            · refine hr_Grun mf_X10_state lb_X10_state_62 (P := True) (pc' := 64) (ls' := [some (.ref 0), some (.int a1), some (.int a2), some (.int a3), some (.int a4), some (.int a5), some (.ref q2), some .null, some (.ref q36)]) (st' := [.int (-2)]) (M' := M41) rfl rfl trivial ?_
              cases h
              exact hr_Gret mf_X10_state lb_X10_state_64 rfl rfl trivial
    · subst hv
      refine hr_Fg h (fun kq34 h => ?_)
      refine hr_Gcv mf_X10_state mf_X8_rollAt lb_X10_state_16 (b := 1) (as := [.int 1, .int a2]) (rest := []) (st2 := [.ref q34]) (v := some (.ref q34)) (M1 := M34) rfl rfl rfl rfl rfl rfl K_1 (g_X8_rollAt 1 a2 _ _ e34) rfl rfl ?_
      refine hr_Grun mf_X10_state lb_X10_state_19 (P := hr_K 0 = 9 ∧ True) (pc' := 27) (ls' := [some (.ref 0), some (.int a1), some (.int a2), some (.int a3), some (.int a4), some (.int a5), some (.ref q2), some (.ref q34), none]) (st' := [.int a3, .int 2, .ref 1]) (M' := M34) rfl rfl ⟨K_0, trivial⟩ ?_
      refine hr_Fb h (fun v50 M50 e50 h => ?_)
      refine hr_Fv h (fun hv h => ?_) (fun q50 hv h => ?_)
      · subst hv
        refine hr_Gcv mf_X10_state mf_X8_rollAt lb_X10_state_27 (b := 1) (as := [.int 2, .int a3]) (rest := []) (st2 := [.null]) (v := some .null) (M1 := M50) rfl rfl rfl rfl rfl rfl K_1 (g_X8_rollAt 2 a3 _ _ e50) rfl rfl ?_
        refine hr_Grun mf_X10_state lb_X10_state_30 (P := True) (pc' := 62) (ls' := [some (.ref 0), some (.int a1), some (.int a2), some (.int a3), some (.int a4), some (.int a5), some (.ref q2), some (.ref q34), some .null]) (st' := []) (M' := M50) rfl rfl trivial ?_
        refine hr_Grun mf_X10_state lb_X10_state_62 (P := True) (pc' := 64) (ls' := [some (.ref 0), some (.int a1), some (.int a2), some (.int a3), some (.int a4), some (.int a5), some (.ref q2), some (.ref q34), some .null]) (st' := [.int (-2)]) (M' := M50) rfl rfl trivial ?_
        cases h
        exact hr_Gret mf_X10_state lb_X10_state_64 rfl rfl trivial
      · subst hv
        refine hr_Fg h (fun kq50 h => ?_)
        refine hr_Gcv mf_X10_state mf_X8_rollAt lb_X10_state_27 (b := 1) (as := [.int 2, .int a3]) (rest := []) (st2 := [.ref q50]) (v := some (.ref q50)) (M1 := M50) rfl rfl rfl rfl rfl rfl K_1 (g_X8_rollAt 2 a3 _ _ e50) rfl rfl ?_
        refine hr_Grun mf_X10_state lb_X10_state_30 (P := True) (pc' := 37) (ls' := [some (.ref 0), some (.int a1), some (.int a2), some (.int a3), some (.int a4), some (.int a5), some (.ref q2), some (.ref q34), some (.ref q50)]) (st' := []) (M' := M50) rfl rfl trivial ?_
        refine hr_Grun mf_X10_state lb_X10_state_37 (P := True) (pc' := 41) (ls' := [some (.ref 0), some (.int a1), some (.int a2), some (.int a3), some (.int a4), some (.int a5), some (.ref q2), some (.ref q34), some (.ref q50)]) (st' := [.ref q34, .ref q2]) (M' := M50) rfl rfl trivial ?_
        refine hr_Fb h (fun v55 M55 e55 h => ?_)
        refine hr_Gcs mf_X10_state mf_X10_goTogether lb_X10_state_41 (as := [.ref q2, .ref q34]) (rest := []) (st2 := [.int v55]) (v := some (.int v55)) (M1 := M55) rfl rfl rfl rfl rfl rfl (g_X10_goTogether (.ref q2) (.ref q34) _ _ e55) rfl rfl ?_
        refine hr_Grun mf_X10_state lb_X10_state_44 (P := True) (pc' := if v55 = 0 then 62 else 47) (ls' := [some (.ref 0), some (.int a1), some (.int a2), some (.int a3), some (.int a4), some (.int a5), some (.ref q2), some (.ref q34), some (.ref q50)]) (st' := []) (M' := M55) rfl rfl trivial ?_
        refine hr_Gif h (fun _ h => ?_) (fun _ h => ?_)
        · refine hr_Grun mf_X10_state lb_X10_state_62 (P := True) (pc' := 64) (ls' := [some (.ref 0), some (.int a1), some (.int a2), some (.int a3), some (.int a4), some (.int a5), some (.ref q2), some (.ref q34), some (.ref q50)]) (st' := [.int (-2)]) (M' := M55) rfl rfl trivial ?_
          cases h
          exact hr_Gret mf_X10_state lb_X10_state_64 rfl rfl trivial
        · refine hr_Grun mf_X10_state lb_X10_state_47 (P := True) (pc' := if a4 < 0 then 62 else 52) (ls' := [some (.ref 0), some (.int a1), some (.int a2), some (.int a3), some (.int a4), some (.int a5), some (.ref q2), some (.ref q34), some (.ref q50)]) (st' := []) (M' := M55) rfl rfl trivial ?_
          refine hr_Gif h (fun _ h => ?_) (fun _ h => ?_)
          · refine hr_Grun mf_X10_state lb_X10_state_62 (P := True) (pc' := 64) (ls' := [some (.ref 0), some (.int a1), some (.int a2), some (.int a3), some (.int a4), some (.int a5), some (.ref q2), some (.ref q34), some (.ref q50)]) (st' := [.int (-2)]) (M' := M55) rfl rfl trivial ?_
            cases h
            exact hr_Gret mf_X10_state lb_X10_state_64 rfl rfl trivial
          · refine hr_Grun mf_X10_state lb_X10_state_52 (P := hr_K q50 = 5 ∧ True) (pc' := if a4 ≤ (M55.1 q50 0) then 65 else 62) (ls' := [some (.ref 0), some (.int a1), some (.int a2), some (.int a3), some (.int a4), some (.int a5), some (.ref q2), some (.ref q34), some (.ref q50)]) (st' := []) (M' := M55) rfl rfl ⟨kq50, trivial⟩ ?_
            refine hr_Gif h (fun _ h => ?_) (fun _ h => ?_)
            · refine hr_Grun mf_X10_state lb_X10_state_65 (P := hr_K 0 = 9 ∧ True) (pc' := 77) (ls' := [some (.ref 0), some (.int a1), some (.int a2), some (.int a3), some (.int a4), some (.int a5), some (.ref q2), some (.ref q34), some (.ref q50)]) (st' := [.int a4, .ref q50, .ref q34, .ref q2, .ref 249]) (M' := M55) rfl rfl ⟨K_0, trivial⟩ ?_
              refine hr_Fb h (fun v62 M62 e62 h => ?_)
              refine hr_Gcv mf_X10_state mf_X9_go lb_X10_state_77 (b := 249) (as := [.ref q2, .ref q34, .ref q50, .int a4]) (rest := []) (st2 := [.int v62]) (v := some (.int v62)) (M1 := M62) rfl rfl rfl rfl rfl rfl K_249 (g_X9_go q2 q34 q50 a4 _ _ e62) rfl rfl ?_
              refine hr_Grun mf_X10_state lb_X10_state_80 (P := True) (pc' := if a4 ≤ v62 then 88 else 85) (ls' := [some (.ref 0), some (.int a1), some (.int a2), some (.int a3), some (.int a4), some (.int a5), some (.ref q2), some (.ref q34), some (.ref q50)]) (st' := []) (M' := M62) rfl rfl trivial ?_
              refine hr_Gif h (fun _ h => ?_) (fun _ h => ?_)
              · refine hr_Grun mf_X10_state lb_X10_state_88 (P := hr_K 0 = 9 ∧ True) (pc' := 98) (ls' := [some (.ref 0), some (.int a1), some (.int a2), some (.int a3), some (.int a4), some (.int a5), some (.ref q2), some (.ref q34), some (.ref q50)]) (st' := [.int a5, .ref q34, .ref q2, .ref 249]) (M' := M62) rfl rfl ⟨K_0, trivial⟩ ?_
                refine hr_Fb h (fun v65 M65 e65 h => ?_)
                refine hr_Gcv mf_X10_state mf_X9_answer lb_X10_state_98 (b := 249) (as := [.ref q2, .ref q34, .int a5]) (rest := []) (st2 := [.int v65]) (v := some (.int v65)) (M1 := M65) rfl rfl rfl rfl rfl rfl K_249 (g_X9_answer q2 q34 a5 _ _ e65) rfl rfl ?_
                cases h
                exact hr_Gret mf_X10_state lb_X10_state_101 rfl rfl trivial
              · refine hr_Grun mf_X10_state lb_X10_state_85 (P := True) (pc' := 87) (ls' := [some (.ref 0), some (.int a1), some (.int a2), some (.int a3), some (.int a4), some (.int a5), some (.ref q2), some (.ref q34), some (.ref q50)]) (st' := [.int (-2)]) (M' := M62) rfl rfl trivial ?_
                cases h
                exact hr_Gret mf_X10_state lb_X10_state_87 rfl rfl trivial
            · refine hr_Grun mf_X10_state lb_X10_state_62 (P := True) (pc' := 64) (ls' := [some (.ref 0), some (.int a1), some (.int a2), some (.int a3), some (.int a4), some (.int a5), some (.ref q2), some (.ref q34), some (.ref q50)]) (st' := [.int (-2)]) (M' := M55) rfl rfl trivial ?_
              cases h
              exact hr_Gret mf_X10_state lb_X10_state_64 rfl rfl trivial
theorem mf_X10_hung : hr_mf 134 10 4 (some .int) 6 3 bk_X10_hung := ⟨rfl, rfl, rfl, rfl, rfl, rfl⟩
theorem lb_X10_hung_0 : bk_X10_hung.lookup 0 = some [(.aload_n 0, 1), (.getfield 10, 3), (.iload_n 1, 1)] := rfl
theorem lb_X10_hung_5 : bk_X10_hung.lookup 5 = some [(.invokevirtual 109, 3)] := rfl
theorem lb_X10_hung_8 : bk_X10_hung.lookup 8 = some [(.astore 4, 2), (.aload_n 0, 1), (.getfield 10, 3), (.iconst 1, 1), (.iload_n 2, 1)] := rfl
theorem lb_X10_hung_16 : bk_X10_hung.lookup 16 = some [(.invokevirtual 140, 3)] := rfl
theorem lb_X10_hung_19 : bk_X10_hung.lookup 19 = some [(.astore 5, 2), (.aload 4, 2), (.aload 5, 2)] := rfl
theorem lb_X10_hung_25 : bk_X10_hung.lookup 25 = some [(.invokestatic 162, 3)] := rfl
theorem lb_X10_hung_28 : bk_X10_hung.lookup 28 = some [(.ifCond .ne 6, 3)] := rfl
theorem lb_X10_hung_31 : bk_X10_hung.lookup 31 = some [(.bipush (-2), 2)] := rfl
theorem lb_X10_hung_33 : bk_X10_hung.lookup 33 = some [(.ireturn, 1)] := rfl
theorem lb_X10_hung_34 : bk_X10_hung.lookup 34 = some [(.iload_n 3, 1), (.iconst 3, 1), (.if_icmp .ne 11, 3)] := rfl
theorem lb_X10_hung_39 : bk_X10_hung.lookup 39 = some [(.aload 4, 2), (.aload 5, 2)] := rfl
theorem lb_X10_hung_43 : bk_X10_hung.lookup 43 = some [(.invokevirtual 173, 3)] := rfl
theorem lb_X10_hung_46 : bk_X10_hung.lookup 46 = some [(.ireturn, 1)] := rfl
theorem lb_X10_hung_47 : bk_X10_hung.lookup 47 = some [(.iload_n 3, 1), (.iconst 4, 1), (.if_icmp .ne 11, 3)] := rfl
theorem lb_X10_hung_52 : bk_X10_hung.lookup 52 = some [(.aload 4, 2), (.aload 5, 2)] := rfl
theorem lb_X10_hung_56 : bk_X10_hung.lookup 56 = some [(.invokevirtual 177, 3)] := rfl
theorem lb_X10_hung_59 : bk_X10_hung.lookup 59 = some [(.ireturn, 1)] := rfl
theorem lb_X10_hung_60 : bk_X10_hung.lookup 60 = some [(.aload_n 0, 1), (.getfield 34, 3), (.aload 4, 2), (.aload 5, 2)] := rfl
theorem lb_X10_hung_68 : bk_X10_hung.lookup 68 = some [(.invokevirtual 180, 3)] := rfl
theorem lb_X10_hung_71 : bk_X10_hung.lookup 71 = some [(.iload_n 3, 1), (.ifCond .ne 11, 3)] := rfl
theorem lb_X10_hung_75 : bk_X10_hung.lookup 75 = some [(.aload_n 0, 1), (.getfield 34, 3)] := rfl
theorem lb_X10_hung_79 : bk_X10_hung.lookup 79 = some [(.invokevirtual 184, 3)] := rfl
theorem lb_X10_hung_82 : bk_X10_hung.lookup 82 = some [(.ireturn, 1)] := rfl
theorem lb_X10_hung_83 : bk_X10_hung.lookup 83 = some [(.iload_n 3, 1), (.iconst 1, 1), (.if_icmp .ne 11, 3)] := rfl
theorem lb_X10_hung_88 : bk_X10_hung.lookup 88 = some [(.aload_n 0, 1), (.getfield 34, 3)] := rfl
theorem lb_X10_hung_92 : bk_X10_hung.lookup 92 = some [(.invokevirtual 188, 3)] := rfl
theorem lb_X10_hung_95 : bk_X10_hung.lookup 95 = some [(.ireturn, 1)] := rfl
theorem lb_X10_hung_96 : bk_X10_hung.lookup 96 = some [(.iload_n 3, 1), (.iconst 2, 1), (.if_icmp .ne 13, 3)] := rfl
theorem lb_X10_hung_101 : bk_X10_hung.lookup 101 = some [(.aload_n 0, 1), (.getfield 34, 3)] := rfl
theorem lb_X10_hung_105 : bk_X10_hung.lookup 105 = some [(.invokevirtual 191, 3)] := rfl
theorem lb_X10_hung_108 : bk_X10_hung.lookup 108 = some [(.goto 5, 3)] := rfl
theorem lb_X10_hung_111 : bk_X10_hung.lookup 111 = some [(.bipush (-2), 2)] := rfl
theorem lb_X10_hung_113 : bk_X10_hung.lookup 113 = some [(.ireturn, 1)] := rfl
def f_X10_hung (a1 : Int32) (a2 : Int32) (a3 : Int32) (M : PM) : Option (Int32 × PM) :=
  hr_bd (f_X8_paletteAt a1 M) (fun v2 M2 => match v2 with
  | .null => hr_bd (f_X8_rollAt 1 a2 M2) (fun v4 M4 => match v4 with
    | .null => hr_bd (f_X10_goTogether .null .null M4) (fun v6 M6 =>
      if v6 = 0 then
        some ((-2), M6)
      else
        if a3 = 3 then
          none
        else
          if a3 = 4 then
            none
          else
            none)
    | .ref q4 => if hr_K q4 = 5 then
      hr_bd (f_X10_goTogether .null (.ref q4) M4) (fun v15 M15 =>
      if v15 = 0 then
        some ((-2), M15)
      else
        if a3 = 3 then
          none
        else
          if a3 = 4 then
            none
          else
            none)
      else none
    | _ => none)
  | .ref q2 => if hr_K q2 = 3 then
    hr_bd (f_X8_rollAt 1 a2 M2) (fun v24 M24 => match v24 with
    | .null => hr_bd (f_X10_goTogether (.ref q2) .null M24) (fun v26 M26 =>
      if v26 = 0 then
        some ((-2), M26)
      else
        if a3 = 3 then
          none
        else
          if a3 = 4 then
            none
          else
            none)
    | .ref q24 => if hr_K q24 = 5 then
      hr_bd (f_X10_goTogether (.ref q2) (.ref q24) M24) (fun v35 M35 =>
      if v35 = 0 then
        some ((-2), M35)
      else
        if a3 = 3 then
          hr_bd (f_X4_worstOf q2 q24 M35) (fun v40 M40 =>
          some (v40, M40))
        else
          if a3 = 4 then
            hr_bd (f_X4_strengthsOf q2 q24 M35) (fun v43 M43 =>
            some (v43, M43))
          else
            hr_bd (f_X1_gatherPictures q2 q24 M35) (fun v45 M45 =>
            if a3 = 0 then
              hr_bd (f_X1_fewestParts M45) (fun v48 M48 =>
              some (v48, M48))
            else
              if a3 = 1 then
                hr_bd (f_X1_greatestQuarrel M45) (fun v51 M51 =>
                some (v51, M51))
              else
                if a3 = 2 then
                  hr_bd (f_X1_fewestHidden M45) (fun v54 M54 =>
                  some (v54, M54))
                else
                  some ((-2), M45)))
      else none
    | _ => none)
    else none
  | _ => none)
theorem g_X10_hung (a1 : Int32) (a2 : Int32) (a3 : Int32) : ∀ (M : PM) (r : Int32 × PM), f_X10_hung a1 a2 a3 M = some r → hr_G 134 0 [some (.ref 0), some (.int a1), some (.int a2), some (.int a3), none, none] [] M (some (.int r.1), r.2) := by
  intro M r h
  unfold f_X10_hung at h
  refine hr_Grun mf_X10_hung lb_X10_hung_0 (P := hr_K 0 = 9 ∧ True) (pc' := 5) (ls' := [some (.ref 0), some (.int a1), some (.int a2), some (.int a3), none, none]) (st' := [.int a1, .ref 1]) (M' := M) rfl rfl ⟨K_0, trivial⟩ ?_
  refine hr_Fb h (fun v2 M2 e2 h => ?_)
  refine hr_Fv h (fun hv h => ?_) (fun q2 hv h => ?_)
  · subst hv
    refine hr_Gcv mf_X10_hung mf_X8_paletteAt lb_X10_hung_5 (b := 1) (as := [.int a1]) (rest := []) (st2 := [.null]) (v := some .null) (M1 := M2) rfl rfl rfl rfl rfl rfl K_1 (g_X8_paletteAt a1 _ _ e2) rfl rfl ?_
    refine hr_Grun mf_X10_hung lb_X10_hung_8 (P := hr_K 0 = 9 ∧ True) (pc' := 16) (ls' := [some (.ref 0), some (.int a1), some (.int a2), some (.int a3), some .null, none]) (st' := [.int a2, .int 1, .ref 1]) (M' := M2) rfl rfl ⟨K_0, trivial⟩ ?_
    refine hr_Fb h (fun v4 M4 e4 h => ?_)
    refine hr_Fv h (fun hv h => ?_) (fun q4 hv h => ?_)
    · subst hv
      refine hr_Gcv mf_X10_hung mf_X8_rollAt lb_X10_hung_16 (b := 1) (as := [.int 1, .int a2]) (rest := []) (st2 := [.null]) (v := some .null) (M1 := M4) rfl rfl rfl rfl rfl rfl K_1 (g_X8_rollAt 1 a2 _ _ e4) rfl rfl ?_
      refine hr_Grun mf_X10_hung lb_X10_hung_19 (P := True) (pc' := 25) (ls' := [some (.ref 0), some (.int a1), some (.int a2), some (.int a3), some .null, some .null]) (st' := [.null, .null]) (M' := M4) rfl rfl trivial ?_
      refine hr_Fb h (fun v6 M6 e6 h => ?_)
      refine hr_Gcs mf_X10_hung mf_X10_goTogether lb_X10_hung_25 (as := [.null, .null]) (rest := []) (st2 := [.int v6]) (v := some (.int v6)) (M1 := M6) rfl rfl rfl rfl rfl rfl (g_X10_goTogether .null .null _ _ e6) rfl rfl ?_
      refine hr_Grun mf_X10_hung lb_X10_hung_28 (P := True) (pc' := if v6 = 0 then 31 else 34) (ls' := [some (.ref 0), some (.int a1), some (.int a2), some (.int a3), some .null, some .null]) (st' := []) (M' := M6) rfl rfl trivial ?_
      refine hr_Gif h (fun _ h => ?_) (fun _ h => ?_)
      · refine hr_Grun mf_X10_hung lb_X10_hung_31 (P := True) (pc' := 33) (ls' := [some (.ref 0), some (.int a1), some (.int a2), some (.int a3), some .null, some .null]) (st' := [.int (-2)]) (M' := M6) rfl rfl trivial ?_
        cases h
        exact hr_Gret mf_X10_hung lb_X10_hung_33 rfl rfl trivial
      · refine hr_Grun mf_X10_hung lb_X10_hung_34 (P := True) (pc' := if a3 = 3 then 39 else 47) (ls' := [some (.ref 0), some (.int a1), some (.int a2), some (.int a3), some .null, some .null]) (st' := []) (M' := M6) rfl rfl trivial ?_
        refine hr_Gif h (fun _ h => ?_) (fun _ h => ?_)
        · refine hr_Grun mf_X10_hung lb_X10_hung_39 (P := True) (pc' := 43) (ls' := [some (.ref 0), some (.int a1), some (.int a2), some (.int a3), some .null, some .null]) (st' := [.null, .null]) (M' := M6) rfl rfl trivial ?_
          cases h
        · refine hr_Grun mf_X10_hung lb_X10_hung_47 (P := True) (pc' := if a3 = 4 then 52 else 60) (ls' := [some (.ref 0), some (.int a1), some (.int a2), some (.int a3), some .null, some .null]) (st' := []) (M' := M6) rfl rfl trivial ?_
          refine hr_Gif h (fun _ h => ?_) (fun _ h => ?_)
          · refine hr_Grun mf_X10_hung lb_X10_hung_52 (P := True) (pc' := 56) (ls' := [some (.ref 0), some (.int a1), some (.int a2), some (.int a3), some .null, some .null]) (st' := [.null, .null]) (M' := M6) rfl rfl trivial ?_
            cases h
          · refine hr_Grun mf_X10_hung lb_X10_hung_60 (P := hr_K 0 = 9 ∧ True) (pc' := 68) (ls' := [some (.ref 0), some (.int a1), some (.int a2), some (.int a3), some .null, some .null]) (st' := [.null, .null, .ref 240]) (M' := M6) rfl rfl ⟨K_0, trivial⟩ ?_
            cases h
    · subst hv
      refine hr_Fg h (fun kq4 h => ?_)
      refine hr_Gcv mf_X10_hung mf_X8_rollAt lb_X10_hung_16 (b := 1) (as := [.int 1, .int a2]) (rest := []) (st2 := [.ref q4]) (v := some (.ref q4)) (M1 := M4) rfl rfl rfl rfl rfl rfl K_1 (g_X8_rollAt 1 a2 _ _ e4) rfl rfl ?_
      refine hr_Grun mf_X10_hung lb_X10_hung_19 (P := True) (pc' := 25) (ls' := [some (.ref 0), some (.int a1), some (.int a2), some (.int a3), some .null, some (.ref q4)]) (st' := [.ref q4, .null]) (M' := M4) rfl rfl trivial ?_
      refine hr_Fb h (fun v15 M15 e15 h => ?_)
      refine hr_Gcs mf_X10_hung mf_X10_goTogether lb_X10_hung_25 (as := [.null, .ref q4]) (rest := []) (st2 := [.int v15]) (v := some (.int v15)) (M1 := M15) rfl rfl rfl rfl rfl rfl (g_X10_goTogether .null (.ref q4) _ _ e15) rfl rfl ?_
      refine hr_Grun mf_X10_hung lb_X10_hung_28 (P := True) (pc' := if v15 = 0 then 31 else 34) (ls' := [some (.ref 0), some (.int a1), some (.int a2), some (.int a3), some .null, some (.ref q4)]) (st' := []) (M' := M15) rfl rfl trivial ?_
      refine hr_Gif h (fun _ h => ?_) (fun _ h => ?_)
      · refine hr_Grun mf_X10_hung lb_X10_hung_31 (P := True) (pc' := 33) (ls' := [some (.ref 0), some (.int a1), some (.int a2), some (.int a3), some .null, some (.ref q4)]) (st' := [.int (-2)]) (M' := M15) rfl rfl trivial ?_
        cases h
        exact hr_Gret mf_X10_hung lb_X10_hung_33 rfl rfl trivial
      · refine hr_Grun mf_X10_hung lb_X10_hung_34 (P := True) (pc' := if a3 = 3 then 39 else 47) (ls' := [some (.ref 0), some (.int a1), some (.int a2), some (.int a3), some .null, some (.ref q4)]) (st' := []) (M' := M15) rfl rfl trivial ?_
        refine hr_Gif h (fun _ h => ?_) (fun _ h => ?_)
        · refine hr_Grun mf_X10_hung lb_X10_hung_39 (P := True) (pc' := 43) (ls' := [some (.ref 0), some (.int a1), some (.int a2), some (.int a3), some .null, some (.ref q4)]) (st' := [.ref q4, .null]) (M' := M15) rfl rfl trivial ?_
          cases h
        · refine hr_Grun mf_X10_hung lb_X10_hung_47 (P := True) (pc' := if a3 = 4 then 52 else 60) (ls' := [some (.ref 0), some (.int a1), some (.int a2), some (.int a3), some .null, some (.ref q4)]) (st' := []) (M' := M15) rfl rfl trivial ?_
          refine hr_Gif h (fun _ h => ?_) (fun _ h => ?_)
          · refine hr_Grun mf_X10_hung lb_X10_hung_52 (P := True) (pc' := 56) (ls' := [some (.ref 0), some (.int a1), some (.int a2), some (.int a3), some .null, some (.ref q4)]) (st' := [.ref q4, .null]) (M' := M15) rfl rfl trivial ?_
            cases h
          · refine hr_Grun mf_X10_hung lb_X10_hung_60 (P := hr_K 0 = 9 ∧ True) (pc' := 68) (ls' := [some (.ref 0), some (.int a1), some (.int a2), some (.int a3), some .null, some (.ref q4)]) (st' := [.ref q4, .null, .ref 240]) (M' := M15) rfl rfl ⟨K_0, trivial⟩ ?_
            cases h
  · subst hv
    refine hr_Fg h (fun kq2 h => ?_)
    refine hr_Gcv mf_X10_hung mf_X8_paletteAt lb_X10_hung_5 (b := 1) (as := [.int a1]) (rest := []) (st2 := [.ref q2]) (v := some (.ref q2)) (M1 := M2) rfl rfl rfl rfl rfl rfl K_1 (g_X8_paletteAt a1 _ _ e2) rfl rfl ?_
    refine hr_Grun mf_X10_hung lb_X10_hung_8 (P := hr_K 0 = 9 ∧ True) (pc' := 16) (ls' := [some (.ref 0), some (.int a1), some (.int a2), some (.int a3), some (.ref q2), none]) (st' := [.int a2, .int 1, .ref 1]) (M' := M2) rfl rfl ⟨K_0, trivial⟩ ?_
    refine hr_Fb h (fun v24 M24 e24 h => ?_)
    refine hr_Fv h (fun hv h => ?_) (fun q24 hv h => ?_)
    · subst hv
      refine hr_Gcv mf_X10_hung mf_X8_rollAt lb_X10_hung_16 (b := 1) (as := [.int 1, .int a2]) (rest := []) (st2 := [.null]) (v := some .null) (M1 := M24) rfl rfl rfl rfl rfl rfl K_1 (g_X8_rollAt 1 a2 _ _ e24) rfl rfl ?_
      refine hr_Grun mf_X10_hung lb_X10_hung_19 (P := True) (pc' := 25) (ls' := [some (.ref 0), some (.int a1), some (.int a2), some (.int a3), some (.ref q2), some .null]) (st' := [.null, .ref q2]) (M' := M24) rfl rfl trivial ?_
      refine hr_Fb h (fun v26 M26 e26 h => ?_)
      refine hr_Gcs mf_X10_hung mf_X10_goTogether lb_X10_hung_25 (as := [.ref q2, .null]) (rest := []) (st2 := [.int v26]) (v := some (.int v26)) (M1 := M26) rfl rfl rfl rfl rfl rfl (g_X10_goTogether (.ref q2) .null _ _ e26) rfl rfl ?_
      refine hr_Grun mf_X10_hung lb_X10_hung_28 (P := True) (pc' := if v26 = 0 then 31 else 34) (ls' := [some (.ref 0), some (.int a1), some (.int a2), some (.int a3), some (.ref q2), some .null]) (st' := []) (M' := M26) rfl rfl trivial ?_
      refine hr_Gif h (fun _ h => ?_) (fun _ h => ?_)
      · refine hr_Grun mf_X10_hung lb_X10_hung_31 (P := True) (pc' := 33) (ls' := [some (.ref 0), some (.int a1), some (.int a2), some (.int a3), some (.ref q2), some .null]) (st' := [.int (-2)]) (M' := M26) rfl rfl trivial ?_
        cases h
        exact hr_Gret mf_X10_hung lb_X10_hung_33 rfl rfl trivial
      · refine hr_Grun mf_X10_hung lb_X10_hung_34 (P := True) (pc' := if a3 = 3 then 39 else 47) (ls' := [some (.ref 0), some (.int a1), some (.int a2), some (.int a3), some (.ref q2), some .null]) (st' := []) (M' := M26) rfl rfl trivial ?_
        refine hr_Gif h (fun _ h => ?_) (fun _ h => ?_)
        · refine hr_Grun mf_X10_hung lb_X10_hung_39 (P := True) (pc' := 43) (ls' := [some (.ref 0), some (.int a1), some (.int a2), some (.int a3), some (.ref q2), some .null]) (st' := [.null, .ref q2]) (M' := M26) rfl rfl trivial ?_
          cases h
        · refine hr_Grun mf_X10_hung lb_X10_hung_47 (P := True) (pc' := if a3 = 4 then 52 else 60) (ls' := [some (.ref 0), some (.int a1), some (.int a2), some (.int a3), some (.ref q2), some .null]) (st' := []) (M' := M26) rfl rfl trivial ?_
          refine hr_Gif h (fun _ h => ?_) (fun _ h => ?_)
          · refine hr_Grun mf_X10_hung lb_X10_hung_52 (P := True) (pc' := 56) (ls' := [some (.ref 0), some (.int a1), some (.int a2), some (.int a3), some (.ref q2), some .null]) (st' := [.null, .ref q2]) (M' := M26) rfl rfl trivial ?_
            cases h
          · refine hr_Grun mf_X10_hung lb_X10_hung_60 (P := hr_K 0 = 9 ∧ True) (pc' := 68) (ls' := [some (.ref 0), some (.int a1), some (.int a2), some (.int a3), some (.ref q2), some .null]) (st' := [.null, .ref q2, .ref 240]) (M' := M26) rfl rfl ⟨K_0, trivial⟩ ?_
            cases h
    · subst hv
      refine hr_Fg h (fun kq24 h => ?_)
      refine hr_Gcv mf_X10_hung mf_X8_rollAt lb_X10_hung_16 (b := 1) (as := [.int 1, .int a2]) (rest := []) (st2 := [.ref q24]) (v := some (.ref q24)) (M1 := M24) rfl rfl rfl rfl rfl rfl K_1 (g_X8_rollAt 1 a2 _ _ e24) rfl rfl ?_
      refine hr_Grun mf_X10_hung lb_X10_hung_19 (P := True) (pc' := 25) (ls' := [some (.ref 0), some (.int a1), some (.int a2), some (.int a3), some (.ref q2), some (.ref q24)]) (st' := [.ref q24, .ref q2]) (M' := M24) rfl rfl trivial ?_
      refine hr_Fb h (fun v35 M35 e35 h => ?_)
      refine hr_Gcs mf_X10_hung mf_X10_goTogether lb_X10_hung_25 (as := [.ref q2, .ref q24]) (rest := []) (st2 := [.int v35]) (v := some (.int v35)) (M1 := M35) rfl rfl rfl rfl rfl rfl (g_X10_goTogether (.ref q2) (.ref q24) _ _ e35) rfl rfl ?_
      refine hr_Grun mf_X10_hung lb_X10_hung_28 (P := True) (pc' := if v35 = 0 then 31 else 34) (ls' := [some (.ref 0), some (.int a1), some (.int a2), some (.int a3), some (.ref q2), some (.ref q24)]) (st' := []) (M' := M35) rfl rfl trivial ?_
      refine hr_Gif h (fun _ h => ?_) (fun _ h => ?_)
      · refine hr_Grun mf_X10_hung lb_X10_hung_31 (P := True) (pc' := 33) (ls' := [some (.ref 0), some (.int a1), some (.int a2), some (.int a3), some (.ref q2), some (.ref q24)]) (st' := [.int (-2)]) (M' := M35) rfl rfl trivial ?_
        cases h
        exact hr_Gret mf_X10_hung lb_X10_hung_33 rfl rfl trivial
      · refine hr_Grun mf_X10_hung lb_X10_hung_34 (P := True) (pc' := if a3 = 3 then 39 else 47) (ls' := [some (.ref 0), some (.int a1), some (.int a2), some (.int a3), some (.ref q2), some (.ref q24)]) (st' := []) (M' := M35) rfl rfl trivial ?_
        refine hr_Gif h (fun _ h => ?_) (fun _ h => ?_)
        · refine hr_Grun mf_X10_hung lb_X10_hung_39 (P := True) (pc' := 43) (ls' := [some (.ref 0), some (.int a1), some (.int a2), some (.int a3), some (.ref q2), some (.ref q24)]) (st' := [.ref q24, .ref q2]) (M' := M35) rfl rfl trivial ?_
          refine hr_Fb h (fun v40 M40 e40 h => ?_)
          refine hr_Gcv mf_X10_hung mf_X4_worstOf lb_X10_hung_43 (b := q2) (as := [.ref q24]) (rest := []) (st2 := [.int v40]) (v := some (.int v40)) (M1 := M40) rfl rfl rfl rfl rfl rfl kq2 (g_X4_worstOf q2 q24 _ _ e40) rfl rfl ?_
          cases h
          exact hr_Gret mf_X10_hung lb_X10_hung_46 rfl rfl trivial
        · refine hr_Grun mf_X10_hung lb_X10_hung_47 (P := True) (pc' := if a3 = 4 then 52 else 60) (ls' := [some (.ref 0), some (.int a1), some (.int a2), some (.int a3), some (.ref q2), some (.ref q24)]) (st' := []) (M' := M35) rfl rfl trivial ?_
          refine hr_Gif h (fun _ h => ?_) (fun _ h => ?_)
          · refine hr_Grun mf_X10_hung lb_X10_hung_52 (P := True) (pc' := 56) (ls' := [some (.ref 0), some (.int a1), some (.int a2), some (.int a3), some (.ref q2), some (.ref q24)]) (st' := [.ref q24, .ref q2]) (M' := M35) rfl rfl trivial ?_
            refine hr_Fb h (fun v43 M43 e43 h => ?_)
            refine hr_Gcv mf_X10_hung mf_X4_strengthsOf lb_X10_hung_56 (b := q2) (as := [.ref q24]) (rest := []) (st2 := [.int v43]) (v := some (.int v43)) (M1 := M43) rfl rfl rfl rfl rfl rfl kq2 (g_X4_strengthsOf q2 q24 _ _ e43) rfl rfl ?_
            cases h
            exact hr_Gret mf_X10_hung lb_X10_hung_59 rfl rfl trivial
          · refine hr_Grun mf_X10_hung lb_X10_hung_60 (P := hr_K 0 = 9 ∧ True) (pc' := 68) (ls' := [some (.ref 0), some (.int a1), some (.int a2), some (.int a3), some (.ref q2), some (.ref q24)]) (st' := [.ref q24, .ref q2, .ref 240]) (M' := M35) rfl rfl ⟨K_0, trivial⟩ ?_
            refine hr_Fb h (fun v45 M45 e45 h => ?_)
            refine hr_Gcv mf_X10_hung mf_X1_gatherPictures lb_X10_hung_68 (b := 240) (as := [.ref q2, .ref q24]) (rest := []) (st2 := []) (v := none) (M1 := M45) rfl rfl rfl rfl rfl rfl K_240 (g_X1_gatherPictures q2 q24 _ _ e45) rfl rfl ?_
            refine hr_Grun mf_X10_hung lb_X10_hung_71 (P := True) (pc' := if a3 = 0 then 75 else 83) (ls' := [some (.ref 0), some (.int a1), some (.int a2), some (.int a3), some (.ref q2), some (.ref q24)]) (st' := []) (M' := M45) rfl rfl trivial ?_
            refine hr_Gif h (fun _ h => ?_) (fun _ h => ?_)
            · refine hr_Grun mf_X10_hung lb_X10_hung_75 (P := hr_K 0 = 9 ∧ True) (pc' := 79) (ls' := [some (.ref 0), some (.int a1), some (.int a2), some (.int a3), some (.ref q2), some (.ref q24)]) (st' := [.ref 240]) (M' := M45) rfl rfl ⟨K_0, trivial⟩ ?_
              refine hr_Fb h (fun v48 M48 e48 h => ?_)
              refine hr_Gcv mf_X10_hung mf_X1_fewestParts lb_X10_hung_79 (b := 240) (as := []) (rest := []) (st2 := [.int v48]) (v := some (.int v48)) (M1 := M48) rfl rfl rfl rfl rfl rfl K_240 (g_X1_fewestParts  _ _ e48) rfl rfl ?_
              cases h
              exact hr_Gret mf_X10_hung lb_X10_hung_82 rfl rfl trivial
            · refine hr_Grun mf_X10_hung lb_X10_hung_83 (P := True) (pc' := if a3 = 1 then 88 else 96) (ls' := [some (.ref 0), some (.int a1), some (.int a2), some (.int a3), some (.ref q2), some (.ref q24)]) (st' := []) (M' := M45) rfl rfl trivial ?_
              refine hr_Gif h (fun _ h => ?_) (fun _ h => ?_)
              · refine hr_Grun mf_X10_hung lb_X10_hung_88 (P := hr_K 0 = 9 ∧ True) (pc' := 92) (ls' := [some (.ref 0), some (.int a1), some (.int a2), some (.int a3), some (.ref q2), some (.ref q24)]) (st' := [.ref 240]) (M' := M45) rfl rfl ⟨K_0, trivial⟩ ?_
                refine hr_Fb h (fun v51 M51 e51 h => ?_)
                refine hr_Gcv mf_X10_hung mf_X1_greatestQuarrel lb_X10_hung_92 (b := 240) (as := []) (rest := []) (st2 := [.int v51]) (v := some (.int v51)) (M1 := M51) rfl rfl rfl rfl rfl rfl K_240 (g_X1_greatestQuarrel  _ _ e51) rfl rfl ?_
                cases h
                exact hr_Gret mf_X10_hung lb_X10_hung_95 rfl rfl trivial
              · refine hr_Grun mf_X10_hung lb_X10_hung_96 (P := True) (pc' := if a3 = 2 then 101 else 111) (ls' := [some (.ref 0), some (.int a1), some (.int a2), some (.int a3), some (.ref q2), some (.ref q24)]) (st' := []) (M' := M45) rfl rfl trivial ?_
                refine hr_Gif h (fun _ h => ?_) (fun _ h => ?_)
                · refine hr_Grun mf_X10_hung lb_X10_hung_101 (P := hr_K 0 = 9 ∧ True) (pc' := 105) (ls' := [some (.ref 0), some (.int a1), some (.int a2), some (.int a3), some (.ref q2), some (.ref q24)]) (st' := [.ref 240]) (M' := M45) rfl rfl ⟨K_0, trivial⟩ ?_
                  refine hr_Fb h (fun v54 M54 e54 h => ?_)
                  refine hr_Gcv mf_X10_hung mf_X1_fewestHidden lb_X10_hung_105 (b := 240) (as := []) (rest := []) (st2 := [.int v54]) (v := some (.int v54)) (M1 := M54) rfl rfl rfl rfl rfl rfl K_240 (g_X1_fewestHidden  _ _ e54) rfl rfl ?_
                  refine hr_Grun mf_X10_hung lb_X10_hung_108 (P := True) (pc' := 113) (ls' := [some (.ref 0), some (.int a1), some (.int a2), some (.int a3), some (.ref q2), some (.ref q24)]) (st' := [.int v54]) (M' := M54) rfl rfl trivial ?_
                  cases h
                  exact hr_Gret mf_X10_hung lb_X10_hung_113 rfl rfl trivial
                · refine hr_Grun mf_X10_hung lb_X10_hung_111 (P := True) (pc' := 113) (ls' := [some (.ref 0), some (.int a1), some (.int a2), some (.int a3), some (.ref q2), some (.ref q24)]) (st' := [.int (-2)]) (M' := M45) rfl rfl trivial ?_
                  cases h
                  exact hr_Gret mf_X10_hung lb_X10_hung_113 rfl rfl trivial
theorem mf_X10_lineUpPictures : hr_mf 155 10 4 (some .boolean) 6 2 bk_X10_lineUpPictures := ⟨rfl, rfl, rfl, rfl, rfl, rfl⟩
theorem lb_X10_lineUpPictures_0 : bk_X10_lineUpPictures.lookup 0 = some [(.aload_n 0, 1), (.getfield 10, 3), (.iload_n 1, 1)] := rfl
theorem lb_X10_lineUpPictures_5 : bk_X10_lineUpPictures.lookup 5 = some [(.invokevirtual 109, 3)] := rfl
theorem lb_X10_lineUpPictures_8 : bk_X10_lineUpPictures.lookup 8 = some [(.astore_n 3, 1), (.aload_n 0, 1), (.getfield 10, 3), (.iconst 1, 1), (.iload_n 2, 1)] := rfl
theorem lb_X10_lineUpPictures_15 : bk_X10_lineUpPictures.lookup 15 = some [(.invokevirtual 140, 3)] := rfl
theorem lb_X10_lineUpPictures_18 : bk_X10_lineUpPictures.lookup 18 = some [(.astore 4, 2), (.aload_n 3, 1), (.aload 4, 2)] := rfl
theorem lb_X10_lineUpPictures_23 : bk_X10_lineUpPictures.lookup 23 = some [(.invokestatic 162, 3)] := rfl
theorem lb_X10_lineUpPictures_26 : bk_X10_lineUpPictures.lookup 26 = some [(.ifCond .ne 5, 3)] := rfl
theorem lb_X10_lineUpPictures_29 : bk_X10_lineUpPictures.lookup 29 = some [(.iconst 0, 1)] := rfl
theorem lb_X10_lineUpPictures_30 : bk_X10_lineUpPictures.lookup 30 = some [(.ireturn, 1)] := rfl
theorem lb_X10_lineUpPictures_31 : bk_X10_lineUpPictures.lookup 31 = some [(.sipush 2048, 3), (.iconst 2, 1), (.iload_n 1, 1), (.imul, 1), (.iadd, 1), (.iload_n 2, 1), (.iadd, 1), (.istore 5, 2), (.aload_n 0, 1), (.getfield 34, 3), (.getfield 312, 3), (.iload 5, 2), (.if_icmp .eq 29, 3)] := rfl
theorem lb_X10_lineUpPictures_54 : bk_X10_lineUpPictures.lookup 54 = some [(.aload_n 0, 1), (.getfield 34, 3), (.aload_n 3, 1), (.aload 4, 2)] := rfl
theorem lb_X10_lineUpPictures_61 : bk_X10_lineUpPictures.lookup 61 = some [(.invokevirtual 180, 3)] := rfl
theorem lb_X10_lineUpPictures_64 : bk_X10_lineUpPictures.lookup 64 = some [(.aload_n 0, 1), (.getfield 34, 3)] := rfl
theorem lb_X10_lineUpPictures_68 : bk_X10_lineUpPictures.lookup 68 = some [(.invokevirtual 315, 3)] := rfl
theorem lb_X10_lineUpPictures_71 : bk_X10_lineUpPictures.lookup 71 = some [(.aload_n 0, 1), (.getfield 34, 3), (.iload 5, 2), (.putfield 312, 3)] := rfl
theorem lb_X10_lineUpPictures_80 : bk_X10_lineUpPictures.lookup 80 = some [(.iconst 1, 1)] := rfl
theorem lb_X10_lineUpPictures_81 : bk_X10_lineUpPictures.lookup 81 = some [(.ireturn, 1)] := rfl
def f_X10_lineUpPictures (a1 : Int32) (a2 : Int32) (M : PM) : Option (Int32 × PM) :=
  hr_bd (f_X8_paletteAt a1 M) (fun v2 M2 => match v2 with
  | .null => hr_bd (f_X8_rollAt 1 a2 M2) (fun v4 M4 => match v4 with
    | .null => hr_bd (f_X10_goTogether .null .null M4) (fun v6 M6 =>
      if v6 = 0 then
        some (0, M6)
      else
        if (M6.1 240 8) = ((2048 + (2 * a1)) + a2) then
          some (1, M6)
        else
          none)
    | .ref q4 => if hr_K q4 = 5 then
      hr_bd (f_X10_goTogether .null (.ref q4) M4) (fun v13 M13 =>
      if v13 = 0 then
        some (0, M13)
      else
        if (M13.1 240 8) = ((2048 + (2 * a1)) + a2) then
          some (1, M13)
        else
          none)
      else none
    | _ => none)
  | .ref q2 => if hr_K q2 = 3 then
    hr_bd (f_X8_rollAt 1 a2 M2) (fun v20 M20 => match v20 with
    | .null => hr_bd (f_X10_goTogether (.ref q2) .null M20) (fun v22 M22 =>
      if v22 = 0 then
        some (0, M22)
      else
        if (M22.1 240 8) = ((2048 + (2 * a1)) + a2) then
          some (1, M22)
        else
          none)
    | .ref q20 => if hr_K q20 = 5 then
      hr_bd (f_X10_goTogether (.ref q2) (.ref q20) M20) (fun v29 M29 =>
      if v29 = 0 then
        some (0, M29)
      else
        if (M29.1 240 8) = ((2048 + (2 * a1)) + a2) then
          some (1, M29)
        else
          hr_bd (f_X1_gatherPictures q2 q20 M29) (fun v35 M35 =>
          hr_bd (f_X1_lineUp M35) (fun v37 M37 =>
          some (1, hr_si M37 240 8 ((2048 + (2 * a1)) + a2)))))
      else none
    | _ => none)
    else none
  | _ => none)
theorem g_X10_lineUpPictures (a1 : Int32) (a2 : Int32) : ∀ (M : PM) (r : Int32 × PM), f_X10_lineUpPictures a1 a2 M = some r → hr_G 155 0 [some (.ref 0), some (.int a1), some (.int a2), none, none, none] [] M (some (.int r.1), r.2) := by
  intro M r h
  unfold f_X10_lineUpPictures at h
  refine hr_Grun mf_X10_lineUpPictures lb_X10_lineUpPictures_0 (P := hr_K 0 = 9 ∧ True) (pc' := 5) (ls' := [some (.ref 0), some (.int a1), some (.int a2), none, none, none]) (st' := [.int a1, .ref 1]) (M' := M) rfl rfl ⟨K_0, trivial⟩ ?_
  refine hr_Fb h (fun v2 M2 e2 h => ?_)
  refine hr_Fv h (fun hv h => ?_) (fun q2 hv h => ?_)
  · subst hv
    refine hr_Gcv mf_X10_lineUpPictures mf_X8_paletteAt lb_X10_lineUpPictures_5 (b := 1) (as := [.int a1]) (rest := []) (st2 := [.null]) (v := some .null) (M1 := M2) rfl rfl rfl rfl rfl rfl K_1 (g_X8_paletteAt a1 _ _ e2) rfl rfl ?_
    refine hr_Grun mf_X10_lineUpPictures lb_X10_lineUpPictures_8 (P := hr_K 0 = 9 ∧ True) (pc' := 15) (ls' := [some (.ref 0), some (.int a1), some (.int a2), some .null, none, none]) (st' := [.int a2, .int 1, .ref 1]) (M' := M2) rfl rfl ⟨K_0, trivial⟩ ?_
    refine hr_Fb h (fun v4 M4 e4 h => ?_)
    refine hr_Fv h (fun hv h => ?_) (fun q4 hv h => ?_)
    · subst hv
      refine hr_Gcv mf_X10_lineUpPictures mf_X8_rollAt lb_X10_lineUpPictures_15 (b := 1) (as := [.int 1, .int a2]) (rest := []) (st2 := [.null]) (v := some .null) (M1 := M4) rfl rfl rfl rfl rfl rfl K_1 (g_X8_rollAt 1 a2 _ _ e4) rfl rfl ?_
      refine hr_Grun mf_X10_lineUpPictures lb_X10_lineUpPictures_18 (P := True) (pc' := 23) (ls' := [some (.ref 0), some (.int a1), some (.int a2), some .null, some .null, none]) (st' := [.null, .null]) (M' := M4) rfl rfl trivial ?_
      refine hr_Fb h (fun v6 M6 e6 h => ?_)
      refine hr_Gcs mf_X10_lineUpPictures mf_X10_goTogether lb_X10_lineUpPictures_23 (as := [.null, .null]) (rest := []) (st2 := [.int v6]) (v := some (.int v6)) (M1 := M6) rfl rfl rfl rfl rfl rfl (g_X10_goTogether .null .null _ _ e6) rfl rfl ?_
      refine hr_Grun mf_X10_lineUpPictures lb_X10_lineUpPictures_26 (P := True) (pc' := if v6 = 0 then 29 else 31) (ls' := [some (.ref 0), some (.int a1), some (.int a2), some .null, some .null, none]) (st' := []) (M' := M6) rfl rfl trivial ?_
      refine hr_Gif h (fun _ h => ?_) (fun _ h => ?_)
      · refine hr_Grun mf_X10_lineUpPictures lb_X10_lineUpPictures_29 (P := True) (pc' := 30) (ls' := [some (.ref 0), some (.int a1), some (.int a2), some .null, some .null, none]) (st' := [.int 0]) (M' := M6) rfl rfl trivial ?_
        cases h
        exact hr_Gret mf_X10_lineUpPictures lb_X10_lineUpPictures_30 rfl rfl (Or.inl rfl)
      · refine hr_Grun mf_X10_lineUpPictures lb_X10_lineUpPictures_31 (P := hr_K 0 = 9 ∧ hr_K 240 = 1 ∧ True) (pc' := if (M6.1 240 8) = ((2048 + (2 * a1)) + a2) then 80 else 54) (ls' := [some (.ref 0), some (.int a1), some (.int a2), some .null, some .null, some (.int ((2048 + (2 * a1)) + a2))]) (st' := []) (M' := M6) rfl rfl ⟨K_0, K_240, trivial⟩ ?_
        refine hr_Gif h (fun _ h => ?_) (fun _ h => ?_)
        · refine hr_Grun mf_X10_lineUpPictures lb_X10_lineUpPictures_80 (P := True) (pc' := 81) (ls' := [some (.ref 0), some (.int a1), some (.int a2), some .null, some .null, some (.int ((2048 + (2 * a1)) + a2))]) (st' := [.int 1]) (M' := M6) rfl rfl trivial ?_
          cases h
          exact hr_Gret mf_X10_lineUpPictures lb_X10_lineUpPictures_81 rfl rfl (Or.inr rfl)
        · refine hr_Grun mf_X10_lineUpPictures lb_X10_lineUpPictures_54 (P := hr_K 0 = 9 ∧ True) (pc' := 61) (ls' := [some (.ref 0), some (.int a1), some (.int a2), some .null, some .null, some (.int ((2048 + (2 * a1)) + a2))]) (st' := [.null, .null, .ref 240]) (M' := M6) rfl rfl ⟨K_0, trivial⟩ ?_
          cases h
    · subst hv
      refine hr_Fg h (fun kq4 h => ?_)
      refine hr_Gcv mf_X10_lineUpPictures mf_X8_rollAt lb_X10_lineUpPictures_15 (b := 1) (as := [.int 1, .int a2]) (rest := []) (st2 := [.ref q4]) (v := some (.ref q4)) (M1 := M4) rfl rfl rfl rfl rfl rfl K_1 (g_X8_rollAt 1 a2 _ _ e4) rfl rfl ?_
      refine hr_Grun mf_X10_lineUpPictures lb_X10_lineUpPictures_18 (P := True) (pc' := 23) (ls' := [some (.ref 0), some (.int a1), some (.int a2), some .null, some (.ref q4), none]) (st' := [.ref q4, .null]) (M' := M4) rfl rfl trivial ?_
      refine hr_Fb h (fun v13 M13 e13 h => ?_)
      refine hr_Gcs mf_X10_lineUpPictures mf_X10_goTogether lb_X10_lineUpPictures_23 (as := [.null, .ref q4]) (rest := []) (st2 := [.int v13]) (v := some (.int v13)) (M1 := M13) rfl rfl rfl rfl rfl rfl (g_X10_goTogether .null (.ref q4) _ _ e13) rfl rfl ?_
      refine hr_Grun mf_X10_lineUpPictures lb_X10_lineUpPictures_26 (P := True) (pc' := if v13 = 0 then 29 else 31) (ls' := [some (.ref 0), some (.int a1), some (.int a2), some .null, some (.ref q4), none]) (st' := []) (M' := M13) rfl rfl trivial ?_
      refine hr_Gif h (fun _ h => ?_) (fun _ h => ?_)
      · refine hr_Grun mf_X10_lineUpPictures lb_X10_lineUpPictures_29 (P := True) (pc' := 30) (ls' := [some (.ref 0), some (.int a1), some (.int a2), some .null, some (.ref q4), none]) (st' := [.int 0]) (M' := M13) rfl rfl trivial ?_
        cases h
        exact hr_Gret mf_X10_lineUpPictures lb_X10_lineUpPictures_30 rfl rfl (Or.inl rfl)
      · refine hr_Grun mf_X10_lineUpPictures lb_X10_lineUpPictures_31 (P := hr_K 0 = 9 ∧ hr_K 240 = 1 ∧ True) (pc' := if (M13.1 240 8) = ((2048 + (2 * a1)) + a2) then 80 else 54) (ls' := [some (.ref 0), some (.int a1), some (.int a2), some .null, some (.ref q4), some (.int ((2048 + (2 * a1)) + a2))]) (st' := []) (M' := M13) rfl rfl ⟨K_0, K_240, trivial⟩ ?_
        refine hr_Gif h (fun _ h => ?_) (fun _ h => ?_)
        · refine hr_Grun mf_X10_lineUpPictures lb_X10_lineUpPictures_80 (P := True) (pc' := 81) (ls' := [some (.ref 0), some (.int a1), some (.int a2), some .null, some (.ref q4), some (.int ((2048 + (2 * a1)) + a2))]) (st' := [.int 1]) (M' := M13) rfl rfl trivial ?_
          cases h
          exact hr_Gret mf_X10_lineUpPictures lb_X10_lineUpPictures_81 rfl rfl (Or.inr rfl)
        · refine hr_Grun mf_X10_lineUpPictures lb_X10_lineUpPictures_54 (P := hr_K 0 = 9 ∧ True) (pc' := 61) (ls' := [some (.ref 0), some (.int a1), some (.int a2), some .null, some (.ref q4), some (.int ((2048 + (2 * a1)) + a2))]) (st' := [.ref q4, .null, .ref 240]) (M' := M13) rfl rfl ⟨K_0, trivial⟩ ?_
          cases h
  · subst hv
    refine hr_Fg h (fun kq2 h => ?_)
    refine hr_Gcv mf_X10_lineUpPictures mf_X8_paletteAt lb_X10_lineUpPictures_5 (b := 1) (as := [.int a1]) (rest := []) (st2 := [.ref q2]) (v := some (.ref q2)) (M1 := M2) rfl rfl rfl rfl rfl rfl K_1 (g_X8_paletteAt a1 _ _ e2) rfl rfl ?_
    refine hr_Grun mf_X10_lineUpPictures lb_X10_lineUpPictures_8 (P := hr_K 0 = 9 ∧ True) (pc' := 15) (ls' := [some (.ref 0), some (.int a1), some (.int a2), some (.ref q2), none, none]) (st' := [.int a2, .int 1, .ref 1]) (M' := M2) rfl rfl ⟨K_0, trivial⟩ ?_
    refine hr_Fb h (fun v20 M20 e20 h => ?_)
    refine hr_Fv h (fun hv h => ?_) (fun q20 hv h => ?_)
    · subst hv
      refine hr_Gcv mf_X10_lineUpPictures mf_X8_rollAt lb_X10_lineUpPictures_15 (b := 1) (as := [.int 1, .int a2]) (rest := []) (st2 := [.null]) (v := some .null) (M1 := M20) rfl rfl rfl rfl rfl rfl K_1 (g_X8_rollAt 1 a2 _ _ e20) rfl rfl ?_
      refine hr_Grun mf_X10_lineUpPictures lb_X10_lineUpPictures_18 (P := True) (pc' := 23) (ls' := [some (.ref 0), some (.int a1), some (.int a2), some (.ref q2), some .null, none]) (st' := [.null, .ref q2]) (M' := M20) rfl rfl trivial ?_
      refine hr_Fb h (fun v22 M22 e22 h => ?_)
      refine hr_Gcs mf_X10_lineUpPictures mf_X10_goTogether lb_X10_lineUpPictures_23 (as := [.ref q2, .null]) (rest := []) (st2 := [.int v22]) (v := some (.int v22)) (M1 := M22) rfl rfl rfl rfl rfl rfl (g_X10_goTogether (.ref q2) .null _ _ e22) rfl rfl ?_
      refine hr_Grun mf_X10_lineUpPictures lb_X10_lineUpPictures_26 (P := True) (pc' := if v22 = 0 then 29 else 31) (ls' := [some (.ref 0), some (.int a1), some (.int a2), some (.ref q2), some .null, none]) (st' := []) (M' := M22) rfl rfl trivial ?_
      refine hr_Gif h (fun _ h => ?_) (fun _ h => ?_)
      · refine hr_Grun mf_X10_lineUpPictures lb_X10_lineUpPictures_29 (P := True) (pc' := 30) (ls' := [some (.ref 0), some (.int a1), some (.int a2), some (.ref q2), some .null, none]) (st' := [.int 0]) (M' := M22) rfl rfl trivial ?_
        cases h
        exact hr_Gret mf_X10_lineUpPictures lb_X10_lineUpPictures_30 rfl rfl (Or.inl rfl)
      · refine hr_Grun mf_X10_lineUpPictures lb_X10_lineUpPictures_31 (P := hr_K 0 = 9 ∧ hr_K 240 = 1 ∧ True) (pc' := if (M22.1 240 8) = ((2048 + (2 * a1)) + a2) then 80 else 54) (ls' := [some (.ref 0), some (.int a1), some (.int a2), some (.ref q2), some .null, some (.int ((2048 + (2 * a1)) + a2))]) (st' := []) (M' := M22) rfl rfl ⟨K_0, K_240, trivial⟩ ?_
        refine hr_Gif h (fun _ h => ?_) (fun _ h => ?_)
        · refine hr_Grun mf_X10_lineUpPictures lb_X10_lineUpPictures_80 (P := True) (pc' := 81) (ls' := [some (.ref 0), some (.int a1), some (.int a2), some (.ref q2), some .null, some (.int ((2048 + (2 * a1)) + a2))]) (st' := [.int 1]) (M' := M22) rfl rfl trivial ?_
          cases h
          exact hr_Gret mf_X10_lineUpPictures lb_X10_lineUpPictures_81 rfl rfl (Or.inr rfl)
        · refine hr_Grun mf_X10_lineUpPictures lb_X10_lineUpPictures_54 (P := hr_K 0 = 9 ∧ True) (pc' := 61) (ls' := [some (.ref 0), some (.int a1), some (.int a2), some (.ref q2), some .null, some (.int ((2048 + (2 * a1)) + a2))]) (st' := [.null, .ref q2, .ref 240]) (M' := M22) rfl rfl ⟨K_0, trivial⟩ ?_
          cases h
    · subst hv
      refine hr_Fg h (fun kq20 h => ?_)
      refine hr_Gcv mf_X10_lineUpPictures mf_X8_rollAt lb_X10_lineUpPictures_15 (b := 1) (as := [.int 1, .int a2]) (rest := []) (st2 := [.ref q20]) (v := some (.ref q20)) (M1 := M20) rfl rfl rfl rfl rfl rfl K_1 (g_X8_rollAt 1 a2 _ _ e20) rfl rfl ?_
      refine hr_Grun mf_X10_lineUpPictures lb_X10_lineUpPictures_18 (P := True) (pc' := 23) (ls' := [some (.ref 0), some (.int a1), some (.int a2), some (.ref q2), some (.ref q20), none]) (st' := [.ref q20, .ref q2]) (M' := M20) rfl rfl trivial ?_
      refine hr_Fb h (fun v29 M29 e29 h => ?_)
      refine hr_Gcs mf_X10_lineUpPictures mf_X10_goTogether lb_X10_lineUpPictures_23 (as := [.ref q2, .ref q20]) (rest := []) (st2 := [.int v29]) (v := some (.int v29)) (M1 := M29) rfl rfl rfl rfl rfl rfl (g_X10_goTogether (.ref q2) (.ref q20) _ _ e29) rfl rfl ?_
      refine hr_Grun mf_X10_lineUpPictures lb_X10_lineUpPictures_26 (P := True) (pc' := if v29 = 0 then 29 else 31) (ls' := [some (.ref 0), some (.int a1), some (.int a2), some (.ref q2), some (.ref q20), none]) (st' := []) (M' := M29) rfl rfl trivial ?_
      refine hr_Gif h (fun _ h => ?_) (fun _ h => ?_)
      · refine hr_Grun mf_X10_lineUpPictures lb_X10_lineUpPictures_29 (P := True) (pc' := 30) (ls' := [some (.ref 0), some (.int a1), some (.int a2), some (.ref q2), some (.ref q20), none]) (st' := [.int 0]) (M' := M29) rfl rfl trivial ?_
        cases h
        exact hr_Gret mf_X10_lineUpPictures lb_X10_lineUpPictures_30 rfl rfl (Or.inl rfl)
      · refine hr_Grun mf_X10_lineUpPictures lb_X10_lineUpPictures_31 (P := hr_K 0 = 9 ∧ hr_K 240 = 1 ∧ True) (pc' := if (M29.1 240 8) = ((2048 + (2 * a1)) + a2) then 80 else 54) (ls' := [some (.ref 0), some (.int a1), some (.int a2), some (.ref q2), some (.ref q20), some (.int ((2048 + (2 * a1)) + a2))]) (st' := []) (M' := M29) rfl rfl ⟨K_0, K_240, trivial⟩ ?_
        refine hr_Gif h (fun _ h => ?_) (fun _ h => ?_)
        · refine hr_Grun mf_X10_lineUpPictures lb_X10_lineUpPictures_80 (P := True) (pc' := 81) (ls' := [some (.ref 0), some (.int a1), some (.int a2), some (.ref q2), some (.ref q20), some (.int ((2048 + (2 * a1)) + a2))]) (st' := [.int 1]) (M' := M29) rfl rfl trivial ?_
          cases h
          exact hr_Gret mf_X10_lineUpPictures lb_X10_lineUpPictures_81 rfl rfl (Or.inr rfl)
        · refine hr_Grun mf_X10_lineUpPictures lb_X10_lineUpPictures_54 (P := hr_K 0 = 9 ∧ True) (pc' := 61) (ls' := [some (.ref 0), some (.int a1), some (.int a2), some (.ref q2), some (.ref q20), some (.int ((2048 + (2 * a1)) + a2))]) (st' := [.ref q20, .ref q2, .ref 240]) (M' := M29) rfl rfl ⟨K_0, trivial⟩ ?_
          refine hr_Fb h (fun v35 M35 e35 h => ?_)
          refine hr_Gcv mf_X10_lineUpPictures mf_X1_gatherPictures lb_X10_lineUpPictures_61 (b := 240) (as := [.ref q2, .ref q20]) (rest := []) (st2 := []) (v := none) (M1 := M35) rfl rfl rfl rfl rfl rfl K_240 (g_X1_gatherPictures q2 q20 _ _ e35) rfl rfl ?_
          refine hr_Grun mf_X10_lineUpPictures lb_X10_lineUpPictures_64 (P := hr_K 0 = 9 ∧ True) (pc' := 68) (ls' := [some (.ref 0), some (.int a1), some (.int a2), some (.ref q2), some (.ref q20), some (.int ((2048 + (2 * a1)) + a2))]) (st' := [.ref 240]) (M' := M35) rfl rfl ⟨K_0, trivial⟩ ?_
          refine hr_Fb h (fun v37 M37 e37 h => ?_)
          refine hr_Gcv mf_X10_lineUpPictures mf_X1_lineUp lb_X10_lineUpPictures_68 (b := 240) (as := []) (rest := []) (st2 := []) (v := none) (M1 := M37) rfl rfl rfl rfl rfl rfl K_240 (g_X1_lineUp  _ _ e37) rfl rfl ?_
          refine hr_Grun mf_X10_lineUpPictures lb_X10_lineUpPictures_71 (P := hr_K 0 = 9 ∧ (hr_K 240 = 1 ∧ 240 < hr_n) ∧ True) (pc' := 80) (ls' := [some (.ref 0), some (.int a1), some (.int a2), some (.ref q2), some (.ref q20), some (.int ((2048 + (2 * a1)) + a2))]) (st' := []) (M' := hr_si M37 240 8 ((2048 + (2 * a1)) + a2)) rfl rfl ⟨K_0, ⟨K_240, L_240⟩, trivial⟩ ?_
          refine hr_Grun mf_X10_lineUpPictures lb_X10_lineUpPictures_80 (P := True) (pc' := 81) (ls' := [some (.ref 0), some (.int a1), some (.int a2), some (.ref q2), some (.ref q20), some (.int ((2048 + (2 * a1)) + a2))]) (st' := [.int 1]) (M' := hr_si M37 240 8 ((2048 + (2 * a1)) + a2)) rfl rfl trivial ?_
          cases h
          exact hr_Gret mf_X10_lineUpPictures lb_X10_lineUpPictures_81 rfl rfl (Or.inr rfl)
theorem mf_X10_rows : hr_mf 135 10 5 (some .long) 3 2 bk_X10_rows := ⟨rfl, rfl, rfl, rfl, rfl, rfl⟩
theorem lb_X10_rows_0 : bk_X10_rows.lookup 0 = some [(.aload_n 0, 1), (.iload_n 1, 1), (.iload_n 2, 1)] := rfl
theorem lb_X10_rows_3 : bk_X10_rows.lookup 3 = some [(.invokevirtual 194, 3)] := rfl
theorem lb_X10_rows_6 : bk_X10_rows.lookup 6 = some [(.ifCond .eq 14, 3)] := rfl
theorem lb_X10_rows_9 : bk_X10_rows.lookup 9 = some [(.aload_n 0, 1), (.getfield 34, 3), (.getfield 198, 3), (.i2l, 1), (.goto 6, 3)] := rfl
theorem lb_X10_rows_20 : bk_X10_rows.lookup 20 = some [(.ldc2_w 201, 3)] := rfl
theorem lb_X10_rows_23 : bk_X10_rows.lookup 23 = some [(.lreturn, 1)] := rfl
def f_X10_rows (a1 : Int32) (a2 : Int32) (M : PM) : Option (Int64 × PM) :=
  hr_bd (f_X10_lineUpPictures a1 a2 M) (fun v2 M2 =>
  if v2 = 0 then
    some ((-1), M2)
  else
    some (((M2.1 240 7).toInt64), M2))
theorem g_X10_rows (a1 : Int32) (a2 : Int32) : ∀ (M : PM) (r : Int64 × PM), f_X10_rows a1 a2 M = some r → hr_G 135 0 [some (.ref 0), some (.int a1), some (.int a2)] [] M (some (.long r.1), r.2) := by
  intro M r h
  unfold f_X10_rows at h
  refine hr_Grun mf_X10_rows lb_X10_rows_0 (P := True) (pc' := 3) (ls' := [some (.ref 0), some (.int a1), some (.int a2)]) (st' := [.int a2, .int a1, .ref 0]) (M' := M) rfl rfl trivial ?_
  refine hr_Fb h (fun v2 M2 e2 h => ?_)
  refine hr_Gcv mf_X10_rows mf_X10_lineUpPictures lb_X10_rows_3 (b := 0) (as := [.int a1, .int a2]) (rest := []) (st2 := [.int v2]) (v := some (.int v2)) (M1 := M2) rfl rfl rfl rfl rfl rfl K_0 (g_X10_lineUpPictures a1 a2 _ _ e2) rfl rfl ?_
  refine hr_Grun mf_X10_rows lb_X10_rows_6 (P := True) (pc' := if v2 = 0 then 20 else 9) (ls' := [some (.ref 0), some (.int a1), some (.int a2)]) (st' := []) (M' := M2) rfl rfl trivial ?_
  refine hr_Gif h (fun _ h => ?_) (fun _ h => ?_)
  · refine hr_Grun mf_X10_rows lb_X10_rows_20 (P := True) (pc' := 23) (ls' := [some (.ref 0), some (.int a1), some (.int a2)]) (st' := [.long (-1)]) (M' := M2) rfl rfl trivial ?_
    cases h
    exact hr_Gret mf_X10_rows lb_X10_rows_23 rfl rfl trivial
  · refine hr_Grun mf_X10_rows lb_X10_rows_9 (P := hr_K 0 = 9 ∧ hr_K 240 = 1 ∧ True) (pc' := 23) (ls' := [some (.ref 0), some (.int a1), some (.int a2)]) (st' := [.long ((M2.1 240 7).toInt64)]) (M' := M2) rfl rfl ⟨K_0, K_240, trivial⟩ ?_
    cases h
    exact hr_Gret mf_X10_rows lb_X10_rows_23 rfl rfl trivial
theorem mf_X10_row : hr_mf 136 10 5 (some .int) 4 3 bk_X10_row := ⟨rfl, rfl, rfl, rfl, rfl, rfl⟩
theorem lb_X10_row_0 : bk_X10_row.lookup 0 = some [(.aload_n 0, 1), (.iload_n 1, 1), (.iload_n 2, 1)] := rfl
theorem lb_X10_row_3 : bk_X10_row.lookup 3 = some [(.invokevirtual 194, 3)] := rfl
theorem lb_X10_row_6 : bk_X10_row.lookup 6 = some [(.ifCond .eq 14, 3)] := rfl
theorem lb_X10_row_9 : bk_X10_row.lookup 9 = some [(.aload_n 0, 1), (.getfield 34, 3), (.iload_n 3, 1)] := rfl
theorem lb_X10_row_14 : bk_X10_row.lookup 14 = some [(.invokevirtual 203, 3)] := rfl
theorem lb_X10_row_17 : bk_X10_row.lookup 17 = some [(.goto 4, 3)] := rfl
theorem lb_X10_row_20 : bk_X10_row.lookup 20 = some [(.iconst (-1), 1)] := rfl
theorem lb_X10_row_21 : bk_X10_row.lookup 21 = some [(.ireturn, 1)] := rfl
def f_X10_row (a1 : Int32) (a2 : Int32) (a3 : Int32) (M : PM) : Option (Int32 × PM) :=
  hr_bd (f_X10_lineUpPictures a1 a2 M) (fun v2 M2 =>
  if v2 = 0 then
    some ((-1), M2)
  else
    hr_bd (f_X1_placed a3 M2) (fun v6 M6 =>
    some (v6, M6)))
theorem g_X10_row (a1 : Int32) (a2 : Int32) (a3 : Int32) : ∀ (M : PM) (r : Int32 × PM), f_X10_row a1 a2 a3 M = some r → hr_G 136 0 [some (.ref 0), some (.int a1), some (.int a2), some (.int a3)] [] M (some (.int r.1), r.2) := by
  intro M r h
  unfold f_X10_row at h
  refine hr_Grun mf_X10_row lb_X10_row_0 (P := True) (pc' := 3) (ls' := [some (.ref 0), some (.int a1), some (.int a2), some (.int a3)]) (st' := [.int a2, .int a1, .ref 0]) (M' := M) rfl rfl trivial ?_
  refine hr_Fb h (fun v2 M2 e2 h => ?_)
  refine hr_Gcv mf_X10_row mf_X10_lineUpPictures lb_X10_row_3 (b := 0) (as := [.int a1, .int a2]) (rest := []) (st2 := [.int v2]) (v := some (.int v2)) (M1 := M2) rfl rfl rfl rfl rfl rfl K_0 (g_X10_lineUpPictures a1 a2 _ _ e2) rfl rfl ?_
  refine hr_Grun mf_X10_row lb_X10_row_6 (P := True) (pc' := if v2 = 0 then 20 else 9) (ls' := [some (.ref 0), some (.int a1), some (.int a2), some (.int a3)]) (st' := []) (M' := M2) rfl rfl trivial ?_
  refine hr_Gif h (fun _ h => ?_) (fun _ h => ?_)
  · refine hr_Grun mf_X10_row lb_X10_row_20 (P := True) (pc' := 21) (ls' := [some (.ref 0), some (.int a1), some (.int a2), some (.int a3)]) (st' := [.int (-1)]) (M' := M2) rfl rfl trivial ?_
    cases h
    exact hr_Gret mf_X10_row lb_X10_row_21 rfl rfl trivial
  · refine hr_Grun mf_X10_row lb_X10_row_9 (P := hr_K 0 = 9 ∧ True) (pc' := 14) (ls' := [some (.ref 0), some (.int a1), some (.int a2), some (.int a3)]) (st' := [.int a3, .ref 240]) (M' := M2) rfl rfl ⟨K_0, trivial⟩ ?_
    refine hr_Fb h (fun v6 M6 e6 h => ?_)
    refine hr_Gcv mf_X10_row mf_X1_placed lb_X10_row_14 (b := 240) (as := [.int a3]) (rest := []) (st2 := [.int v6]) (v := some (.int v6)) (M1 := M6) rfl rfl rfl rfl rfl rfl K_240 (g_X1_placed a3 _ _ e6) rfl rfl ?_
    refine hr_Grun mf_X10_row lb_X10_row_17 (P := True) (pc' := 21) (ls' := [some (.ref 0), some (.int a1), some (.int a2), some (.int a3)]) (st' := [.int v6]) (M' := M6) rfl rfl trivial ?_
    cases h
    exact hr_Gret mf_X10_row lb_X10_row_21 rfl rfl trivial
theorem mf_X10_repainted : hr_mf 137 10 3 (some .int) 7 3 bk_X10_repainted := ⟨rfl, rfl, rfl, rfl, rfl, rfl⟩
theorem lb_X10_repainted_0 : bk_X10_repainted.lookup 0 = some [(.aload_n 0, 1), (.getfield 10, 3), (.iload_n 1, 1)] := rfl
theorem lb_X10_repainted_5 : bk_X10_repainted.lookup 5 = some [(.invokevirtual 109, 3)] := rfl
theorem lb_X10_repainted_8 : bk_X10_repainted.lookup 8 = some [(.astore 4, 2), (.aload_n 0, 1), (.getfield 10, 3), (.iconst 1, 1), (.iload_n 2, 1)] := rfl
theorem lb_X10_repainted_16 : bk_X10_repainted.lookup 16 = some [(.invokevirtual 140, 3)] := rfl
theorem lb_X10_repainted_19 : bk_X10_repainted.lookup 19 = some [(.astore 5, 2), (.aload 4, 2), (.aload 5, 2)] := rfl
theorem lb_X10_repainted_25 : bk_X10_repainted.lookup 25 = some [(.invokestatic 162, 3)] := rfl
theorem lb_X10_repainted_28 : bk_X10_repainted.lookup 28 = some [(.ifCond .ne 5, 3)] := rfl
theorem lb_X10_repainted_31 : bk_X10_repainted.lookup 31 = some [(.iconst (-1), 1)] := rfl
theorem lb_X10_repainted_32 : bk_X10_repainted.lookup 32 = some [(.ireturn, 1)] := rfl
theorem lb_X10_repainted_33 : bk_X10_repainted.lookup 33 = some [(.aload_n 0, 1), (.getfield 48, 3), (.aload 4, 2), (.aload 5, 2)] := rfl
theorem lb_X10_repainted_41 : bk_X10_repainted.lookup 41 = some [(.invokevirtual 206, 3)] := rfl
theorem lb_X10_repainted_44 : bk_X10_repainted.lookup 44 = some [(.istore 6, 2), (.iload 6, 2), (.ifCond .lt 7, 3)] := rfl
theorem lb_X10_repainted_51 : bk_X10_repainted.lookup 51 = some [(.iload_n 3, 1), (.ifCond .ne 6, 3)] := rfl
theorem lb_X10_repainted_55 : bk_X10_repainted.lookup 55 = some [(.iload 6, 2)] := rfl
theorem lb_X10_repainted_57 : bk_X10_repainted.lookup 57 = some [(.ireturn, 1)] := rfl
theorem lb_X10_repainted_58 : bk_X10_repainted.lookup 58 = some [(.iload_n 3, 1), (.bipush 10, 2), (.if_icmp .lt 30, 3)] := rfl
theorem lb_X10_repainted_64 : bk_X10_repainted.lookup 64 = some [(.iload_n 3, 1), (.bipush 10, 2), (.aload 5, 2), (.getfield 144, 3), (.iadd, 1), (.if_icmp .ge 18, 3)] := rfl
theorem lb_X10_repainted_76 : bk_X10_repainted.lookup 76 = some [(.aload_n 0, 1), (.getfield 48, 3), (.getfield 210, 3), (.iload_n 3, 1), (.bipush 10, 2), (.isub, 1), (.iaload, 1), (.goto 4, 3)] := rfl
theorem lb_X10_repainted_91 : bk_X10_repainted.lookup 91 = some [(.iconst (-1), 1)] := rfl
theorem lb_X10_repainted_92 : bk_X10_repainted.lookup 92 = some [(.ireturn, 1)] := rfl
def f_X10_repainted (a1 : Int32) (a2 : Int32) (a3 : Int32) (M : PM) : Option (Int32 × PM) :=
  hr_bd (f_X8_paletteAt a1 M) (fun v2 M2 => match v2 with
  | .null => hr_bd (f_X8_rollAt 1 a2 M2) (fun v4 M4 => match v4 with
    | .null => hr_bd (f_X10_goTogether .null .null M4) (fun v6 M6 =>
      if v6 = 0 then
        some ((-1), M6)
      else
        none)
    | .ref q4 => if hr_K q4 = 5 then
      hr_bd (f_X10_goTogether .null (.ref q4) M4) (fun v11 M11 =>
      if v11 = 0 then
        some ((-1), M11)
      else
        none)
      else none
    | _ => none)
  | .ref q2 => if hr_K q2 = 3 then
    hr_bd (f_X8_rollAt 1 a2 M2) (fun v16 M16 => match v16 with
    | .null => hr_bd (f_X10_goTogether (.ref q2) .null M16) (fun v18 M18 =>
      if v18 = 0 then
        some ((-1), M18)
      else
        none)
    | .ref q16 => if hr_K q16 = 5 then
      hr_bd (f_X10_goTogether (.ref q2) (.ref q16) M16) (fun v23 M23 =>
      if v23 = 0 then
        some ((-1), M23)
      else
        hr_bd (f_X0_repaint q2 q16 M23) (fun v27 M27 =>
        if v27 < 0 then
          some (v27, M27)
        else
          if a3 = 0 then
            some (v27, M27)
          else
            if a3 < 10 then
              some ((-1), M27)
            else
              if (10 + (M27.1 q16 0)) ≤ a3 then
                some ((-1), M27)
              else
                if inB (a3 - 10) 9 = true then 
                some ((M27.1 259 (a3 - 10).toNatClampNeg), M27) else none))
      else none
    | _ => none)
    else none
  | _ => none)
theorem g_X10_repainted (a1 : Int32) (a2 : Int32) (a3 : Int32) : ∀ (M : PM) (r : Int32 × PM), f_X10_repainted a1 a2 a3 M = some r → hr_G 137 0 [some (.ref 0), some (.int a1), some (.int a2), some (.int a3), none, none, none] [] M (some (.int r.1), r.2) := by
  intro M r h
  unfold f_X10_repainted at h
  refine hr_Grun mf_X10_repainted lb_X10_repainted_0 (P := hr_K 0 = 9 ∧ True) (pc' := 5) (ls' := [some (.ref 0), some (.int a1), some (.int a2), some (.int a3), none, none, none]) (st' := [.int a1, .ref 1]) (M' := M) rfl rfl ⟨K_0, trivial⟩ ?_
  refine hr_Fb h (fun v2 M2 e2 h => ?_)
  refine hr_Fv h (fun hv h => ?_) (fun q2 hv h => ?_)
  · subst hv
    refine hr_Gcv mf_X10_repainted mf_X8_paletteAt lb_X10_repainted_5 (b := 1) (as := [.int a1]) (rest := []) (st2 := [.null]) (v := some .null) (M1 := M2) rfl rfl rfl rfl rfl rfl K_1 (g_X8_paletteAt a1 _ _ e2) rfl rfl ?_
    refine hr_Grun mf_X10_repainted lb_X10_repainted_8 (P := hr_K 0 = 9 ∧ True) (pc' := 16) (ls' := [some (.ref 0), some (.int a1), some (.int a2), some (.int a3), some .null, none, none]) (st' := [.int a2, .int 1, .ref 1]) (M' := M2) rfl rfl ⟨K_0, trivial⟩ ?_
    refine hr_Fb h (fun v4 M4 e4 h => ?_)
    refine hr_Fv h (fun hv h => ?_) (fun q4 hv h => ?_)
    · subst hv
      refine hr_Gcv mf_X10_repainted mf_X8_rollAt lb_X10_repainted_16 (b := 1) (as := [.int 1, .int a2]) (rest := []) (st2 := [.null]) (v := some .null) (M1 := M4) rfl rfl rfl rfl rfl rfl K_1 (g_X8_rollAt 1 a2 _ _ e4) rfl rfl ?_
      refine hr_Grun mf_X10_repainted lb_X10_repainted_19 (P := True) (pc' := 25) (ls' := [some (.ref 0), some (.int a1), some (.int a2), some (.int a3), some .null, some .null, none]) (st' := [.null, .null]) (M' := M4) rfl rfl trivial ?_
      refine hr_Fb h (fun v6 M6 e6 h => ?_)
      refine hr_Gcs mf_X10_repainted mf_X10_goTogether lb_X10_repainted_25 (as := [.null, .null]) (rest := []) (st2 := [.int v6]) (v := some (.int v6)) (M1 := M6) rfl rfl rfl rfl rfl rfl (g_X10_goTogether .null .null _ _ e6) rfl rfl ?_
      refine hr_Grun mf_X10_repainted lb_X10_repainted_28 (P := True) (pc' := if v6 = 0 then 31 else 33) (ls' := [some (.ref 0), some (.int a1), some (.int a2), some (.int a3), some .null, some .null, none]) (st' := []) (M' := M6) rfl rfl trivial ?_
      refine hr_Gif h (fun _ h => ?_) (fun _ h => ?_)
      · refine hr_Grun mf_X10_repainted lb_X10_repainted_31 (P := True) (pc' := 32) (ls' := [some (.ref 0), some (.int a1), some (.int a2), some (.int a3), some .null, some .null, none]) (st' := [.int (-1)]) (M' := M6) rfl rfl trivial ?_
        cases h
        exact hr_Gret mf_X10_repainted lb_X10_repainted_32 rfl rfl trivial
      · refine hr_Grun mf_X10_repainted lb_X10_repainted_33 (P := hr_K 0 = 9 ∧ True) (pc' := 41) (ls' := [some (.ref 0), some (.int a1), some (.int a2), some (.int a3), some .null, some .null, none]) (st' := [.null, .null, .ref 257]) (M' := M6) rfl rfl ⟨K_0, trivial⟩ ?_
        cases h
    · subst hv
      refine hr_Fg h (fun kq4 h => ?_)
      refine hr_Gcv mf_X10_repainted mf_X8_rollAt lb_X10_repainted_16 (b := 1) (as := [.int 1, .int a2]) (rest := []) (st2 := [.ref q4]) (v := some (.ref q4)) (M1 := M4) rfl rfl rfl rfl rfl rfl K_1 (g_X8_rollAt 1 a2 _ _ e4) rfl rfl ?_
      refine hr_Grun mf_X10_repainted lb_X10_repainted_19 (P := True) (pc' := 25) (ls' := [some (.ref 0), some (.int a1), some (.int a2), some (.int a3), some .null, some (.ref q4), none]) (st' := [.ref q4, .null]) (M' := M4) rfl rfl trivial ?_
      refine hr_Fb h (fun v11 M11 e11 h => ?_)
      refine hr_Gcs mf_X10_repainted mf_X10_goTogether lb_X10_repainted_25 (as := [.null, .ref q4]) (rest := []) (st2 := [.int v11]) (v := some (.int v11)) (M1 := M11) rfl rfl rfl rfl rfl rfl (g_X10_goTogether .null (.ref q4) _ _ e11) rfl rfl ?_
      refine hr_Grun mf_X10_repainted lb_X10_repainted_28 (P := True) (pc' := if v11 = 0 then 31 else 33) (ls' := [some (.ref 0), some (.int a1), some (.int a2), some (.int a3), some .null, some (.ref q4), none]) (st' := []) (M' := M11) rfl rfl trivial ?_
      refine hr_Gif h (fun _ h => ?_) (fun _ h => ?_)
      · refine hr_Grun mf_X10_repainted lb_X10_repainted_31 (P := True) (pc' := 32) (ls' := [some (.ref 0), some (.int a1), some (.int a2), some (.int a3), some .null, some (.ref q4), none]) (st' := [.int (-1)]) (M' := M11) rfl rfl trivial ?_
        cases h
        exact hr_Gret mf_X10_repainted lb_X10_repainted_32 rfl rfl trivial
      · refine hr_Grun mf_X10_repainted lb_X10_repainted_33 (P := hr_K 0 = 9 ∧ True) (pc' := 41) (ls' := [some (.ref 0), some (.int a1), some (.int a2), some (.int a3), some .null, some (.ref q4), none]) (st' := [.ref q4, .null, .ref 257]) (M' := M11) rfl rfl ⟨K_0, trivial⟩ ?_
        cases h
  · subst hv
    refine hr_Fg h (fun kq2 h => ?_)
    refine hr_Gcv mf_X10_repainted mf_X8_paletteAt lb_X10_repainted_5 (b := 1) (as := [.int a1]) (rest := []) (st2 := [.ref q2]) (v := some (.ref q2)) (M1 := M2) rfl rfl rfl rfl rfl rfl K_1 (g_X8_paletteAt a1 _ _ e2) rfl rfl ?_
    refine hr_Grun mf_X10_repainted lb_X10_repainted_8 (P := hr_K 0 = 9 ∧ True) (pc' := 16) (ls' := [some (.ref 0), some (.int a1), some (.int a2), some (.int a3), some (.ref q2), none, none]) (st' := [.int a2, .int 1, .ref 1]) (M' := M2) rfl rfl ⟨K_0, trivial⟩ ?_
    refine hr_Fb h (fun v16 M16 e16 h => ?_)
    refine hr_Fv h (fun hv h => ?_) (fun q16 hv h => ?_)
    · subst hv
      refine hr_Gcv mf_X10_repainted mf_X8_rollAt lb_X10_repainted_16 (b := 1) (as := [.int 1, .int a2]) (rest := []) (st2 := [.null]) (v := some .null) (M1 := M16) rfl rfl rfl rfl rfl rfl K_1 (g_X8_rollAt 1 a2 _ _ e16) rfl rfl ?_
      refine hr_Grun mf_X10_repainted lb_X10_repainted_19 (P := True) (pc' := 25) (ls' := [some (.ref 0), some (.int a1), some (.int a2), some (.int a3), some (.ref q2), some .null, none]) (st' := [.null, .ref q2]) (M' := M16) rfl rfl trivial ?_
      refine hr_Fb h (fun v18 M18 e18 h => ?_)
      refine hr_Gcs mf_X10_repainted mf_X10_goTogether lb_X10_repainted_25 (as := [.ref q2, .null]) (rest := []) (st2 := [.int v18]) (v := some (.int v18)) (M1 := M18) rfl rfl rfl rfl rfl rfl (g_X10_goTogether (.ref q2) .null _ _ e18) rfl rfl ?_
      refine hr_Grun mf_X10_repainted lb_X10_repainted_28 (P := True) (pc' := if v18 = 0 then 31 else 33) (ls' := [some (.ref 0), some (.int a1), some (.int a2), some (.int a3), some (.ref q2), some .null, none]) (st' := []) (M' := M18) rfl rfl trivial ?_
      refine hr_Gif h (fun _ h => ?_) (fun _ h => ?_)
      · refine hr_Grun mf_X10_repainted lb_X10_repainted_31 (P := True) (pc' := 32) (ls' := [some (.ref 0), some (.int a1), some (.int a2), some (.int a3), some (.ref q2), some .null, none]) (st' := [.int (-1)]) (M' := M18) rfl rfl trivial ?_
        cases h
        exact hr_Gret mf_X10_repainted lb_X10_repainted_32 rfl rfl trivial
      · refine hr_Grun mf_X10_repainted lb_X10_repainted_33 (P := hr_K 0 = 9 ∧ True) (pc' := 41) (ls' := [some (.ref 0), some (.int a1), some (.int a2), some (.int a3), some (.ref q2), some .null, none]) (st' := [.null, .ref q2, .ref 257]) (M' := M18) rfl rfl ⟨K_0, trivial⟩ ?_
        cases h
    · subst hv
      refine hr_Fg h (fun kq16 h => ?_)
      refine hr_Gcv mf_X10_repainted mf_X8_rollAt lb_X10_repainted_16 (b := 1) (as := [.int 1, .int a2]) (rest := []) (st2 := [.ref q16]) (v := some (.ref q16)) (M1 := M16) rfl rfl rfl rfl rfl rfl K_1 (g_X8_rollAt 1 a2 _ _ e16) rfl rfl ?_
      refine hr_Grun mf_X10_repainted lb_X10_repainted_19 (P := True) (pc' := 25) (ls' := [some (.ref 0), some (.int a1), some (.int a2), some (.int a3), some (.ref q2), some (.ref q16), none]) (st' := [.ref q16, .ref q2]) (M' := M16) rfl rfl trivial ?_
      refine hr_Fb h (fun v23 M23 e23 h => ?_)
      refine hr_Gcs mf_X10_repainted mf_X10_goTogether lb_X10_repainted_25 (as := [.ref q2, .ref q16]) (rest := []) (st2 := [.int v23]) (v := some (.int v23)) (M1 := M23) rfl rfl rfl rfl rfl rfl (g_X10_goTogether (.ref q2) (.ref q16) _ _ e23) rfl rfl ?_
      refine hr_Grun mf_X10_repainted lb_X10_repainted_28 (P := True) (pc' := if v23 = 0 then 31 else 33) (ls' := [some (.ref 0), some (.int a1), some (.int a2), some (.int a3), some (.ref q2), some (.ref q16), none]) (st' := []) (M' := M23) rfl rfl trivial ?_
      refine hr_Gif h (fun _ h => ?_) (fun _ h => ?_)
      · refine hr_Grun mf_X10_repainted lb_X10_repainted_31 (P := True) (pc' := 32) (ls' := [some (.ref 0), some (.int a1), some (.int a2), some (.int a3), some (.ref q2), some (.ref q16), none]) (st' := [.int (-1)]) (M' := M23) rfl rfl trivial ?_
        cases h
        exact hr_Gret mf_X10_repainted lb_X10_repainted_32 rfl rfl trivial
      · refine hr_Grun mf_X10_repainted lb_X10_repainted_33 (P := hr_K 0 = 9 ∧ True) (pc' := 41) (ls' := [some (.ref 0), some (.int a1), some (.int a2), some (.int a3), some (.ref q2), some (.ref q16), none]) (st' := [.ref q16, .ref q2, .ref 257]) (M' := M23) rfl rfl ⟨K_0, trivial⟩ ?_
        refine hr_Fb h (fun v27 M27 e27 h => ?_)
        refine hr_Gcv mf_X10_repainted mf_X0_repaint lb_X10_repainted_41 (b := 257) (as := [.ref q2, .ref q16]) (rest := []) (st2 := [.int v27]) (v := some (.int v27)) (M1 := M27) rfl rfl rfl rfl rfl rfl K_257 (g_X0_repaint q2 q16 _ _ e27) rfl rfl ?_
        refine hr_Grun mf_X10_repainted lb_X10_repainted_44 (P := True) (pc' := if v27 < 0 then 55 else 51) (ls' := [some (.ref 0), some (.int a1), some (.int a2), some (.int a3), some (.ref q2), some (.ref q16), some (.int v27)]) (st' := []) (M' := M27) rfl rfl trivial ?_
        refine hr_Gif h (fun _ h => ?_) (fun _ h => ?_)
        · refine hr_Grun mf_X10_repainted lb_X10_repainted_55 (P := True) (pc' := 57) (ls' := [some (.ref 0), some (.int a1), some (.int a2), some (.int a3), some (.ref q2), some (.ref q16), some (.int v27)]) (st' := [.int v27]) (M' := M27) rfl rfl trivial ?_
          cases h
          exact hr_Gret mf_X10_repainted lb_X10_repainted_57 rfl rfl trivial
        · refine hr_Grun mf_X10_repainted lb_X10_repainted_51 (P := True) (pc' := if a3 = 0 then 55 else 58) (ls' := [some (.ref 0), some (.int a1), some (.int a2), some (.int a3), some (.ref q2), some (.ref q16), some (.int v27)]) (st' := []) (M' := M27) rfl rfl trivial ?_
          refine hr_Gif h (fun _ h => ?_) (fun _ h => ?_)
          · refine hr_Grun mf_X10_repainted lb_X10_repainted_55 (P := True) (pc' := 57) (ls' := [some (.ref 0), some (.int a1), some (.int a2), some (.int a3), some (.ref q2), some (.ref q16), some (.int v27)]) (st' := [.int v27]) (M' := M27) rfl rfl trivial ?_
            cases h
            exact hr_Gret mf_X10_repainted lb_X10_repainted_57 rfl rfl trivial
          · refine hr_Grun mf_X10_repainted lb_X10_repainted_58 (P := True) (pc' := if a3 < 10 then 91 else 64) (ls' := [some (.ref 0), some (.int a1), some (.int a2), some (.int a3), some (.ref q2), some (.ref q16), some (.int v27)]) (st' := []) (M' := M27) rfl rfl trivial ?_
            refine hr_Gif h (fun _ h => ?_) (fun _ h => ?_)
            · refine hr_Grun mf_X10_repainted lb_X10_repainted_91 (P := True) (pc' := 92) (ls' := [some (.ref 0), some (.int a1), some (.int a2), some (.int a3), some (.ref q2), some (.ref q16), some (.int v27)]) (st' := [.int (-1)]) (M' := M27) rfl rfl trivial ?_
              cases h
              exact hr_Gret mf_X10_repainted lb_X10_repainted_92 rfl rfl trivial
            · refine hr_Grun mf_X10_repainted lb_X10_repainted_64 (P := hr_K q16 = 5 ∧ True) (pc' := if (10 + (M27.1 q16 0)) ≤ a3 then 91 else 76) (ls' := [some (.ref 0), some (.int a1), some (.int a2), some (.int a3), some (.ref q2), some (.ref q16), some (.int v27)]) (st' := []) (M' := M27) rfl rfl ⟨kq16, trivial⟩ ?_
              refine hr_Gif h (fun _ h => ?_) (fun _ h => ?_)
              · refine hr_Grun mf_X10_repainted lb_X10_repainted_91 (P := True) (pc' := 92) (ls' := [some (.ref 0), some (.int a1), some (.int a2), some (.int a3), some (.ref q2), some (.ref q16), some (.int v27)]) (st' := [.int (-1)]) (M' := M27) rfl rfl trivial ?_
                cases h
                exact hr_Gret mf_X10_repainted lb_X10_repainted_92 rfl rfl trivial
              · refine hr_Fg h (fun hg36_0 h => ?_)
                refine hr_Grun mf_X10_repainted lb_X10_repainted_76 (P := hr_K 0 = 9 ∧ hr_K 257 = 0 ∧ (hr_K 259 = 12 ∧ vp_in (a3 - 10) (hr_N 259)) ∧ True) (pc' := 92) (ls' := [some (.ref 0), some (.int a1), some (.int a2), some (.int a3), some (.ref q2), some (.ref q16), some (.int v27)]) (st' := [.int (M27.1 259 (a3 - 10).toNatClampNeg)]) (M' := M27) rfl rfl ⟨K_0, K_257, ⟨K_259, (inB_N N_259 hg36_0)⟩, trivial⟩ ?_
                cases h
                exact hr_Gret mf_X10_repainted lb_X10_repainted_92 rfl rfl trivial
theorem mf_X10_lineUpHues : hr_mf 156 10 4 (some .boolean) 6 2 bk_X10_lineUpHues := ⟨rfl, rfl, rfl, rfl, rfl, rfl⟩
theorem lb_X10_lineUpHues_0 : bk_X10_lineUpHues.lookup 0 = some [(.aload_n 0, 1), (.getfield 10, 3), (.iload_n 1, 1)] := rfl
theorem lb_X10_lineUpHues_5 : bk_X10_lineUpHues.lookup 5 = some [(.invokevirtual 109, 3)] := rfl
theorem lb_X10_lineUpHues_8 : bk_X10_lineUpHues.lookup 8 = some [(.astore_n 3, 1), (.aload_n 3, 1), (.ifnonnull 5, 3)] := rfl
theorem lb_X10_lineUpHues_13 : bk_X10_lineUpHues.lookup 13 = some [(.iconst 0, 1)] := rfl
theorem lb_X10_lineUpHues_14 : bk_X10_lineUpHues.lookup 14 = some [(.ireturn, 1)] := rfl
theorem lb_X10_lineUpHues_15 : bk_X10_lineUpHues.lookup 15 = some [(.iload_n 2, 1), (.aload_n 3, 1)] := rfl
theorem lb_X10_lineUpHues_17 : bk_X10_lineUpHues.lookup 17 = some [(.invokevirtual 232, 3)] := rfl
theorem lb_X10_lineUpHues_20 : bk_X10_lineUpHues.lookup 20 = some [(.iand, 1), (.istore 4, 2), (.iload_n 1, 1), (.sipush 1024, 3), (.imul, 1), (.iload 4, 2), (.iadd, 1), (.istore 5, 2), (.aload_n 0, 1), (.getfield 34, 3), (.getfield 312, 3), (.iload 5, 2), (.if_icmp .eq 29, 3)] := rfl
theorem lb_X10_lineUpHues_45 : bk_X10_lineUpHues.lookup 45 = some [(.aload_n 0, 1), (.getfield 34, 3), (.aload_n 3, 1), (.iload 4, 2)] := rfl
theorem lb_X10_lineUpHues_52 : bk_X10_lineUpHues.lookup 52 = some [(.invokevirtual 235, 3)] := rfl
theorem lb_X10_lineUpHues_55 : bk_X10_lineUpHues.lookup 55 = some [(.aload_n 0, 1), (.getfield 34, 3)] := rfl
theorem lb_X10_lineUpHues_59 : bk_X10_lineUpHues.lookup 59 = some [(.invokevirtual 315, 3)] := rfl
theorem lb_X10_lineUpHues_62 : bk_X10_lineUpHues.lookup 62 = some [(.aload_n 0, 1), (.getfield 34, 3), (.iload 5, 2), (.putfield 312, 3)] := rfl
theorem lb_X10_lineUpHues_71 : bk_X10_lineUpHues.lookup 71 = some [(.iconst 1, 1)] := rfl
theorem lb_X10_lineUpHues_72 : bk_X10_lineUpHues.lookup 72 = some [(.ireturn, 1)] := rfl
def f_X10_lineUpHues (a1 : Int32) (a2 : Int32) (M : PM) : Option (Int32 × PM) :=
  hr_bd (f_X8_paletteAt a1 M) (fun v2 M2 => match v2 with
  | .null => some (0, M2)
  | .ref q2 => if hr_K q2 = 3 then
    hr_bd (f_X4_all q2 M2) (fun v7 M7 =>
    if (M7.1 240 8) = ((a1 * 1024) + (a2 &&& v7)) then
      some (1, M7)
    else
      hr_bd (f_X1_gatherHues q2 (a2 &&& v7) M7) (fun v11 M11 =>
      hr_bd (f_X1_lineUp M11) (fun v13 M13 =>
      some (1, hr_si M13 240 8 ((a1 * 1024) + (a2 &&& v7))))))
    else none
  | _ => none)
theorem g_X10_lineUpHues (a1 : Int32) (a2 : Int32) : ∀ (M : PM) (r : Int32 × PM), f_X10_lineUpHues a1 a2 M = some r → hr_G 156 0 [some (.ref 0), some (.int a1), some (.int a2), none, none, none] [] M (some (.int r.1), r.2) := by
  intro M r h
  unfold f_X10_lineUpHues at h
  refine hr_Grun mf_X10_lineUpHues lb_X10_lineUpHues_0 (P := hr_K 0 = 9 ∧ True) (pc' := 5) (ls' := [some (.ref 0), some (.int a1), some (.int a2), none, none, none]) (st' := [.int a1, .ref 1]) (M' := M) rfl rfl ⟨K_0, trivial⟩ ?_
  refine hr_Fb h (fun v2 M2 e2 h => ?_)
  refine hr_Fv h (fun hv h => ?_) (fun q2 hv h => ?_)
  · subst hv
    refine hr_Gcv mf_X10_lineUpHues mf_X8_paletteAt lb_X10_lineUpHues_5 (b := 1) (as := [.int a1]) (rest := []) (st2 := [.null]) (v := some .null) (M1 := M2) rfl rfl rfl rfl rfl rfl K_1 (g_X8_paletteAt a1 _ _ e2) rfl rfl ?_
    refine hr_Grun mf_X10_lineUpHues lb_X10_lineUpHues_8 (P := True) (pc' := 13) (ls' := [some (.ref 0), some (.int a1), some (.int a2), some .null, none, none]) (st' := []) (M' := M2) rfl rfl trivial ?_
    refine hr_Grun mf_X10_lineUpHues lb_X10_lineUpHues_13 (P := True) (pc' := 14) (ls' := [some (.ref 0), some (.int a1), some (.int a2), some .null, none, none]) (st' := [.int 0]) (M' := M2) rfl rfl trivial ?_
    cases h
    exact hr_Gret mf_X10_lineUpHues lb_X10_lineUpHues_14 rfl rfl (Or.inl rfl)
  · subst hv
    refine hr_Fg h (fun kq2 h => ?_)
    refine hr_Gcv mf_X10_lineUpHues mf_X8_paletteAt lb_X10_lineUpHues_5 (b := 1) (as := [.int a1]) (rest := []) (st2 := [.ref q2]) (v := some (.ref q2)) (M1 := M2) rfl rfl rfl rfl rfl rfl K_1 (g_X8_paletteAt a1 _ _ e2) rfl rfl ?_
    refine hr_Grun mf_X10_lineUpHues lb_X10_lineUpHues_8 (P := True) (pc' := 15) (ls' := [some (.ref 0), some (.int a1), some (.int a2), some (.ref q2), none, none]) (st' := []) (M' := M2) rfl rfl trivial ?_
    refine hr_Grun mf_X10_lineUpHues lb_X10_lineUpHues_15 (P := True) (pc' := 17) (ls' := [some (.ref 0), some (.int a1), some (.int a2), some (.ref q2), none, none]) (st' := [.ref q2, .int a2]) (M' := M2) rfl rfl trivial ?_
    refine hr_Fb h (fun v7 M7 e7 h => ?_)
    refine hr_Gcv mf_X10_lineUpHues mf_X4_all lb_X10_lineUpHues_17 (b := q2) (as := []) (rest := [.int a2]) (st2 := [.int v7, .int a2]) (v := some (.int v7)) (M1 := M7) rfl rfl rfl rfl rfl rfl kq2 (g_X4_all q2 _ _ e7) rfl rfl ?_
    refine hr_Grun mf_X10_lineUpHues lb_X10_lineUpHues_20 (P := hr_K 0 = 9 ∧ hr_K 240 = 1 ∧ True) (pc' := if (M7.1 240 8) = ((a1 * 1024) + (a2 &&& v7)) then 71 else 45) (ls' := [some (.ref 0), some (.int a1), some (.int a2), some (.ref q2), some (.int (a2 &&& v7)), some (.int ((a1 * 1024) + (a2 &&& v7)))]) (st' := []) (M' := M7) rfl rfl ⟨K_0, K_240, trivial⟩ ?_
    refine hr_Gif h (fun _ h => ?_) (fun _ h => ?_)
    · refine hr_Grun mf_X10_lineUpHues lb_X10_lineUpHues_71 (P := True) (pc' := 72) (ls' := [some (.ref 0), some (.int a1), some (.int a2), some (.ref q2), some (.int (a2 &&& v7)), some (.int ((a1 * 1024) + (a2 &&& v7)))]) (st' := [.int 1]) (M' := M7) rfl rfl trivial ?_
      cases h
      exact hr_Gret mf_X10_lineUpHues lb_X10_lineUpHues_72 rfl rfl (Or.inr rfl)
    · refine hr_Grun mf_X10_lineUpHues lb_X10_lineUpHues_45 (P := hr_K 0 = 9 ∧ True) (pc' := 52) (ls' := [some (.ref 0), some (.int a1), some (.int a2), some (.ref q2), some (.int (a2 &&& v7)), some (.int ((a1 * 1024) + (a2 &&& v7)))]) (st' := [.int (a2 &&& v7), .ref q2, .ref 240]) (M' := M7) rfl rfl ⟨K_0, trivial⟩ ?_
      refine hr_Fb h (fun v11 M11 e11 h => ?_)
      refine hr_Gcv mf_X10_lineUpHues mf_X1_gatherHues lb_X10_lineUpHues_52 (b := 240) (as := [.ref q2, .int (a2 &&& v7)]) (rest := []) (st2 := []) (v := none) (M1 := M11) rfl rfl rfl rfl rfl rfl K_240 (g_X1_gatherHues q2 (a2 &&& v7) _ _ e11) rfl rfl ?_
      refine hr_Grun mf_X10_lineUpHues lb_X10_lineUpHues_55 (P := hr_K 0 = 9 ∧ True) (pc' := 59) (ls' := [some (.ref 0), some (.int a1), some (.int a2), some (.ref q2), some (.int (a2 &&& v7)), some (.int ((a1 * 1024) + (a2 &&& v7)))]) (st' := [.ref 240]) (M' := M11) rfl rfl ⟨K_0, trivial⟩ ?_
      refine hr_Fb h (fun v13 M13 e13 h => ?_)
      refine hr_Gcv mf_X10_lineUpHues mf_X1_lineUp lb_X10_lineUpHues_59 (b := 240) (as := []) (rest := []) (st2 := []) (v := none) (M1 := M13) rfl rfl rfl rfl rfl rfl K_240 (g_X1_lineUp  _ _ e13) rfl rfl ?_
      refine hr_Grun mf_X10_lineUpHues lb_X10_lineUpHues_62 (P := hr_K 0 = 9 ∧ (hr_K 240 = 1 ∧ 240 < hr_n) ∧ True) (pc' := 71) (ls' := [some (.ref 0), some (.int a1), some (.int a2), some (.ref q2), some (.int (a2 &&& v7)), some (.int ((a1 * 1024) + (a2 &&& v7)))]) (st' := []) (M' := hr_si M13 240 8 ((a1 * 1024) + (a2 &&& v7))) rfl rfl ⟨K_0, ⟨K_240, L_240⟩, trivial⟩ ?_
      refine hr_Grun mf_X10_lineUpHues lb_X10_lineUpHues_71 (P := True) (pc' := 72) (ls' := [some (.ref 0), some (.int a1), some (.int a2), some (.ref q2), some (.int (a2 &&& v7)), some (.int ((a1 * 1024) + (a2 &&& v7)))]) (st' := [.int 1]) (M' := hr_si M13 240 8 ((a1 * 1024) + (a2 &&& v7))) rfl rfl trivial ?_
      cases h
      exact hr_Gret mf_X10_lineUpHues lb_X10_lineUpHues_72 rfl rfl (Or.inr rfl)
theorem mf_X10_loom : hr_mf 138 10 5 (some .long) 3 2 bk_X10_loom := ⟨rfl, rfl, rfl, rfl, rfl, rfl⟩
theorem lb_X10_loom_0 : bk_X10_loom.lookup 0 = some [(.aload_n 0, 1), (.iload_n 1, 1), (.iload_n 2, 1)] := rfl
theorem lb_X10_loom_3 : bk_X10_loom.lookup 3 = some [(.invokevirtual 213, 3)] := rfl
theorem lb_X10_loom_6 : bk_X10_loom.lookup 6 = some [(.ifCond .eq 14, 3)] := rfl
theorem lb_X10_loom_9 : bk_X10_loom.lookup 9 = some [(.aload_n 0, 1), (.getfield 34, 3), (.getfield 198, 3), (.i2l, 1), (.goto 6, 3)] := rfl
theorem lb_X10_loom_20 : bk_X10_loom.lookup 20 = some [(.ldc2_w 201, 3)] := rfl
theorem lb_X10_loom_23 : bk_X10_loom.lookup 23 = some [(.lreturn, 1)] := rfl
def f_X10_loom (a1 : Int32) (a2 : Int32) (M : PM) : Option (Int64 × PM) :=
  hr_bd (f_X10_lineUpHues a1 a2 M) (fun v2 M2 =>
  if v2 = 0 then
    some ((-1), M2)
  else
    some (((M2.1 240 7).toInt64), M2))
theorem g_X10_loom (a1 : Int32) (a2 : Int32) : ∀ (M : PM) (r : Int64 × PM), f_X10_loom a1 a2 M = some r → hr_G 138 0 [some (.ref 0), some (.int a1), some (.int a2)] [] M (some (.long r.1), r.2) := by
  intro M r h
  unfold f_X10_loom at h
  refine hr_Grun mf_X10_loom lb_X10_loom_0 (P := True) (pc' := 3) (ls' := [some (.ref 0), some (.int a1), some (.int a2)]) (st' := [.int a2, .int a1, .ref 0]) (M' := M) rfl rfl trivial ?_
  refine hr_Fb h (fun v2 M2 e2 h => ?_)
  refine hr_Gcv mf_X10_loom mf_X10_lineUpHues lb_X10_loom_3 (b := 0) (as := [.int a1, .int a2]) (rest := []) (st2 := [.int v2]) (v := some (.int v2)) (M1 := M2) rfl rfl rfl rfl rfl rfl K_0 (g_X10_lineUpHues a1 a2 _ _ e2) rfl rfl ?_
  refine hr_Grun mf_X10_loom lb_X10_loom_6 (P := True) (pc' := if v2 = 0 then 20 else 9) (ls' := [some (.ref 0), some (.int a1), some (.int a2)]) (st' := []) (M' := M2) rfl rfl trivial ?_
  refine hr_Gif h (fun _ h => ?_) (fun _ h => ?_)
  · refine hr_Grun mf_X10_loom lb_X10_loom_20 (P := True) (pc' := 23) (ls' := [some (.ref 0), some (.int a1), some (.int a2)]) (st' := [.long (-1)]) (M' := M2) rfl rfl trivial ?_
    cases h
    exact hr_Gret mf_X10_loom lb_X10_loom_23 rfl rfl trivial
  · refine hr_Grun mf_X10_loom lb_X10_loom_9 (P := hr_K 0 = 9 ∧ hr_K 240 = 1 ∧ True) (pc' := 23) (ls' := [some (.ref 0), some (.int a1), some (.int a2)]) (st' := [.long ((M2.1 240 7).toInt64)]) (M' := M2) rfl rfl ⟨K_0, K_240, trivial⟩ ?_
    cases h
    exact hr_Gret mf_X10_loom lb_X10_loom_23 rfl rfl trivial
theorem mf_X10_thread : hr_mf 139 10 5 (some .int) 4 3 bk_X10_thread := ⟨rfl, rfl, rfl, rfl, rfl, rfl⟩
theorem lb_X10_thread_0 : bk_X10_thread.lookup 0 = some [(.aload_n 0, 1), (.iload_n 1, 1), (.iload_n 2, 1)] := rfl
theorem lb_X10_thread_3 : bk_X10_thread.lookup 3 = some [(.invokevirtual 213, 3)] := rfl
theorem lb_X10_thread_6 : bk_X10_thread.lookup 6 = some [(.ifCond .eq 14, 3)] := rfl
theorem lb_X10_thread_9 : bk_X10_thread.lookup 9 = some [(.aload_n 0, 1), (.getfield 34, 3), (.iload_n 3, 1)] := rfl
theorem lb_X10_thread_14 : bk_X10_thread.lookup 14 = some [(.invokevirtual 203, 3)] := rfl
theorem lb_X10_thread_17 : bk_X10_thread.lookup 17 = some [(.goto 4, 3)] := rfl
theorem lb_X10_thread_20 : bk_X10_thread.lookup 20 = some [(.iconst (-1), 1)] := rfl
theorem lb_X10_thread_21 : bk_X10_thread.lookup 21 = some [(.ireturn, 1)] := rfl
def f_X10_thread (a1 : Int32) (a2 : Int32) (a3 : Int32) (M : PM) : Option (Int32 × PM) :=
  hr_bd (f_X10_lineUpHues a1 a2 M) (fun v2 M2 =>
  if v2 = 0 then
    some ((-1), M2)
  else
    hr_bd (f_X1_placed a3 M2) (fun v6 M6 =>
    some (v6, M6)))
theorem g_X10_thread (a1 : Int32) (a2 : Int32) (a3 : Int32) : ∀ (M : PM) (r : Int32 × PM), f_X10_thread a1 a2 a3 M = some r → hr_G 139 0 [some (.ref 0), some (.int a1), some (.int a2), some (.int a3)] [] M (some (.int r.1), r.2) := by
  intro M r h
  unfold f_X10_thread at h
  refine hr_Grun mf_X10_thread lb_X10_thread_0 (P := True) (pc' := 3) (ls' := [some (.ref 0), some (.int a1), some (.int a2), some (.int a3)]) (st' := [.int a2, .int a1, .ref 0]) (M' := M) rfl rfl trivial ?_
  refine hr_Fb h (fun v2 M2 e2 h => ?_)
  refine hr_Gcv mf_X10_thread mf_X10_lineUpHues lb_X10_thread_3 (b := 0) (as := [.int a1, .int a2]) (rest := []) (st2 := [.int v2]) (v := some (.int v2)) (M1 := M2) rfl rfl rfl rfl rfl rfl K_0 (g_X10_lineUpHues a1 a2 _ _ e2) rfl rfl ?_
  refine hr_Grun mf_X10_thread lb_X10_thread_6 (P := True) (pc' := if v2 = 0 then 20 else 9) (ls' := [some (.ref 0), some (.int a1), some (.int a2), some (.int a3)]) (st' := []) (M' := M2) rfl rfl trivial ?_
  refine hr_Gif h (fun _ h => ?_) (fun _ h => ?_)
  · refine hr_Grun mf_X10_thread lb_X10_thread_20 (P := True) (pc' := 21) (ls' := [some (.ref 0), some (.int a1), some (.int a2), some (.int a3)]) (st' := [.int (-1)]) (M' := M2) rfl rfl trivial ?_
    cases h
    exact hr_Gret mf_X10_thread lb_X10_thread_21 rfl rfl trivial
  · refine hr_Grun mf_X10_thread lb_X10_thread_9 (P := hr_K 0 = 9 ∧ True) (pc' := 14) (ls' := [some (.ref 0), some (.int a1), some (.int a2), some (.int a3)]) (st' := [.int a3, .ref 240]) (M' := M2) rfl rfl ⟨K_0, trivial⟩ ?_
    refine hr_Fb h (fun v6 M6 e6 h => ?_)
    refine hr_Gcv mf_X10_thread mf_X1_placed lb_X10_thread_14 (b := 240) (as := [.int a3]) (rest := []) (st2 := [.int v6]) (v := some (.int v6)) (M1 := M6) rfl rfl rfl rfl rfl rfl K_240 (g_X1_placed a3 _ _ e6) rfl rfl ?_
    refine hr_Grun mf_X10_thread lb_X10_thread_17 (P := True) (pc' := 21) (ls' := [some (.ref 0), some (.int a1), some (.int a2), some (.int a3)]) (st' := [.int v6]) (M' := M6) rfl rfl trivial ?_
    cases h
    exact hr_Gret mf_X10_thread lb_X10_thread_21 rfl rfl trivial
theorem mf_X10_mix : hr_mf 140 10 3 (some .int) 6 4 bk_X10_mix := ⟨rfl, rfl, rfl, rfl, rfl, rfl⟩
theorem lb_X10_mix_0 : bk_X10_mix.lookup 0 = some [(.aload_n 0, 1), (.getfield 10, 3), (.iload_n 1, 1)] := rfl
theorem lb_X10_mix_5 : bk_X10_mix.lookup 5 = some [(.invokevirtual 109, 3)] := rfl
theorem lb_X10_mix_8 : bk_X10_mix.lookup 8 = some [(.astore 5, 2), (.aload 5, 2), (.ifnull 23, 3)] := rfl
theorem lb_X10_mix_15 : bk_X10_mix.lookup 15 = some [(.aload 5, 2), (.iload_n 2, 1)] := rfl
theorem lb_X10_mix_18 : bk_X10_mix.lookup 18 = some [(.invokevirtual 126, 3)] := rfl
theorem lb_X10_mix_21 : bk_X10_mix.lookup 21 = some [(.ifCond .eq 14, 3)] := rfl
theorem lb_X10_mix_24 : bk_X10_mix.lookup 24 = some [(.iload 4, 2), (.ifCond .lt 9, 3)] := rfl
theorem lb_X10_mix_29 : bk_X10_mix.lookup 29 = some [(.iload 4, 2), (.iconst 2, 1), (.if_icmp .le 6, 3)] := rfl
theorem lb_X10_mix_35 : bk_X10_mix.lookup 35 = some [(.bipush (-2), 2)] := rfl
theorem lb_X10_mix_37 : bk_X10_mix.lookup 37 = some [(.ireturn, 1)] := rfl
theorem lb_X10_mix_38 : bk_X10_mix.lookup 38 = some [(.aload_n 0, 1), (.getfield 48, 3), (.aload 5, 2), (.iload_n 2, 1), (.iload_n 3, 1)] := rfl
theorem lb_X10_mix_46 : bk_X10_mix.lookup 46 = some [(.invokevirtual 216, 3)] := rfl
theorem lb_X10_mix_49 : bk_X10_mix.lookup 49 = some [(.ifCond .ne 6, 3)] := rfl
theorem lb_X10_mix_52 : bk_X10_mix.lookup 52 = some [(.bipush (-2), 2)] := rfl
theorem lb_X10_mix_54 : bk_X10_mix.lookup 54 = some [(.ireturn, 1)] := rfl
theorem lb_X10_mix_55 : bk_X10_mix.lookup 55 = some [(.iload 4, 2), (.ifCond .ne 11, 3)] := rfl
theorem lb_X10_mix_60 : bk_X10_mix.lookup 60 = some [(.aload_n 0, 1), (.getfield 48, 3), (.getfield 220, 3)] := rfl
theorem lb_X10_mix_67 : bk_X10_mix.lookup 67 = some [(.ireturn, 1)] := rfl
theorem lb_X10_mix_68 : bk_X10_mix.lookup 68 = some [(.iload 4, 2), (.iconst 1, 1), (.if_icmp .ne 13, 3)] := rfl
theorem lb_X10_mix_74 : bk_X10_mix.lookup 74 = some [(.aload_n 0, 1), (.getfield 48, 3), (.getfield 223, 3), (.goto 10, 3)] := rfl
theorem lb_X10_mix_84 : bk_X10_mix.lookup 84 = some [(.aload_n 0, 1), (.getfield 48, 3), (.getfield 226, 3)] := rfl
theorem lb_X10_mix_91 : bk_X10_mix.lookup 91 = some [(.ireturn, 1)] := rfl
def f_X10_mix (a1 : Int32) (a2 : Int32) (a3 : Int32) (a4 : Int32) (M : PM) : Option (Int32 × PM) :=
  hr_bd (f_X8_paletteAt a1 M) (fun v2 M2 => match v2 with
  | .null => some ((-2), M2)
  | .ref q2 => if hr_K q2 = 3 then
    hr_bd (f_X4_has q2 a2 M2) (fun v7 M7 =>
    if v7 = 0 then
      some ((-2), M7)
    else
      if a4 < 0 then
        some ((-2), M7)
      else
        if a4 ≤ 2 then
          hr_bd (f_X0_blend q2 a2 a3 M7) (fun v14 M14 =>
          if v14 = 0 then
            some ((-2), M14)
          else
            if a4 = 0 then
              some ((M14.1 257 7), M14)
            else
              if a4 = 1 then
                some ((M14.1 257 8), M14)
              else
                some ((M14.1 257 9), M14))
        else
          some ((-2), M7))
    else none
  | _ => none)
theorem g_X10_mix (a1 : Int32) (a2 : Int32) (a3 : Int32) (a4 : Int32) : ∀ (M : PM) (r : Int32 × PM), f_X10_mix a1 a2 a3 a4 M = some r → hr_G 140 0 [some (.ref 0), some (.int a1), some (.int a2), some (.int a3), some (.int a4), none] [] M (some (.int r.1), r.2) := by
  intro M r h
  unfold f_X10_mix at h
  refine hr_Grun mf_X10_mix lb_X10_mix_0 (P := hr_K 0 = 9 ∧ True) (pc' := 5) (ls' := [some (.ref 0), some (.int a1), some (.int a2), some (.int a3), some (.int a4), none]) (st' := [.int a1, .ref 1]) (M' := M) rfl rfl ⟨K_0, trivial⟩ ?_
  refine hr_Fb h (fun v2 M2 e2 h => ?_)
  refine hr_Fv h (fun hv h => ?_) (fun q2 hv h => ?_)
  · subst hv
    refine hr_Gcv mf_X10_mix mf_X8_paletteAt lb_X10_mix_5 (b := 1) (as := [.int a1]) (rest := []) (st2 := [.null]) (v := some .null) (M1 := M2) rfl rfl rfl rfl rfl rfl K_1 (g_X8_paletteAt a1 _ _ e2) rfl rfl ?_
    refine hr_Grun mf_X10_mix lb_X10_mix_8 (P := True) (pc' := 35) (ls' := [some (.ref 0), some (.int a1), some (.int a2), some (.int a3), some (.int a4), some .null]) (st' := []) (M' := M2) rfl rfl trivial ?_
    refine hr_Grun mf_X10_mix lb_X10_mix_35 (P := True) (pc' := 37) (ls' := [some (.ref 0), some (.int a1), some (.int a2), some (.int a3), some (.int a4), some .null]) (st' := [.int (-2)]) (M' := M2) rfl rfl trivial ?_
    cases h
    exact hr_Gret mf_X10_mix lb_X10_mix_37 rfl rfl trivial
  · subst hv
    refine hr_Fg h (fun kq2 h => ?_)
    refine hr_Gcv mf_X10_mix mf_X8_paletteAt lb_X10_mix_5 (b := 1) (as := [.int a1]) (rest := []) (st2 := [.ref q2]) (v := some (.ref q2)) (M1 := M2) rfl rfl rfl rfl rfl rfl K_1 (g_X8_paletteAt a1 _ _ e2) rfl rfl ?_
    refine hr_Grun mf_X10_mix lb_X10_mix_8 (P := True) (pc' := 15) (ls' := [some (.ref 0), some (.int a1), some (.int a2), some (.int a3), some (.int a4), some (.ref q2)]) (st' := []) (M' := M2) rfl rfl trivial ?_
    refine hr_Grun mf_X10_mix lb_X10_mix_15 (P := True) (pc' := 18) (ls' := [some (.ref 0), some (.int a1), some (.int a2), some (.int a3), some (.int a4), some (.ref q2)]) (st' := [.int a2, .ref q2]) (M' := M2) rfl rfl trivial ?_
    refine hr_Fb h (fun v7 M7 e7 h => ?_)
    refine hr_Gcv mf_X10_mix mf_X4_has lb_X10_mix_18 (b := q2) (as := [.int a2]) (rest := []) (st2 := [.int v7]) (v := some (.int v7)) (M1 := M7) rfl rfl rfl rfl rfl rfl kq2 (g_X4_has q2 a2 _ _ e7) rfl rfl ?_
    refine hr_Grun mf_X10_mix lb_X10_mix_21 (P := True) (pc' := if v7 = 0 then 35 else 24) (ls' := [some (.ref 0), some (.int a1), some (.int a2), some (.int a3), some (.int a4), some (.ref q2)]) (st' := []) (M' := M7) rfl rfl trivial ?_
    refine hr_Gif h (fun _ h => ?_) (fun _ h => ?_)
    · refine hr_Grun mf_X10_mix lb_X10_mix_35 (P := True) (pc' := 37) (ls' := [some (.ref 0), some (.int a1), some (.int a2), some (.int a3), some (.int a4), some (.ref q2)]) (st' := [.int (-2)]) (M' := M7) rfl rfl trivial ?_
      cases h
      exact hr_Gret mf_X10_mix lb_X10_mix_37 rfl rfl trivial
    · refine hr_Grun mf_X10_mix lb_X10_mix_24 (P := True) (pc' := if a4 < 0 then 35 else 29) (ls' := [some (.ref 0), some (.int a1), some (.int a2), some (.int a3), some (.int a4), some (.ref q2)]) (st' := []) (M' := M7) rfl rfl trivial ?_
      refine hr_Gif h (fun _ h => ?_) (fun _ h => ?_)
      · refine hr_Grun mf_X10_mix lb_X10_mix_35 (P := True) (pc' := 37) (ls' := [some (.ref 0), some (.int a1), some (.int a2), some (.int a3), some (.int a4), some (.ref q2)]) (st' := [.int (-2)]) (M' := M7) rfl rfl trivial ?_
        cases h
        exact hr_Gret mf_X10_mix lb_X10_mix_37 rfl rfl trivial
      · refine hr_Grun mf_X10_mix lb_X10_mix_29 (P := True) (pc' := if a4 ≤ 2 then 38 else 35) (ls' := [some (.ref 0), some (.int a1), some (.int a2), some (.int a3), some (.int a4), some (.ref q2)]) (st' := []) (M' := M7) rfl rfl trivial ?_
        refine hr_Gif h (fun _ h => ?_) (fun _ h => ?_)
        · refine hr_Grun mf_X10_mix lb_X10_mix_38 (P := hr_K 0 = 9 ∧ True) (pc' := 46) (ls' := [some (.ref 0), some (.int a1), some (.int a2), some (.int a3), some (.int a4), some (.ref q2)]) (st' := [.int a3, .int a2, .ref q2, .ref 257]) (M' := M7) rfl rfl ⟨K_0, trivial⟩ ?_
          refine hr_Fb h (fun v14 M14 e14 h => ?_)
          refine hr_Gcv mf_X10_mix mf_X0_blend lb_X10_mix_46 (b := 257) (as := [.ref q2, .int a2, .int a3]) (rest := []) (st2 := [.int v14]) (v := some (.int v14)) (M1 := M14) rfl rfl rfl rfl rfl rfl K_257 (g_X0_blend q2 a2 a3 _ _ e14) rfl rfl ?_
          refine hr_Grun mf_X10_mix lb_X10_mix_49 (P := True) (pc' := if v14 = 0 then 52 else 55) (ls' := [some (.ref 0), some (.int a1), some (.int a2), some (.int a3), some (.int a4), some (.ref q2)]) (st' := []) (M' := M14) rfl rfl trivial ?_
          refine hr_Gif h (fun _ h => ?_) (fun _ h => ?_)
          · refine hr_Grun mf_X10_mix lb_X10_mix_52 (P := True) (pc' := 54) (ls' := [some (.ref 0), some (.int a1), some (.int a2), some (.int a3), some (.int a4), some (.ref q2)]) (st' := [.int (-2)]) (M' := M14) rfl rfl trivial ?_
            cases h
            exact hr_Gret mf_X10_mix lb_X10_mix_54 rfl rfl trivial
          · refine hr_Grun mf_X10_mix lb_X10_mix_55 (P := True) (pc' := if a4 = 0 then 60 else 68) (ls' := [some (.ref 0), some (.int a1), some (.int a2), some (.int a3), some (.int a4), some (.ref q2)]) (st' := []) (M' := M14) rfl rfl trivial ?_
            refine hr_Gif h (fun _ h => ?_) (fun _ h => ?_)
            · refine hr_Grun mf_X10_mix lb_X10_mix_60 (P := hr_K 0 = 9 ∧ hr_K 257 = 0 ∧ True) (pc' := 67) (ls' := [some (.ref 0), some (.int a1), some (.int a2), some (.int a3), some (.int a4), some (.ref q2)]) (st' := [.int (M14.1 257 7)]) (M' := M14) rfl rfl ⟨K_0, K_257, trivial⟩ ?_
              cases h
              exact hr_Gret mf_X10_mix lb_X10_mix_67 rfl rfl trivial
            · refine hr_Grun mf_X10_mix lb_X10_mix_68 (P := True) (pc' := if a4 = 1 then 74 else 84) (ls' := [some (.ref 0), some (.int a1), some (.int a2), some (.int a3), some (.int a4), some (.ref q2)]) (st' := []) (M' := M14) rfl rfl trivial ?_
              refine hr_Gif h (fun _ h => ?_) (fun _ h => ?_)
              · refine hr_Grun mf_X10_mix lb_X10_mix_74 (P := hr_K 0 = 9 ∧ hr_K 257 = 0 ∧ True) (pc' := 91) (ls' := [some (.ref 0), some (.int a1), some (.int a2), some (.int a3), some (.int a4), some (.ref q2)]) (st' := [.int (M14.1 257 8)]) (M' := M14) rfl rfl ⟨K_0, K_257, trivial⟩ ?_
                cases h
                exact hr_Gret mf_X10_mix lb_X10_mix_91 rfl rfl trivial
              · refine hr_Grun mf_X10_mix lb_X10_mix_84 (P := hr_K 0 = 9 ∧ hr_K 257 = 0 ∧ True) (pc' := 91) (ls' := [some (.ref 0), some (.int a1), some (.int a2), some (.int a3), some (.int a4), some (.ref q2)]) (st' := [.int (M14.1 257 9)]) (M' := M14) rfl rfl ⟨K_0, K_257, trivial⟩ ?_
                cases h
                exact hr_Gret mf_X10_mix lb_X10_mix_91 rfl rfl trivial
        · refine hr_Grun mf_X10_mix lb_X10_mix_35 (P := True) (pc' := 37) (ls' := [some (.ref 0), some (.int a1), some (.int a2), some (.int a3), some (.int a4), some (.ref q2)]) (st' := [.int (-2)]) (M' := M7) rfl rfl trivial ?_
          cases h
          exact hr_Gret mf_X10_mix lb_X10_mix_37 rfl rfl trivial
