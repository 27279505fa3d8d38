/-! printed by wip/whole/gen/gen20.py: methods as functions of the pure memory -/
theorem mf_X11_draw : hr_mf 299 11 0 (some .int) 2 1 bk_X11_draw := ⟨rfl, rfl, rfl, rfl, rfl, rfl⟩
theorem lb_X11_draw_0 : bk_X11_draw.lookup 0 = some [(.aload_n 0, 1), (.aload_n 0, 1), (.getfield 564, 3), (.ldc_w 567, 3), (.imul, 1), (.sipush 12345, 3), (.iadd, 1), (.putfield 564, 3), (.aload_n 0, 1), (.getfield 564, 3), (.bipush 16, 2), (.iushr, 1), (.iload_n 1, 1), (.irem, 1)] := rfl
theorem lb_X11_draw_25 : bk_X11_draw.lookup 25 = some [(.ireturn, 1)] := rfl
def f_X11_draw (a1 : Int32) (M : PM) : Option (Int32 × PM) :=
  if ¬ a1 = 0 then 
  some ((jr (ju ((hr_si M 275 53 (((M.1 275 53) * 1103515245) + 12345)).1 275 53) 16) a1), hr_si M 275 53 (((M.1 275 53) * 1103515245) + 12345)) else none
theorem g_X11_draw (a1 : Int32) : ∀ (M : PM) (r : Int32 × PM), f_X11_draw a1 M = some r → hr_G 299 0 [some (.ref 275), some (.int a1)] [] M (some (.int r.1), r.2) := by
  intro M r h
  unfold f_X11_draw at h
  refine hr_Fg h (fun hg1_0 h => ?_)
  refine hr_Grun mf_X11_draw lb_X11_draw_0 (P := hr_K 275 = 10 ∧ (hr_K 275 = 10 ∧ 275 < hr_n) ∧ hr_K 275 = 10 ∧ ¬ a1 = 0 ∧ True) (pc' := 25) (ls' := [some (.ref 275), some (.int a1)]) (st' := [.int (jr (ju ((hr_si M 275 53 (((M.1 275 53) * 1103515245) + 12345)).1 275 53) 16) a1)]) (M' := hr_si M 275 53 (((M.1 275 53) * 1103515245) + 12345)) rfl rfl ⟨K_275, ⟨K_275, L_275⟩, K_275, hg1_0, trivial⟩ ?_
  cases h
  exact hr_Gret mf_X11_draw lb_X11_draw_25 rfl rfl trivial
theorem mf_X11_picked : hr_mf 300 11 2 (some .int) 4 1 bk_X11_picked := ⟨rfl, rfl, rfl, rfl, rfl, rfl⟩
theorem lb_X11_picked_0 : bk_X11_picked.lookup 0 = some [(.aload_n 0, 1), (.iload_n 1, 1)] := rfl
theorem lb_X11_picked_2 : bk_X11_picked.lookup 2 = some [(.invokestatic 410, 3)] := rfl
theorem lb_X11_picked_5 : bk_X11_picked.lookup 5 = some [(.invokevirtual 568, 3)] := rfl
theorem lb_X11_picked_8 : bk_X11_picked.lookup 8 = some [(.istore_n 2, 1), (.iconst 0, 1), (.istore_n 3, 1)] := rfl
theorem lb_X11_picked_11 : bk_X11_picked.lookup 11 = some [(.iload_n 2, 1), (.ifCond .gt 11, 3)] := rfl
theorem lb_X11_picked_15 : bk_X11_picked.lookup 15 = some [(.iload_n 1, 1), (.iload_n 3, 1)] := rfl
theorem lb_X11_picked_17 : bk_X11_picked.lookup 17 = some [(.invokestatic 104, 3)] := rfl
theorem lb_X11_picked_20 : bk_X11_picked.lookup 20 = some [(.ifCond .ne 25, 3)] := rfl
theorem lb_X11_picked_23 : bk_X11_picked.lookup 23 = some [(.iload_n 2, 1), (.iload_n 1, 1), (.iload_n 3, 1)] := rfl
theorem lb_X11_picked_26 : bk_X11_picked.lookup 26 = some [(.invokestatic 104, 3)] := rfl
theorem lb_X11_picked_29 : bk_X11_picked.lookup 29 = some [(.ifCond .eq 7, 3)] := rfl
theorem lb_X11_picked_32 : bk_X11_picked.lookup 32 = some [(.iconst 1, 1), (.goto 4, 3)] := rfl
theorem lb_X11_picked_36 : bk_X11_picked.lookup 36 = some [(.iconst 0, 1)] := rfl
theorem lb_X11_picked_37 : bk_X11_picked.lookup 37 = some [(.isub, 1), (.istore_n 2, 1), (.iinc 3 1, 3), (.goto (-31), 3)] := rfl
theorem lb_X11_picked_45 : bk_X11_picked.lookup 45 = some [(.iload_n 3, 1)] := rfl
theorem lb_X11_picked_46 : bk_X11_picked.lookup 46 = some [(.ireturn, 1)] := rfl
def f_X11_picked_23 (a1 : Int32) (k11 : Int32 → Int32 → PM → Option (Int32 × PM)) (x2 : Int32) (x3 : Int32) (M : PM) : Option (Int32 × PM) :=
  hr_bd (f_X11_has a1 x3 M) (fun v2 M2 =>
  if v2 = 0 then
    k11 (x2 - 0) (x3 + 1) M2
  else
    k11 (x2 - 1) (x3 + 1) M2)
theorem g_X11_picked_23 (a1 : Int32)  (k11 : Int32 → Int32 → PM → Option (Int32 × PM)) (hk11 : ∀ (x2 : Int32) (x3 : Int32) (M : PM) (r : Int32 × PM), k11 x2 x3 M = some r → hr_G 300 11 [none, some (.int a1), some (.int x2), some (.int x3)] [] M (some (.int r.1), r.2)) : ∀ (x2 : Int32) (x3 : Int32) (M : PM) (r : Int32 × PM), f_X11_picked_23 a1 k11 x2 x3 M = some r → hr_G 300 23 [none, some (.int a1), some (.int x2), some (.int x3)] [] M (some (.int r.1), r.2) := by
  intro x2 x3 M r h
  unfold f_X11_picked_23 at h
  refine hr_Grun mf_X11_picked lb_X11_picked_23 (P := True) (pc' := 26) (ls' := [none, some (.int a1), some (.int x2), some (.int x3)]) (st' := [.int x3, .int a1, .int x2]) (M' := M) rfl rfl trivial ?_
  refine hr_Fb h (fun v2 M2 e2 h => ?_)
  refine hr_Gcs mf_X11_picked mf_X11_has lb_X11_picked_26 (as := [.int a1, .int x3]) (rest := [.int x2]) (st2 := [.int v2, .int x2]) (v := some (.int v2)) (M1 := M2) rfl rfl rfl rfl rfl rfl (g_X11_has a1 x3 _ _ e2) rfl rfl ?_
  refine hr_Grun mf_X11_picked lb_X11_picked_29 (P := True) (pc' := if v2 = 0 then 36 else 32) (ls' := [none, some (.int a1), some (.int x2), some (.int x3)]) (st' := [.int x2]) (M' := M2) rfl rfl trivial ?_
  refine hr_Gif h (fun _ h => ?_) (fun _ h => ?_)
  · refine hr_Grun mf_X11_picked lb_X11_picked_36 (P := True) (pc' := 37) (ls' := [none, some (.int a1), some (.int x2), some (.int x3)]) (st' := [.int 0, .int x2]) (M' := M2) rfl rfl trivial ?_
    refine hr_Grun mf_X11_picked lb_X11_picked_37 (P := True) (pc' := 11) (ls' := [none, some (.int a1), some (.int (x2 - 0)), some (.int (x3 + 1))]) (st' := []) (M' := M2) rfl rfl trivial ?_
    exact hk11 (x2 - 0) (x3 + 1) M2 _ h
  · refine hr_Grun mf_X11_picked lb_X11_picked_32 (P := True) (pc' := 37) (ls' := [none, some (.int a1), some (.int x2), some (.int x3)]) (st' := [.int 1, .int x2]) (M' := M2) rfl rfl trivial ?_
    refine hr_Grun mf_X11_picked lb_X11_picked_37 (P := True) (pc' := 11) (ls' := [none, some (.int a1), some (.int (x2 - 1)), some (.int (x3 + 1))]) (st' := []) (M' := M2) rfl rfl trivial ?_
    exact hk11 (x2 - 1) (x3 + 1) M2 _ h
def f_X11_picked_11 (a1 : Int32) : Nat → Int32 → Int32 → PM → Option (Int32 × PM)
  | 0, _, _, _ => none
  | f + 1, x2, x3, M =>
    if 0 < x2 then
      f_X11_picked_23 a1 (fun x2 x3 M => f_X11_picked_11 a1 f x2 x3 M) x2 x3 M
    else
      hr_bd (f_X11_has a1 x3 M) (fun v3 M3 =>
      if v3 = 0 then
        f_X11_picked_23 a1 (fun x2 x3 M => f_X11_picked_11 a1 f x2 x3 M) x2 x3 M3
      else
        some (x3, M3))
theorem g_X11_picked_11 (a1 : Int32)  : ∀ (f : Nat) (x2 : Int32) (x3 : Int32) (M : PM) (r : Int32 × PM), f_X11_picked_11 a1 f x2 x3 M = some r → hr_G 300 11 [none, some (.int a1), some (.int x2), some (.int x3)] [] M (some (.int r.1), r.2) := by
  intro f
  induction f with
  | zero => intro x2 x3 M r h; cases h
  | succ f ih =>
    intro x2 x3 M r h
    rw [f_X11_picked_11.eq_2] at h
    refine hr_Grun mf_X11_picked lb_X11_picked_11 (P := True) (pc' := if 0 < x2 then 23 else 15) (ls' := [none, some (.int a1), some (.int x2), some (.int x3)]) (st' := []) (M' := M) rfl rfl trivial ?_
    refine hr_Gif h (fun _ h => ?_) (fun _ h => ?_)
    · exact g_X11_picked_23 a1 (fun x2 x3 M => f_X11_picked_11 a1 f x2 x3 M) (fun x2 x3 M r h => ih x2 x3 M r h) x2 x3 M _ h
    · refine hr_Grun mf_X11_picked lb_X11_picked_15 (P := True) (pc' := 17) (ls' := [none, some (.int a1), some (.int x2), some (.int x3)]) (st' := [.int x3, .int a1]) (M' := M) rfl rfl trivial ?_
      refine hr_Fb h (fun v3 M3 e3 h => ?_)
      refine hr_Gcs mf_X11_picked mf_X11_has lb_X11_picked_17 (as := [.int a1, .int x3]) (rest := []) (st2 := [.int v3]) (v := some (.int v3)) (M1 := M3) rfl rfl rfl rfl rfl rfl (g_X11_has a1 x3 _ _ e3) rfl rfl ?_
      refine hr_Grun mf_X11_picked lb_X11_picked_20 (P := True) (pc' := if v3 = 0 then 23 else 45) (ls' := [none, some (.int a1), some (.int x2), some (.int x3)]) (st' := []) (M' := M3) rfl rfl trivial ?_
      refine hr_Gif h (fun _ h => ?_) (fun _ h => ?_)
      · exact g_X11_picked_23 a1 (fun x2 x3 M => f_X11_picked_11 a1 f x2 x3 M) (fun x2 x3 M r h => ih x2 x3 M r h) x2 x3 M3 _ h
      · refine hr_Grun mf_X11_picked lb_X11_picked_45 (P := True) (pc' := 46) (ls' := [none, some (.int a1), some (.int x2), some (.int x3)]) (st' := [.int x3]) (M' := M3) rfl rfl trivial ?_
        cases h
        exact hr_Gret mf_X11_picked lb_X11_picked_46 rfl rfl trivial
def f_X11_picked (a1 : Int32) (M : PM) : Option (Int32 × PM) :=
  hr_bd (f_X11_ones a1 M) (fun v2 M2 =>
  hr_bd (f_X11_draw v2 M2) (fun v3 M3 =>
  f_X11_picked_11 a1 FU v3 0 M3))
theorem g_X11_picked (a1 : Int32) : ∀ (M : PM) (r : Int32 × PM), f_X11_picked a1 M = some r → hr_G 300 0 [some (.ref 275), some (.int a1), none, none] [] M (some (.int r.1), r.2) := by
  intro M r h
  unfold f_X11_picked at h
  refine hr_Grun mf_X11_picked lb_X11_picked_0 (P := True) (pc' := 2) (ls' := [some (.ref 275), some (.int a1), none, none]) (st' := [.int a1, .ref 275]) (M' := M) rfl rfl trivial ?_
  refine hr_Fb h (fun v2 M2 e2 h => ?_)
  refine hr_Gcs mf_X11_picked mf_X11_ones lb_X11_picked_2 (as := [.int a1]) (rest := [.ref 275]) (st2 := [.int v2, .ref 275]) (v := some (.int v2)) (M1 := M2) rfl rfl rfl rfl rfl rfl (g_X11_ones a1 _ _ e2) rfl rfl ?_
  refine hr_Fb h (fun v3 M3 e3 h => ?_)
  refine hr_Gcv mf_X11_picked mf_X11_draw lb_X11_picked_5 (b := 275) (as := [.int v2]) (rest := []) (st2 := [.int v3]) (v := some (.int v3)) (M1 := M3) rfl rfl rfl rfl rfl rfl K_275 (g_X11_draw v2 _ _ e3) rfl rfl ?_
  refine hr_Grun mf_X11_picked lb_X11_picked_8 (P := True) (pc' := 11) (ls' := [some (.ref 275), some (.int a1), some (.int v3), some (.int 0)]) (st' := []) (M' := M3) rfl rfl trivial ?_
  refine hr_Gle (ls := [none, some (.int a1), some (.int v3), some (.int 0)]) (hr_le_n (hr_le_s (hr_le_s (hr_le_s hr_le_0)))) ?_
  exact g_X11_picked_11 a1 FU v3 0 M3 _ h
theorem mf_X11_evening : hr_mf 301 11 3 (some .int) 4 0 bk_X11_evening := ⟨rfl, rfl, rfl, rfl, rfl, rfl⟩
theorem lb_X11_evening_0 : bk_X11_evening.lookup 0 = some [(.aload_n 0, 1)] := rfl
theorem lb_X11_evening_1 : bk_X11_evening.lookup 1 = some [(.invokevirtual 542, 3)] := rfl
theorem lb_X11_evening_4 : bk_X11_evening.lookup 4 = some [(.istore_n 1, 1), (.iconst 0, 1), (.istore_n 2, 1)] := rfl
theorem lb_X11_evening_7 : bk_X11_evening.lookup 7 = some [(.iload_n 2, 1), (.iload_n 1, 1), (.if_icmp .ge 24, 3)] := rfl
theorem lb_X11_evening_12 : bk_X11_evening.lookup 12 = some [(.aload_n 0, 1), (.getfield 94, 3), (.iload_n 2, 1), (.aload_n 0, 1), (.aload_n 0, 1), (.iload_n 2, 1)] := rfl
theorem lb_X11_evening_20 : bk_X11_evening.lookup 20 = some [(.invokevirtual 545, 3)] := rfl
theorem lb_X11_evening_23 : bk_X11_evening.lookup 23 = some [(.invokevirtual 571, 3)] := rfl
theorem lb_X11_evening_26 : bk_X11_evening.lookup 26 = some [(.iastore, 1), (.iinc 2 1, 3), (.goto (-23), 3)] := rfl
theorem lb_X11_evening_33 : bk_X11_evening.lookup 33 = some [(.iconst 0, 1), (.istore_n 2, 1), (.iconst 0, 1), (.istore_n 3, 1)] := rfl
theorem lb_X11_evening_37 : bk_X11_evening.lookup 37 = some [(.iload_n 3, 1), (.iconst 1, 1), (.iadd, 1), (.iload_n 1, 1), (.if_icmp .ge 35, 3)] := rfl
theorem lb_X11_evening_44 : bk_X11_evening.lookup 44 = some [(.iload_n 2, 1), (.aload_n 0, 1), (.getfield 47, 3), (.bipush 10, 2), (.aload_n 0, 1), (.getfield 94, 3), (.iload_n 3, 1), (.iaload, 1), (.imul, 1), (.aload_n 0, 1), (.getfield 94, 3), (.iload_n 3, 1), (.iconst 1, 1), (.iadd, 1), (.iaload, 1), (.iadd, 1), (.iaload, 1), (.iadd, 1), (.istore_n 2, 1), (.iinc 3 1, 3), (.goto (-36), 3)] := rfl
theorem lb_X11_evening_76 : bk_X11_evening.lookup 76 = some [(.iload_n 1, 1), (.iconst 3, 1), (.if_icmp .ge 7, 3)] := rfl
theorem lb_X11_evening_81 : bk_X11_evening.lookup 81 = some [(.iload_n 2, 1), (.goto 28, 3)] := rfl
theorem lb_X11_evening_85 : bk_X11_evening.lookup 85 = some [(.iload_n 2, 1), (.aload_n 0, 1), (.getfield 47, 3), (.bipush 10, 2), (.aload_n 0, 1), (.getfield 94, 3), (.iload_n 1, 1), (.iconst 1, 1), (.isub, 1), (.iaload, 1), (.imul, 1), (.aload_n 0, 1), (.getfield 94, 3), (.iconst 0, 1), (.iaload, 1), (.iadd, 1), (.iaload, 1), (.iadd, 1)] := rfl
theorem lb_X11_evening_110 : bk_X11_evening.lookup 110 = some [(.ireturn, 1)] := rfl
def f_X11_evening_37  : Nat → Int32 → Int32 → Int32 → PM → Option (Int32 × PM)
  | 0, _, _, _, _ => none
  | f + 1, x1, x2, x3, M =>
    if x1 ≤ (x3 + 1) then
      if 3 ≤ x1 then
        if inB (x1 - 1) 8 = true then if inB 0 8 = true then if inB ((10 * (M.1 303 (x1 - 1).toNatClampNeg)) + (M.1 303 (0 : Int32).toNatClampNeg)) 100 = true then 
        some ((x2 + (M.1 288 ((10 * (M.1 303 (x1 - 1).toNatClampNeg)) + (M.1 303 (0 : Int32).toNatClampNeg)).toNatClampNeg)), M) else none else none else none
      else
        some (x2, M)
    else
      if inB x3 8 = true then if inB (x3 + 1) 8 = true then if inB ((10 * (M.1 303 x3.toNatClampNeg)) + (M.1 303 (x3 + 1).toNatClampNeg)) 100 = true then 
      f_X11_evening_37 f x1 (x2 + (M.1 288 ((10 * (M.1 303 x3.toNatClampNeg)) + (M.1 303 (x3 + 1).toNatClampNeg)).toNatClampNeg)) (x3 + 1) M else none else none else none
theorem g_X11_evening_37   : ∀ (f : Nat) (x1 : Int32) (x2 : Int32) (x3 : Int32) (M : PM) (r : Int32 × PM), f_X11_evening_37 f x1 x2 x3 M = some r → hr_G 301 37 [some (.ref 275), some (.int x1), some (.int x2), some (.int x3)] [] M (some (.int r.1), r.2) := by
  intro f
  induction f with
  | zero => intro x1 x2 x3 M r h; cases h
  | succ f ih =>
    intro x1 x2 x3 M r h
    rw [f_X11_evening_37.eq_2] at h
    refine hr_Grun mf_X11_evening lb_X11_evening_37 (P := True) (pc' := if x1 ≤ (x3 + 1) then 76 else 44) (ls' := [some (.ref 275), some (.int x1), some (.int x2), some (.int x3)]) (st' := []) (M' := M) rfl rfl trivial ?_
    refine hr_Gif h (fun _ h => ?_) (fun _ h => ?_)
    · refine hr_Grun mf_X11_evening lb_X11_evening_76 (P := True) (pc' := if 3 ≤ x1 then 85 else 81) (ls' := [some (.ref 275), some (.int x1), some (.int x2), some (.int x3)]) (st' := []) (M' := M) rfl rfl trivial ?_
      refine hr_Gif h (fun _ h => ?_) (fun _ h => ?_)
      · refine hr_Fg h (fun hg3_0 h => ?_)
        refine hr_Fg h (fun hg3_1 h => ?_)
        refine hr_Fg h (fun hg3_2 h => ?_)
        refine hr_Grun mf_X11_evening lb_X11_evening_85 (P := hr_K 275 = 10 ∧ hr_K 275 = 10 ∧ (hr_K 303 = 12 ∧ vp_in (x1 - 1) (hr_N 303)) ∧ hr_K 275 = 10 ∧ (hr_K 303 = 12 ∧ vp_in 0 (hr_N 303)) ∧ (hr_K 288 = 12 ∧ vp_in ((10 * (M.1 303 (x1 - 1).toNatClampNeg)) + (M.1 303 (0 : Int32).toNatClampNeg)) (hr_N 288)) ∧ True) (pc' := 110) (ls' := [some (.ref 275), some (.int x1), some (.int x2), some (.int x3)]) (st' := [.int (x2 + (M.1 288 ((10 * (M.1 303 (x1 - 1).toNatClampNeg)) + (M.1 303 (0 : Int32).toNatClampNeg)).toNatClampNeg))]) (M' := M) rfl rfl ⟨K_275, K_275, ⟨K_303, (inB_N N_303 hg3_0)⟩, K_275, ⟨K_303, (inB_N N_303 hg3_1)⟩, ⟨K_288, (inB_N N_288 hg3_2)⟩, trivial⟩ ?_
        cases h
        exact hr_Gret mf_X11_evening lb_X11_evening_110 rfl rfl trivial
      · refine hr_Grun mf_X11_evening lb_X11_evening_81 (P := True) (pc' := 110) (ls' := [some (.ref 275), some (.int x1), some (.int x2), some (.int x3)]) (st' := [.int x2]) (M' := M) rfl rfl trivial ?_
        cases h
        exact hr_Gret mf_X11_evening lb_X11_evening_110 rfl rfl trivial
    · refine hr_Fg h (fun hg5_0 h => ?_)
      refine hr_Fg h (fun hg5_1 h => ?_)
      refine hr_Fg h (fun hg5_2 h => ?_)
      refine hr_Grun mf_X11_evening lb_X11_evening_44 (P := hr_K 275 = 10 ∧ hr_K 275 = 10 ∧ (hr_K 303 = 12 ∧ vp_in x3 (hr_N 303)) ∧ hr_K 275 = 10 ∧ (hr_K 303 = 12 ∧ vp_in (x3 + 1) (hr_N 303)) ∧ (hr_K 288 = 12 ∧ vp_in ((10 * (M.1 303 x3.toNatClampNeg)) + (M.1 303 (x3 + 1).toNatClampNeg)) (hr_N 288)) ∧ True) (pc' := 37) (ls' := [some (.ref 275), some (.int x1), some (.int (x2 + (M.1 288 ((10 * (M.1 303 x3.toNatClampNeg)) + (M.1 303 (x3 + 1).toNatClampNeg)).toNatClampNeg))), some (.int (x3 + 1))]) (st' := []) (M' := M) rfl rfl ⟨K_275, K_275, ⟨K_303, (inB_N N_303 hg5_0)⟩, K_275, ⟨K_303, (inB_N N_303 hg5_1)⟩, ⟨K_288, (inB_N N_288 hg5_2)⟩, trivial⟩ ?_
      exact ih x1 (x2 + (M.1 288 ((10 * (M.1 303 x3.toNatClampNeg)) + (M.1 303 (x3 + 1).toNatClampNeg)).toNatClampNeg)) (x3 + 1) M _ h
def f_X11_evening_7  : Nat → Int32 → Int32 → PM → Option (Int32 × PM)
  | 0, _, _, _ => none
  | f + 1, x1, x2, M =>
    if x1 ≤ x2 then
      f_X11_evening_37 FU x1 0 0 M
    else
      hr_bd (f_X11_worn x2 M) (fun v4 M4 =>
      hr_bd (f_X11_picked v4 M4) (fun v5 M5 =>
      if inB x2 8 = true then 
      f_X11_evening_7 f x1 (x2 + 1) (hr_si M5 303 x2.toNatClampNeg v5) else none))
theorem g_X11_evening_7   : ∀ (f : Nat) (x1 : Int32) (x2 : Int32) (M : PM) (r : Int32 × PM), f_X11_evening_7 f x1 x2 M = some r → hr_G 301 7 [some (.ref 275), some (.int x1), some (.int x2), none] [] M (some (.int r.1), r.2) := by
  intro f
  induction f with
  | zero => intro x1 x2 M r h; cases h
  | succ f ih =>
    intro x1 x2 M r h
    rw [f_X11_evening_7.eq_2] at h
    refine hr_Grun mf_X11_evening lb_X11_evening_7 (P := True) (pc' := if x1 ≤ x2 then 33 else 12) (ls' := [some (.ref 275), some (.int x1), some (.int x2), none]) (st' := []) (M' := M) rfl rfl trivial ?_
    refine hr_Gif h (fun _ h => ?_) (fun _ h => ?_)
    · refine hr_Grun mf_X11_evening lb_X11_evening_33 (P := True) (pc' := 37) (ls' := [some (.ref 275), some (.int x1), some (.int 0), some (.int 0)]) (st' := []) (M' := M) rfl rfl trivial ?_
      exact g_X11_evening_37 FU x1 0 0 M _ h
    · refine hr_Grun mf_X11_evening lb_X11_evening_12 (P := hr_K 275 = 10 ∧ True) (pc' := 20) (ls' := [some (.ref 275), some (.int x1), some (.int x2), none]) (st' := [.int x2, .ref 275, .ref 275, .int x2, .ref 303]) (M' := M) rfl rfl ⟨K_275, trivial⟩ ?_
      refine hr_Fb h (fun v4 M4 e4 h => ?_)
      refine hr_Gcv mf_X11_evening mf_X11_worn lb_X11_evening_20 (b := 275) (as := [.int x2]) (rest := [.ref 275, .int x2, .ref 303]) (st2 := [.int v4, .ref 275, .int x2, .ref 303]) (v := some (.int v4)) (M1 := M4) rfl rfl rfl rfl rfl rfl K_275 (g_X11_worn x2 _ _ e4) rfl rfl ?_
      refine hr_Fb h (fun v5 M5 e5 h => ?_)
      refine hr_Gcv mf_X11_evening mf_X11_picked lb_X11_evening_23 (b := 275) (as := [.int v4]) (rest := [.int x2, .ref 303]) (st2 := [.int v5, .int x2, .ref 303]) (v := some (.int v5)) (M1 := M5) rfl rfl rfl rfl rfl rfl K_275 (g_X11_picked v4 _ _ e5) rfl rfl ?_
      refine hr_Fg h (fun hg6_0 h => ?_)
      refine hr_Grun mf_X11_evening lb_X11_evening_26 (P := ((hr_K 303 = 12 ∧ 303 < hr_n) ∧ vp_in x2 (hr_N 303)) ∧ True) (pc' := 7) (ls' := [some (.ref 275), some (.int x1), some (.int (x2 + 1)), none]) (st' := []) (M' := hr_si M5 303 x2.toNatClampNeg v5) rfl rfl ⟨⟨⟨K_303, L_303⟩, (inB_N N_303 hg6_0)⟩, trivial⟩ ?_
      exact ih x1 (x2 + 1) (hr_si M5 303 x2.toNatClampNeg v5) _ h
def f_X11_evening (M : PM) : Option (Int32 × PM) :=
  hr_bd (f_X11_guests M) (fun v2 M2 =>
  f_X11_evening_7 FU v2 0 M2)
theorem g_X11_evening  : ∀ (M : PM) (r : Int32 × PM), f_X11_evening M = some r → hr_G 301 0 [some (.ref 275), none, none, none] [] M (some (.int r.1), r.2) := by
  intro M r h
  unfold f_X11_evening at h
  refine hr_Grun mf_X11_evening lb_X11_evening_0 (P := True) (pc' := 1) (ls' := [some (.ref 275), none, none, none]) (st' := [.ref 275]) (M' := M) rfl rfl trivial ?_
  refine hr_Fb h (fun v2 M2 e2 h => ?_)
  refine hr_Gcv mf_X11_evening mf_X11_guests lb_X11_evening_1 (b := 275) (as := []) (rest := []) (st2 := [.int v2]) (v := some (.int v2)) (M1 := M2) rfl rfl rfl rfl rfl rfl K_275 (g_X11_guests  _ _ e2) rfl rfl ?_
  refine hr_Grun mf_X11_evening lb_X11_evening_4 (P := True) (pc' := 7) (ls' := [some (.ref 275), some (.int v2), some (.int 0), none]) (st' := []) (M' := M2) rfl rfl trivial ?_
  exact g_X11_evening_7 FU v2 0 M2 _ h
theorem mf_X11_drawn : hr_mf 302 11 5 (some .int) 10 5 bk_X11_drawn := ⟨rfl, rfl, rfl, rfl, rfl, rfl⟩
theorem lb_X11_drawn_0 : bk_X11_drawn.lookup 0 = some [(.aload_n 0, 1), (.iconst 0, 1), (.putfield 100, 3), (.iload 4, 2), (.iconst 0, 1), (.bipush 40, 2)] := rfl
theorem lb_X11_drawn_10 : bk_X11_drawn.lookup 10 = some [(.invokestatic 112, 3)] := rfl
theorem lb_X11_drawn_13 : bk_X11_drawn.lookup 13 = some [(.ifCond .eq 22, 3)] := rfl
theorem lb_X11_drawn_16 : bk_X11_drawn.lookup 16 = some [(.iload 5, 2), (.iconst 0, 1), (.iconst 1, 1)] := rfl
theorem lb_X11_drawn_20 : bk_X11_drawn.lookup 20 = some [(.invokestatic 112, 3)] := rfl
theorem lb_X11_drawn_23 : bk_X11_drawn.lookup 23 = some [(.ifCond .eq 12, 3)] := rfl
theorem lb_X11_drawn_26 : bk_X11_drawn.lookup 26 = some [(.aload_n 0, 1), (.iload_n 1, 1), (.iload_n 2, 1)] := rfl
theorem lb_X11_drawn_29 : bk_X11_drawn.lookup 29 = some [(.invokevirtual 551, 3)] := rfl
theorem lb_X11_drawn_32 : bk_X11_drawn.lookup 32 = some [(.ifCond .ne 5, 3)] := rfl
theorem lb_X11_drawn_35 : bk_X11_drawn.lookup 35 = some [(.iconst (-1), 1)] := rfl
theorem lb_X11_drawn_36 : bk_X11_drawn.lookup 36 = some [(.ireturn, 1)] := rfl
theorem lb_X11_drawn_37 : bk_X11_drawn.lookup 37 = some [(.aload_n 0, 1), (.iload_n 3, 1), (.putfield 564, 3), (.iconst 0, 1), (.istore 6, 2), (.iconst 0, 1), (.istore 7, 2), (.iconst 0, 1), (.istore 8, 2)] := rfl
theorem lb_X11_drawn_51 : bk_X11_drawn.lookup 51 = some [(.iload 8, 2), (.iload 4, 2), (.if_icmp .ge 37, 3)] := rfl
theorem lb_X11_drawn_58 : bk_X11_drawn.lookup 58 = some [(.aload_n 0, 1)] := rfl
theorem lb_X11_drawn_59 : bk_X11_drawn.lookup 59 = some [(.invokevirtual 574, 3)] := rfl
theorem lb_X11_drawn_62 : bk_X11_drawn.lookup 62 = some [(.istore 9, 2), (.iload 6, 2), (.iload 9, 2), (.ifCond .ne 7, 3)] := rfl
theorem lb_X11_drawn_71 : bk_X11_drawn.lookup 71 = some [(.iconst 1, 1), (.goto 4, 3)] := rfl
theorem lb_X11_drawn_75 : bk_X11_drawn.lookup 75 = some [(.iconst 0, 1)] := rfl
theorem lb_X11_drawn_76 : bk_X11_drawn.lookup 76 = some [(.iadd, 1), (.istore 6, 2), (.iload 7, 2), (.iload 9, 2), (.iadd, 1), (.istore 7, 2), (.iinc 8 1, 3), (.goto (-38), 3)] := rfl
theorem lb_X11_drawn_92 : bk_X11_drawn.lookup 92 = some [(.iload 5, 2), (.ifCond .ne 8, 3)] := rfl
theorem lb_X11_drawn_97 : bk_X11_drawn.lookup 97 = some [(.iload 6, 2), (.goto 5, 3)] := rfl
theorem lb_X11_drawn_102 : bk_X11_drawn.lookup 102 = some [(.iload 7, 2)] := rfl
theorem lb_X11_drawn_104 : bk_X11_drawn.lookup 104 = some [(.ireturn, 1)] := rfl
def f_X11_drawn_51 (a1 : Int32) (a2 : Int32) (a3 : Int32) (a4 : Int32) (a5 : Int32) : Nat → Int32 → Int32 → Int32 → PM → Option (Int32 × PM)
  | 0, _, _, _, _ => none
  | f + 1, x6, x7, x8, M =>
    if a4 ≤ x8 then
      if a5 = 0 then
        some (x6, M)
      else
        some (x7, M)
    else
      hr_bd (f_X11_evening M) (fun v6 M6 =>
      if v6 = 0 then
        f_X11_drawn_51 a1 a2 a3 a4 a5 f (x6 + 1) (x7 + v6) (x8 + 1) M6
      else
        f_X11_drawn_51 a1 a2 a3 a4 a5 f (x6 + 0) (x7 + v6) (x8 + 1) M6)
theorem g_X11_drawn_51 (a1 : Int32) (a2 : Int32) (a3 : Int32) (a4 : Int32) (a5 : Int32)  : ∀ (f : Nat) (x6 : Int32) (x7 : Int32) (x8 : Int32) (M : PM) (r : Int32 × PM), f_X11_drawn_51 a1 a2 a3 a4 a5 f x6 x7 x8 M = some r → hr_G 302 51 [some (.ref 275), none, none, none, some (.int a4), some (.int a5), some (.int x6), some (.int x7), some (.int x8), none] [] M (some (.int r.1), r.2) := by
  intro f
  induction f with
  | zero => intro x6 x7 x8 M r h; cases h
  | succ f ih =>
    intro x6 x7 x8 M r h
    rw [f_X11_drawn_51.eq_2] at h
    refine hr_Grun mf_X11_drawn lb_X11_drawn_51 (P := True) (pc' := if a4 ≤ x8 then 92 else 58) (ls' := [some (.ref 275), none, none, none, some (.int a4), some (.int a5), some (.int x6), some (.int x7), some (.int x8), none]) (st' := []) (M' := M) rfl rfl trivial ?_
    refine hr_Gif h (fun _ h => ?_) (fun _ h => ?_)
    · refine hr_Grun mf_X11_drawn lb_X11_drawn_92 (P := True) (pc' := if a5 = 0 then 97 else 102) (ls' := [some (.ref 275), none, none, none, some (.int a4), some (.int a5), some (.int x6), some (.int x7), some (.int x8), none]) (st' := []) (M' := M) rfl rfl trivial ?_
      refine hr_Gif h (fun _ h => ?_) (fun _ h => ?_)
      · refine hr_Grun mf_X11_drawn lb_X11_drawn_97 (P := True) (pc' := 104) (ls' := [some (.ref 275), none, none, none, some (.int a4), some (.int a5), some (.int x6), some (.int x7), some (.int x8), none]) (st' := [.int x6]) (M' := M) rfl rfl trivial ?_
        cases h
        exact hr_Gret mf_X11_drawn lb_X11_drawn_104 rfl rfl trivial
      · refine hr_Grun mf_X11_drawn lb_X11_drawn_102 (P := True) (pc' := 104) (ls' := [some (.ref 275), none, none, none, some (.int a4), some (.int a5), some (.int x6), some (.int x7), some (.int x8), none]) (st' := [.int x7]) (M' := M) rfl rfl trivial ?_
        cases h
        exact hr_Gret mf_X11_drawn lb_X11_drawn_104 rfl rfl trivial
    · refine hr_Grun mf_X11_drawn lb_X11_drawn_58 (P := True) (pc' := 59) (ls' := [some (.ref 275), none, none, none, some (.int a4), some (.int a5), some (.int x6), some (.int x7), some (.int x8), none]) (st' := [.ref 275]) (M' := M) rfl rfl trivial ?_
      refine hr_Fb h (fun v6 M6 e6 h => ?_)
      refine hr_Gcv mf_X11_drawn mf_X11_evening lb_X11_drawn_59 (b := 275) (as := []) (rest := []) (st2 := [.int v6]) (v := some (.int v6)) (M1 := M6) rfl rfl rfl rfl rfl rfl K_275 (g_X11_evening  _ _ e6) rfl rfl ?_
      refine hr_Grun mf_X11_drawn lb_X11_drawn_62 (P := True) (pc' := if v6 = 0 then 71 else 75) (ls' := [some (.ref 275), none, none, none, some (.int a4), some (.int a5), some (.int x6), some (.int x7), some (.int x8), some (.int v6)]) (st' := [.int x6]) (M' := M6) rfl rfl trivial ?_
      refine hr_Gif h (fun _ h => ?_) (fun _ h => ?_)
      · refine hr_Grun mf_X11_drawn lb_X11_drawn_71 (P := True) (pc' := 76) (ls' := [some (.ref 275), none, none, none, some (.int a4), some (.int a5), some (.int x6), some (.int x7), some (.int x8), some (.int v6)]) (st' := [.int 1, .int x6]) (M' := M6) rfl rfl trivial ?_
        refine hr_Grun mf_X11_drawn lb_X11_drawn_76 (P := True) (pc' := 51) (ls' := [some (.ref 275), none, none, none, some (.int a4), some (.int a5), some (.int (x6 + 1)), some (.int (x7 + v6)), some (.int (x8 + 1)), some (.int v6)]) (st' := []) (M' := M6) rfl rfl trivial ?_
        refine hr_Gle (ls := [some (.ref 275), none, none, none, some (.int a4), some (.int a5), some (.int (x6 + 1)), some (.int (x7 + v6)), some (.int (x8 + 1)), none]) (hr_le_s (hr_le_n (hr_le_n (hr_le_n (hr_le_s (hr_le_s (hr_le_s (hr_le_s (hr_le_s (hr_le_n hr_le_0)))))))))) ?_
        exact ih (x6 + 1) (x7 + v6) (x8 + 1) M6 _ h
      · refine hr_Grun mf_X11_drawn lb_X11_drawn_75 (P := True) (pc' := 76) (ls' := [some (.ref 275), none, none, none, some (.int a4), some (.int a5), some (.int x6), some (.int x7), some (.int x8), some (.int v6)]) (st' := [.int 0, .int x6]) (M' := M6) rfl rfl trivial ?_
        refine hr_Grun mf_X11_drawn lb_X11_drawn_76 (P := True) (pc' := 51) (ls' := [some (.ref 275), none, none, none, some (.int a4), some (.int a5), some (.int (x6 + 0)), some (.int (x7 + v6)), some (.int (x8 + 1)), some (.int v6)]) (st' := []) (M' := M6) rfl rfl trivial ?_
        refine hr_Gle (ls := [some (.ref 275), none, none, none, some (.int a4), some (.int a5), some (.int (x6 + 0)), some (.int (x7 + v6)), some (.int (x8 + 1)), none]) (hr_le_s (hr_le_n (hr_le_n (hr_le_n (hr_le_s (hr_le_s (hr_le_s (hr_le_s (hr_le_s (hr_le_n hr_le_0)))))))))) ?_
        exact ih (x6 + 0) (x7 + v6) (x8 + 1) M6 _ h
def f_X11_drawn (a1 : Int32) (a2 : Int32) (a3 : Int32) (a4 : Int32) (a5 : Int32) (M : PM) : Option (Int32 × PM) :=
  hr_bd (f_X11_in a4 0 40 (hr_si M 275 0 0)) (fun v2 M2 =>
  if v2 = 0 then
    some ((-1), M2)
  else
    hr_bd (f_X11_in a5 0 1 M2) (fun v6 M6 =>
    if v6 = 0 then
      some ((-1), M6)
    else
      hr_bd (f_X11_layDinner a1 a2 M6) (fun v10 M10 =>
      if v10 = 0 then
        some ((-1), M10)
      else
        f_X11_drawn_51 a1 a2 a3 a4 a5 FU 0 0 0 (hr_si M10 275 53 a3))))
theorem g_X11_drawn (a1 : Int32) (a2 : Int32) (a3 : Int32) (a4 : Int32) (a5 : Int32) : ∀ (M : PM) (r : Int32 × PM), f_X11_drawn a1 a2 a3 a4 a5 M = some r → hr_G 302 0 [some (.ref 275), some (.int a1), some (.int a2), some (.int a3), some (.int a4), some (.int a5), none, none, none, none] [] M (some (.int r.1), r.2) := by
  intro M r h
  unfold f_X11_drawn at h
  refine hr_Grun mf_X11_drawn lb_X11_drawn_0 (P := (hr_K 275 = 10 ∧ 275 < hr_n) ∧ True) (pc' := 10) (ls' := [some (.ref 275), some (.int a1), some (.int a2), some (.int a3), some (.int a4), some (.int a5), none, none, none, none]) (st' := [.int 40, .int 0, .int a4]) (M' := hr_si M 275 0 0) rfl rfl ⟨⟨K_275, L_275⟩, trivial⟩ ?_
  refine hr_Fb h (fun v2 M2 e2 h => ?_)
  refine hr_Gcs mf_X11_drawn mf_X11_in lb_X11_drawn_10 (as := [.int a4, .int 0, .int 40]) (rest := []) (st2 := [.int v2]) (v := some (.int v2)) (M1 := M2) rfl rfl rfl rfl rfl rfl (g_X11_in a4 0 40 _ _ e2) rfl rfl ?_
  refine hr_Grun mf_X11_drawn lb_X11_drawn_13 (P := True) (pc' := if v2 = 0 then 35 else 16) (ls' := [some (.ref 275), some (.int a1), some (.int a2), some (.int a3), some (.int a4), some (.int a5), none, none, none, none]) (st' := []) (M' := M2) rfl rfl trivial ?_
  refine hr_Gif h (fun _ h => ?_) (fun _ h => ?_)
  · refine hr_Grun mf_X11_drawn lb_X11_drawn_35 (P := True) (pc' := 36) (ls' := [some (.ref 275), some (.int a1), some (.int a2), some (.int a3), some (.int a4), some (.int a5), none, none, none, none]) (st' := [.int (-1)]) (M' := M2) rfl rfl trivial ?_
    cases h
    exact hr_Gret mf_X11_drawn lb_X11_drawn_36 rfl rfl trivial
  · refine hr_Grun mf_X11_drawn lb_X11_drawn_16 (P := True) (pc' := 20) (ls' := [some (.ref 275), some (.int a1), some (.int a2), some (.int a3), some (.int a4), some (.int a5), none, none, none, none]) (st' := [.int 1, .int 0, .int a5]) (M' := M2) rfl rfl trivial ?_
    refine hr_Fb h (fun v6 M6 e6 h => ?_)
    refine hr_Gcs mf_X11_drawn mf_X11_in lb_X11_drawn_20 (as := [.int a5, .int 0, .int 1]) (rest := []) (st2 := [.int v6]) (v := some (.int v6)) (M1 := M6) rfl rfl rfl rfl rfl rfl (g_X11_in a5 0 1 _ _ e6) rfl rfl ?_
    refine hr_Grun mf_X11_drawn lb_X11_drawn_23 (P := True) (pc' := if v6 = 0 then 35 else 26) (ls' := [some (.ref 275), some (.int a1), some (.int a2), some (.int a3), some (.int a4), some (.int a5), none, none, none, none]) (st' := []) (M' := M6) rfl rfl trivial ?_
    refine hr_Gif h (fun _ h => ?_) (fun _ h => ?_)
    · refine hr_Grun mf_X11_drawn lb_X11_drawn_35 (P := True) (pc' := 36) (ls' := [some (.ref 275), some (.int a1), some (.int a2), some (.int a3), some (.int a4), some (.int a5), none, none, none, none]) (st' := [.int (-1)]) (M' := M6) rfl rfl trivial ?_
      cases h
      exact hr_Gret mf_X11_drawn lb_X11_drawn_36 rfl rfl trivial
    · refine hr_Grun mf_X11_drawn lb_X11_drawn_26 (P := True) (pc' := 29) (ls' := [some (.ref 275), some (.int a1), some (.int a2), some (.int a3), some (.int a4), some (.int a5), none, none, none, none]) (st' := [.int a2, .int a1, .ref 275]) (M' := M6) rfl rfl trivial ?_
      refine hr_Fb h (fun v10 M10 e10 h => ?_)
      refine hr_Gcv mf_X11_drawn mf_X11_layDinner lb_X11_drawn_29 (b := 275) (as := [.int a1, .int a2]) (rest := []) (st2 := [.int v10]) (v := some (.int v10)) (M1 := M10) rfl rfl rfl rfl rfl rfl K_275 (g_X11_layDinner a1 a2 _ _ e10) rfl rfl ?_
      refine hr_Grun mf_X11_drawn lb_X11_drawn_32 (P := True) (pc' := if v10 = 0 then 35 else 37) (ls' := [some (.ref 275), some (.int a1), some (.int a2), some (.int a3), some (.int a4), some (.int a5), none, none, none, none]) (st' := []) (M' := M10) rfl rfl trivial ?_
      refine hr_Gif h (fun _ h => ?_) (fun _ h => ?_)
      · refine hr_Grun mf_X11_drawn lb_X11_drawn_35 (P := True) (pc' := 36) (ls' := [some (.ref 275), some (.int a1), some (.int a2), some (.int a3), some (.int a4), some (.int a5), none, none, none, none]) (st' := [.int (-1)]) (M' := M10) rfl rfl trivial ?_
        cases h
        exact hr_Gret mf_X11_drawn lb_X11_drawn_36 rfl rfl trivial
      · refine hr_Grun mf_X11_drawn lb_X11_drawn_37 (P := (hr_K 275 = 10 ∧ 275 < hr_n) ∧ True) (pc' := 51) (ls' := [some (.ref 275), some (.int a1), some (.int a2), some (.int a3), some (.int a4), some (.int a5), some (.int 0), some (.int 0), some (.int 0), none]) (st' := []) (M' := hr_si M10 275 53 a3) rfl rfl ⟨⟨K_275, L_275⟩, trivial⟩ ?_
        refine hr_Gle (ls := [some (.ref 275), none, none, none, some (.int a4), some (.int a5), some (.int 0), some (.int 0), some (.int 0), none]) (hr_le_s (hr_le_n (hr_le_n (hr_le_n (hr_le_s (hr_le_s (hr_le_s (hr_le_s (hr_le_s (hr_le_n hr_le_0)))))))))) ?_
        exact g_X11_drawn_51 a1 a2 a3 a4 a5 FU 0 0 0 (hr_si M10 275 53 a3) _ h
theorem mf_X11_count : hr_mf 303 11 1 (some .int) 2 1 bk_X11_count := ⟨rfl, rfl, rfl, rfl, rfl, rfl⟩
theorem lb_X11_count_0 : bk_X11_count.lookup 0 = some [(.aload_n 0, 1), (.iconst 0, 1), (.putfield 100, 3), (.iload_n 1, 1), (.iconst 0, 1), (.iconst 4, 1)] := rfl
theorem lb_X11_count_8 : bk_X11_count.lookup 8 = some [(.invokestatic 112, 3)] := rfl
theorem lb_X11_count_11 : bk_X11_count.lookup 11 = some [(.ifCond .eq 12, 3)] := rfl
theorem lb_X11_count_14 : bk_X11_count.lookup 14 = some [(.aload_n 0, 1), (.getfield 23, 3), (.iload_n 1, 1), (.iaload, 1), (.goto 5, 3)] := rfl
theorem lb_X11_count_23 : bk_X11_count.lookup 23 = some [(.bipush (-2), 2)] := rfl
theorem lb_X11_count_25 : bk_X11_count.lookup 25 = some [(.ireturn, 1)] := rfl
def f_X11_count (a1 : Int32) (M : PM) : Option (Int32 × PM) :=
  hr_bd (f_X11_in a1 0 4 (hr_si M 275 0 0)) (fun v2 M2 =>
  if v2 = 0 then
    some ((-2), M2)
  else
    if inB a1 20 = true then 
    some ((M2.1 280 a1.toNatClampNeg), M2) else none)
theorem g_X11_count (a1 : Int32) : ∀ (M : PM) (r : Int32 × PM), f_X11_count a1 M = some r → hr_G 303 0 [some (.ref 275), some (.int a1)] [] M (some (.int r.1), r.2) := by
  intro M r h
  unfold f_X11_count at h
  refine hr_Grun mf_X11_count lb_X11_count_0 (P := (hr_K 275 = 10 ∧ 275 < hr_n) ∧ True) (pc' := 8) (ls' := [some (.ref 275), some (.int a1)]) (st' := [.int 4, .int 0, .int a1]) (M' := hr_si M 275 0 0) rfl rfl ⟨⟨K_275, L_275⟩, trivial⟩ ?_
  refine hr_Fb h (fun v2 M2 e2 h => ?_)
  refine hr_Gcs mf_X11_count mf_X11_in lb_X11_count_8 (as := [.int a1, .int 0, .int 4]) (rest := []) (st2 := [.int v2]) (v := some (.int v2)) (M1 := M2) rfl rfl rfl rfl rfl rfl (g_X11_in a1 0 4 _ _ e2) rfl rfl ?_
  refine hr_Grun mf_X11_count lb_X11_count_11 (P := True) (pc' := if v2 = 0 then 23 else 14) (ls' := [some (.ref 275), some (.int a1)]) (st' := []) (M' := M2) rfl rfl trivial ?_
  refine hr_Gif h (fun _ h => ?_) (fun _ h => ?_)
  · refine hr_Grun mf_X11_count lb_X11_count_23 (P := True) (pc' := 25) (ls' := [some (.ref 275), some (.int a1)]) (st' := [.int (-2)]) (M' := M2) rfl rfl trivial ?_
    cases h
    exact hr_Gret mf_X11_count lb_X11_count_25 rfl rfl trivial
  · refine hr_Fg h (fun hg5_0 h => ?_)
    refine hr_Grun mf_X11_count lb_X11_count_14 (P := hr_K 275 = 10 ∧ (hr_K 280 = 12 ∧ vp_in a1 (hr_N 280)) ∧ True) (pc' := 25) (ls' := [some (.ref 275), some (.int a1)]) (st' := [.int (M2.1 280 a1.toNatClampNeg)]) (M' := M2) rfl rfl ⟨K_275, ⟨K_280, (inB_N N_280 hg5_0)⟩, trivial⟩ ?_
    cases h
    exact hr_Gret mf_X11_count lb_X11_count_25 rfl rfl trivial
theorem mf_X11_image : hr_mf 304 11 2 (some .boolean) 2 1 bk_X11_image := ⟨rfl, rfl, rfl, rfl, rfl, rfl⟩
theorem lb_X11_image_0 : bk_X11_image.lookup 0 = some [(.aload_n 0, 1), (.iconst 0, 1), (.putfield 100, 3), (.iload_n 1, 1), (.iconst 0, 1), (.iconst 2, 1)] := rfl
theorem lb_X11_image_8 : bk_X11_image.lookup 8 = some [(.invokestatic 112, 3)] := rfl
theorem lb_X11_image_11 : bk_X11_image.lookup 11 = some [(.ifCond .ne 5, 3)] := rfl
theorem lb_X11_image_14 : bk_X11_image.lookup 14 = some [(.iconst 0, 1)] := rfl
theorem lb_X11_image_15 : bk_X11_image.lookup 15 = some [(.ireturn, 1)] := rfl
theorem lb_X11_image_16 : bk_X11_image.lookup 16 = some [(.aload_n 0, 1), (.iconst 0, 1), (.iload_n 1, 1), (.iconst 1, 1), (.iadd, 1)] := rfl
theorem lb_X11_image_21 : bk_X11_image.lookup 21 = some [(.invokevirtual 577, 3)] := rfl
theorem lb_X11_image_24 : bk_X11_image.lookup 24 = some [(.aload_n 0, 1), (.getfield 97, 3), (.iload_n 1, 1), (.iconst 1, 1), (.bastore, 1), (.iconst 1, 1)] := rfl
theorem lb_X11_image_32 : bk_X11_image.lookup 32 = some [(.ireturn, 1)] := rfl
def f_X11_image (a1 : Int32) (M : PM) : Option (Int32 × PM) :=
  hr_bd (f_X11_in a1 0 2 (hr_si M 275 0 0)) (fun v2 M2 =>
  if v2 = 0 then
    some (0, M2)
  else
    hr_bd (f_X11_copyAll 0 (a1 + 1) M2) (fun v6 M6 =>
    if inB a1 3 = true then 
    some (1, hr_si M6 304 a1.toNatClampNeg (vp_nar .boolean 1)) else none))
theorem g_X11_image (a1 : Int32) : ∀ (M : PM) (r : Int32 × PM), f_X11_image a1 M = some r → hr_G 304 0 [some (.ref 275), some (.int a1)] [] M (some (.int r.1), r.2) := by
  intro M r h
  unfold f_X11_image at h
  refine hr_Grun mf_X11_image lb_X11_image_0 (P := (hr_K 275 = 10 ∧ 275 < hr_n) ∧ True) (pc' := 8) (ls' := [some (.ref 275), some (.int a1)]) (st' := [.int 2, .int 0, .int a1]) (M' := hr_si M 275 0 0) rfl rfl ⟨⟨K_275, L_275⟩, trivial⟩ ?_
  refine hr_Fb h (fun v2 M2 e2 h => ?_)
  refine hr_Gcs mf_X11_image mf_X11_in lb_X11_image_8 (as := [.int a1, .int 0, .int 2]) (rest := []) (st2 := [.int v2]) (v := some (.int v2)) (M1 := M2) rfl rfl rfl rfl rfl rfl (g_X11_in a1 0 2 _ _ e2) rfl rfl ?_
  refine hr_Grun mf_X11_image lb_X11_image_11 (P := True) (pc' := if v2 = 0 then 14 else 16) (ls' := [some (.ref 275), some (.int a1)]) (st' := []) (M' := M2) rfl rfl trivial ?_
  refine hr_Gif h (fun _ h => ?_) (fun _ h => ?_)
  · refine hr_Grun mf_X11_image lb_X11_image_14 (P := True) (pc' := 15) (ls' := [some (.ref 275), some (.int a1)]) (st' := [.int 0]) (M' := M2) rfl rfl trivial ?_
    cases h
    exact hr_Gret mf_X11_image lb_X11_image_15 rfl rfl (Or.inl rfl)
  · refine hr_Grun mf_X11_image lb_X11_image_16 (P := True) (pc' := 21) (ls' := [some (.ref 275), some (.int a1)]) (st' := [.int (a1 + 1), .int 0, .ref 275]) (M' := M2) rfl rfl trivial ?_
    refine hr_Fb h (fun v6 M6 e6 h => ?_)
    refine hr_Gcv mf_X11_image mf_X11_copyAll lb_X11_image_21 (b := 275) (as := [.int 0, .int (a1 + 1)]) (rest := []) (st2 := []) (v := none) (M1 := M6) rfl rfl rfl rfl rfl rfl K_275 (g_X11_copyAll 0 (a1 + 1) _ _ e6) rfl rfl ?_
    refine hr_Fg h (fun hg7_0 h => ?_)
    refine hr_Grun mf_X11_image lb_X11_image_24 (P := hr_K 275 = 10 ∧ (((hr_K 304 = 11 ∨ hr_K 304 = 14) ∧ 304 < hr_n) ∧ vp_in a1 (hr_N 304)) ∧ True) (pc' := 32) (ls' := [some (.ref 275), some (.int a1)]) (st' := [.int 1]) (M' := hr_si M6 304 a1.toNatClampNeg (vp_nar .boolean 1)) rfl rfl ⟨K_275, ⟨⟨Or.inr K_304, L_304⟩, (inB_N N_304 hg7_0)⟩, trivial⟩ ?_
    cases h
    exact hr_Gret mf_X11_image lb_X11_image_32 rfl rfl (Or.inr rfl)
theorem mf_X11_again : hr_mf 305 11 2 (some .boolean) 2 1 bk_X11_again := ⟨rfl, rfl, rfl, rfl, rfl, rfl⟩
theorem lb_X11_again_0 : bk_X11_again.lookup 0 = some [(.aload_n 0, 1), (.iconst 0, 1), (.putfield 100, 3), (.iload_n 1, 1), (.iconst 0, 1), (.iconst 2, 1)] := rfl
theorem lb_X11_again_8 : bk_X11_again.lookup 8 = some [(.invokestatic 112, 3)] := rfl
theorem lb_X11_again_11 : bk_X11_again.lookup 11 = some [(.ifCond .eq 12, 3)] := rfl
theorem lb_X11_again_14 : bk_X11_again.lookup 14 = some [(.aload_n 0, 1), (.getfield 97, 3), (.iload_n 1, 1), (.baload, 1), (.ifCond .ne 5, 3)] := rfl
theorem lb_X11_again_23 : bk_X11_again.lookup 23 = some [(.iconst 0, 1)] := rfl
theorem lb_X11_again_24 : bk_X11_again.lookup 24 = some [(.ireturn, 1)] := rfl
theorem lb_X11_again_25 : bk_X11_again.lookup 25 = some [(.aload_n 0, 1), (.iload_n 1, 1), (.iconst 1, 1), (.iadd, 1), (.iconst 0, 1)] := rfl
theorem lb_X11_again_30 : bk_X11_again.lookup 30 = some [(.invokevirtual 577, 3)] := rfl
theorem lb_X11_again_33 : bk_X11_again.lookup 33 = some [(.iconst 1, 1)] := rfl
theorem lb_X11_again_34 : bk_X11_again.lookup 34 = some [(.ireturn, 1)] := rfl
def f_X11_again (a1 : Int32) (M : PM) : Option (Int32 × PM) :=
  hr_bd (f_X11_in a1 0 2 (hr_si M 275 0 0)) (fun v2 M2 =>
  if v2 = 0 then
    some (0, M2)
  else
    if inB a1 3 = true then if (M2.1 304 a1.toNatClampNeg) = 0 then
      some (0, M2)
    else
      hr_bd (f_X11_copyAll (a1 + 1) 0 M2) (fun v8 M8 =>
      some (1, M8))
    else none)
theorem g_X11_again (a1 : Int32) : ∀ (M : PM) (r : Int32 × PM), f_X11_again a1 M = some r → hr_G 305 0 [some (.ref 275), some (.int a1)] [] M (some (.int r.1), r.2) := by
  intro M r h
  unfold f_X11_again at h
  refine hr_Grun mf_X11_again lb_X11_again_0 (P := (hr_K 275 = 10 ∧ 275 < hr_n) ∧ True) (pc' := 8) (ls' := [some (.ref 275), some (.int a1)]) (st' := [.int 2, .int 0, .int a1]) (M' := hr_si M 275 0 0) rfl rfl ⟨⟨K_275, L_275⟩, trivial⟩ ?_
  refine hr_Fb h (fun v2 M2 e2 h => ?_)
  refine hr_Gcs mf_X11_again mf_X11_in lb_X11_again_8 (as := [.int a1, .int 0, .int 2]) (rest := []) (st2 := [.int v2]) (v := some (.int v2)) (M1 := M2) rfl rfl rfl rfl rfl rfl (g_X11_in a1 0 2 _ _ e2) rfl rfl ?_
  refine hr_Grun mf_X11_again lb_X11_again_11 (P := True) (pc' := if v2 = 0 then 23 else 14) (ls' := [some (.ref 275), some (.int a1)]) (st' := []) (M' := M2) rfl rfl trivial ?_
  refine hr_Gif h (fun _ h => ?_) (fun _ h => ?_)
  · refine hr_Grun mf_X11_again lb_X11_again_23 (P := True) (pc' := 24) (ls' := [some (.ref 275), some (.int a1)]) (st' := [.int 0]) (M' := M2) rfl rfl trivial ?_
    cases h
    exact hr_Gret mf_X11_again lb_X11_again_24 rfl rfl (Or.inl rfl)
  · refine hr_Fg h (fun hg5_0 h => ?_)
    refine hr_Grun mf_X11_again lb_X11_again_14 (P := hr_K 275 = 10 ∧ ((hr_K 304 = 11 ∨ hr_K 304 = 14) ∧ vp_in a1 (hr_N 304)) ∧ True) (pc' := if (M2.1 304 a1.toNatClampNeg) = 0 then 23 else 25) (ls' := [some (.ref 275), some (.int a1)]) (st' := []) (M' := M2) rfl rfl ⟨K_275, ⟨Or.inr K_304, (inB_N N_304 hg5_0)⟩, trivial⟩ ?_
    refine hr_Gif h (fun _ h => ?_) (fun _ h => ?_)
    · refine hr_Grun mf_X11_again lb_X11_again_23 (P := True) (pc' := 24) (ls' := [some (.ref 275), some (.int a1)]) (st' := [.int 0]) (M' := M2) rfl rfl trivial ?_
      cases h
      exact hr_Gret mf_X11_again lb_X11_again_24 rfl rfl (Or.inl rfl)
    · refine hr_Grun mf_X11_again lb_X11_again_25 (P := True) (pc' := 30) (ls' := [some (.ref 275), some (.int a1)]) (st' := [.int 0, .int (a1 + 1), .ref 275]) (M' := M2) rfl rfl trivial ?_
      refine hr_Fb h (fun v8 M8 e8 h => ?_)
      refine hr_Gcv mf_X11_again mf_X11_copyAll lb_X11_again_30 (b := 275) (as := [.int (a1 + 1), .int 0]) (rest := []) (st2 := []) (v := none) (M1 := M8) rfl rfl rfl rfl rfl rfl K_275 (g_X11_copyAll (a1 + 1) 0 _ _ e8) rfl rfl ?_
      refine hr_Grun mf_X11_again lb_X11_again_33 (P := True) (pc' := 34) (ls' := [some (.ref 275), some (.int a1)]) (st' := [.int 1]) (M' := M8) rfl rfl trivial ?_
      cases h
      exact hr_Gret mf_X11_again lb_X11_again_34 rfl rfl (Or.inr rfl)
