/-! printed by wip/whole/gen/gen20.py: methods as functions of the pure memory -/
theorem mf_X11_follows : hr_mf 249 11 1 (some .boolean) 3 2 bk_X11_follows := ⟨rfl, rfl, rfl, rfl, rfl, rfl⟩
theorem lb_X11_follows_0 : bk_X11_follows.lookup 0 = some [(.aload_n 0, 1), (.aload_n 0, 1), (.getfield 71, 3), (.iload_n 1, 1), (.iaload, 1), (.aload_n 0, 1), (.getfield 71, 3), (.iload_n 2, 1), (.iaload, 1)] := rfl
theorem lb_X11_follows_13 : bk_X11_follows.lookup 13 = some [(.invokevirtual 314, 3)] := rfl
theorem lb_X11_follows_16 : bk_X11_follows.lookup 16 = some [(.ifCond .ne 7, 3)] := rfl
theorem lb_X11_follows_19 : bk_X11_follows.lookup 19 = some [(.iconst 1, 1), (.goto 4, 3)] := rfl
theorem lb_X11_follows_23 : bk_X11_follows.lookup 23 = some [(.iconst 0, 1)] := rfl
theorem lb_X11_follows_24 : bk_X11_follows.lookup 24 = some [(.ireturn, 1)] := rfl
def f_X11_follows (a1 : Int32) (a2 : Int32) (M : PM) : Option (Int32 × PM) :=
  if inB a1 10 = true then if inB a2 10 = true then 
  hr_bd (f_X11_clash (M.1 296 a1.toNatClampNeg) (M.1 296 a2.toNatClampNeg) M) (fun v2 M2 =>
  if v2 = 0 then
    some (1, M2)
  else
    some (0, M2)) else none else none
theorem g_X11_follows (a1 : Int32) (a2 : Int32) : ∀ (M : PM) (r : Int32 × PM), f_X11_follows a1 a2 M = some r → hr_G 249 0 [some (.ref 275), some (.int a1), some (.int a2)] [] M (some (.int r.1), r.2) := by
  intro M r h
  unfold f_X11_follows at h
  refine hr_Fg h (fun hg1_0 h => ?_)
  refine hr_Fg h (fun hg1_1 h => ?_)
  refine hr_Grun mf_X11_follows lb_X11_follows_0 (P := hr_K 275 = 10 ∧ (hr_K 296 = 12 ∧ vp_in a1 (hr_N 296)) ∧ hr_K 275 = 10 ∧ (hr_K 296 = 12 ∧ vp_in a2 (hr_N 296)) ∧ True) (pc' := 13) (ls' := [some (.ref 275), some (.int a1), some (.int a2)]) (st' := [.int (M.1 296 a2.toNatClampNeg), .int (M.1 296 a1.toNatClampNeg), .ref 275]) (M' := M) rfl rfl ⟨K_275, ⟨K_296, (inB_N N_296 hg1_0)⟩, K_275, ⟨K_296, (inB_N N_296 hg1_1)⟩, trivial⟩ ?_
  refine hr_Fb h (fun v2 M2 e2 h => ?_)
  refine hr_Gcv mf_X11_follows mf_X11_clash lb_X11_follows_13 (b := 275) (as := [.int (M.1 296 a1.toNatClampNeg), .int (M.1 296 a2.toNatClampNeg)]) (rest := []) (st2 := [.int v2]) (v := some (.int v2)) (M1 := M2) rfl rfl rfl rfl rfl rfl K_275 (g_X11_clash (M.1 296 a1.toNatClampNeg) (M.1 296 a2.toNatClampNeg) _ _ e2) rfl rfl ?_
  refine hr_Grun mf_X11_follows lb_X11_follows_16 (P := True) (pc' := if v2 = 0 then 19 else 23) (ls' := [some (.ref 275), some (.int a1), some (.int a2)]) (st' := []) (M' := M2) rfl rfl trivial ?_
  refine hr_Gif h (fun _ h => ?_) (fun _ h => ?_)
  · refine hr_Grun mf_X11_follows lb_X11_follows_19 (P := True) (pc' := 24) (ls' := [some (.ref 275), some (.int a1), some (.int a2)]) (st' := [.int 1]) (M' := M2) rfl rfl trivial ?_
    cases h
    exact hr_Gret mf_X11_follows lb_X11_follows_24 rfl rfl (Or.inr rfl)
  · refine hr_Grun mf_X11_follows lb_X11_follows_23 (P := True) (pc' := 24) (ls' := [some (.ref 275), some (.int a1), some (.int a2)]) (st' := [.int 0]) (M' := M2) rfl rfl trivial ?_
    cases h
    exact hr_Gret mf_X11_follows lb_X11_follows_24 rfl rfl (Or.inl rfl)
theorem mf_X11_findBehind : hr_mf 250 11 2 none 7 0 bk_X11_findBehind := ⟨rfl, rfl, rfl, rfl, rfl, rfl⟩
theorem lb_X11_findBehind_0 : bk_X11_findBehind.lookup 0 = some [(.iconst 1, 1), (.aload_n 0, 1), (.getfield 432, 3), (.ishl, 1), (.iconst 1, 1), (.isub, 1), (.istore_n 1, 1), (.iload_n 1, 1), (.istore_n 2, 1)] := rfl
theorem lb_X11_findBehind_11 : bk_X11_findBehind.lookup 11 = some [(.iload_n 2, 1), (.ifCond .le 133, 3)] := rfl
theorem lb_X11_findBehind_15 : bk_X11_findBehind.lookup 15 = some [(.iconst 0, 1), (.istore_n 3, 1)] := rfl
theorem lb_X11_findBehind_17 : bk_X11_findBehind.lookup 17 = some [(.iload_n 3, 1), (.aload_n 0, 1), (.getfield 432, 3), (.if_icmp .ge 117, 3)] := rfl
theorem lb_X11_findBehind_25 : bk_X11_findBehind.lookup 25 = some [(.iload_n 2, 1), (.iload_n 1, 1), (.if_icmp .ne 7, 3)] := rfl
theorem lb_X11_findBehind_30 : bk_X11_findBehind.lookup 30 = some [(.lconst 1, 1), (.goto 4, 3)] := rfl
theorem lb_X11_findBehind_34 : bk_X11_findBehind.lookup 34 = some [(.lconst 0, 1)] := rfl
theorem lb_X11_findBehind_35 : bk_X11_findBehind.lookup 35 = some [(.lstore 4, 2), (.iconst 0, 1), (.istore 6, 2)] := rfl
theorem lb_X11_findBehind_40 : bk_X11_findBehind.lookup 40 = some [(.iload 6, 2), (.aload_n 0, 1), (.getfield 432, 3), (.if_icmp .ge 62, 3)] := rfl
theorem lb_X11_findBehind_49 : bk_X11_findBehind.lookup 49 = some [(.iload_n 2, 1), (.iload_n 3, 1)] := rfl
theorem lb_X11_findBehind_51 : bk_X11_findBehind.lookup 51 = some [(.invokestatic 104, 3)] := rfl
theorem lb_X11_findBehind_54 : bk_X11_findBehind.lookup 54 = some [(.ifCond .eq 54, 3)] := rfl
theorem lb_X11_findBehind_57 : bk_X11_findBehind.lookup 57 = some [(.lload 4, 2), (.iload_n 2, 1), (.iload 6, 2)] := rfl
theorem lb_X11_findBehind_62 : bk_X11_findBehind.lookup 62 = some [(.invokestatic 104, 3)] := rfl
theorem lb_X11_findBehind_65 : bk_X11_findBehind.lookup 65 = some [(.ifCond .ne 33, 3)] := rfl
theorem lb_X11_findBehind_68 : bk_X11_findBehind.lookup 68 = some [(.aload_n 0, 1), (.iload_n 3, 1), (.iload 6, 2)] := rfl
theorem lb_X11_findBehind_72 : bk_X11_findBehind.lookup 72 = some [(.invokevirtual 435, 3)] := rfl
theorem lb_X11_findBehind_75 : bk_X11_findBehind.lookup 75 = some [(.ifCond .eq 23, 3)] := rfl
theorem lb_X11_findBehind_78 : bk_X11_findBehind.lookup 78 = some [(.aload_n 0, 1), (.getfield 74, 3), (.bipush 10, 2), (.iload_n 2, 1), (.iconst 1, 1), (.iload 6, 2), (.ishl, 1), (.ior, 1), (.imul, 1), (.iload 6, 2), (.iadd, 1), (.laload, 1), (.goto 4, 3)] := rfl
theorem lb_X11_findBehind_98 : bk_X11_findBehind.lookup 98 = some [(.lconst 0, 1)] := rfl
theorem lb_X11_findBehind_99 : bk_X11_findBehind.lookup 99 = some [(.ladd, 1), (.lstore 4, 2), (.iinc 6 1, 3), (.goto (-65), 3)] := rfl
theorem lb_X11_findBehind_108 : bk_X11_findBehind.lookup 108 = some [(.aload_n 0, 1), (.getfield 74, 3), (.bipush 10, 2), (.iload_n 2, 1), (.imul, 1), (.iload_n 3, 1), (.iadd, 1), (.iload_n 2, 1), (.iload_n 3, 1)] := rfl
theorem lb_X11_findBehind_120 : bk_X11_findBehind.lookup 120 = some [(.invokestatic 104, 3)] := rfl
theorem lb_X11_findBehind_123 : bk_X11_findBehind.lookup 123 = some [(.ifCond .eq 8, 3)] := rfl
theorem lb_X11_findBehind_126 : bk_X11_findBehind.lookup 126 = some [(.lload 4, 2), (.goto 4, 3)] := rfl
theorem lb_X11_findBehind_131 : bk_X11_findBehind.lookup 131 = some [(.lconst 0, 1)] := rfl
theorem lb_X11_findBehind_132 : bk_X11_findBehind.lookup 132 = some [(.lastore, 1), (.iinc 3 1, 3), (.goto (-119), 3)] := rfl
theorem lb_X11_findBehind_139 : bk_X11_findBehind.lookup 139 = some [(.iinc 2 (-1), 3), (.goto (-131), 3)] := rfl
theorem lb_X11_findBehind_145 : bk_X11_findBehind.lookup 145 = some [(.return_, 1)] := rfl
def f_X11_findBehind_108  (k11 : Int32 → Int32 → PM → Option (Unit × PM)) (k17 : Int32 → Int32 → Int32 → PM → Option (Unit × PM)) (x1 : Int32) (x2 : Int32) (x3 : Int32) (x4 : Int64) (M : PM) : Option (Unit × PM) :=
  hr_bd (f_X11_has x2 x3 M) (fun v2 M2 =>
  if v2 = 0 then
    if inB ((10 * x2) + x3) 10240 = true then 
    k17 x1 x2 (x3 + 1) (hr_sl M2 297 ((10 * x2) + x3).toNatClampNeg 0) else none
  else
    if inB ((10 * x2) + x3) 10240 = true then 
    k17 x1 x2 (x3 + 1) (hr_sl M2 297 ((10 * x2) + x3).toNatClampNeg x4) else none)
theorem g_X11_findBehind_108   (k11 : Int32 → Int32 → PM → Option (Unit × PM)) (k17 : Int32 → Int32 → Int32 → PM → Option (Unit × PM)) (hk11 : ∀ (x1 : Int32) (x2 : Int32) (M : PM) (r : Unit × PM), k11 x1 x2 M = some r → hr_G 250 11 [some (.ref 275), some (.int x1), some (.int x2), none, none, none, none] [] M (none, r.2)) (hk17 : ∀ (x1 : Int32) (x2 : Int32) (x3 : Int32) (M : PM) (r : Unit × PM), k17 x1 x2 x3 M = some r → hr_G 250 17 [some (.ref 275), some (.int x1), some (.int x2), some (.int x3), none, none, none] [] M (none, r.2)) : ∀ (x1 : Int32) (x2 : Int32) (x3 : Int32) (x4 : Int64) (M : PM) (r : Unit × PM), f_X11_findBehind_108 k11 k17 x1 x2 x3 x4 M = some r → hr_G 250 108 [some (.ref 275), some (.int x1), some (.int x2), some (.int x3), some (.long x4), none, none] [] M (none, r.2) := by
  intro x1 x2 x3 x4 M r h
  unfold f_X11_findBehind_108 at h
  refine hr_Grun mf_X11_findBehind lb_X11_findBehind_108 (P := hr_K 275 = 10 ∧ True) (pc' := 120) (ls' := [some (.ref 275), some (.int x1), some (.int x2), some (.int x3), some (.long x4), none, none]) (st' := [.int x3, .int x2, .int ((10 * x2) + x3), .ref 297]) (M' := M) rfl rfl ⟨K_275, trivial⟩ ?_
  refine hr_Fb h (fun v2 M2 e2 h => ?_)
  refine hr_Gcs mf_X11_findBehind mf_X11_has lb_X11_findBehind_120 (as := [.int x2, .int x3]) (rest := [.int ((10 * x2) + x3), .ref 297]) (st2 := [.int v2, .int ((10 * x2) + x3), .ref 297]) (v := some (.int v2)) (M1 := M2) rfl rfl rfl rfl rfl rfl (g_X11_has x2 x3 _ _ e2) rfl rfl ?_
  refine hr_Grun mf_X11_findBehind lb_X11_findBehind_123 (P := True) (pc' := if v2 = 0 then 131 else 126) (ls' := [some (.ref 275), some (.int x1), some (.int x2), some (.int x3), some (.long x4), none, none]) (st' := [.int ((10 * x2) + x3), .ref 297]) (M' := M2) rfl rfl trivial ?_
  refine hr_Gif h (fun _ h => ?_) (fun _ h => ?_)
  · refine hr_Grun mf_X11_findBehind lb_X11_findBehind_131 (P := True) (pc' := 132) (ls' := [some (.ref 275), some (.int x1), some (.int x2), some (.int x3), some (.long x4), none, none]) (st' := [.long 0, .int ((10 * x2) + x3), .ref 297]) (M' := M2) rfl rfl trivial ?_
    refine hr_Fg h (fun hg5_0 h => ?_)
    refine hr_Grun mf_X11_findBehind lb_X11_findBehind_132 (P := ((hr_K 297 = 13 ∧ 297 < hr_n) ∧ vp_in ((10 * x2) + x3) (hr_N 297)) ∧ True) (pc' := 17) (ls' := [some (.ref 275), some (.int x1), some (.int x2), some (.int (x3 + 1)), some (.long x4), none, none]) (st' := []) (M' := hr_sl M2 297 ((10 * x2) + x3).toNatClampNeg 0) rfl rfl ⟨⟨⟨K_297, L_297⟩, (inB_N N_297 hg5_0)⟩, trivial⟩ ?_
    refine hr_Gle (ls := [some (.ref 275), some (.int x1), some (.int x2), some (.int (x3 + 1)), none, none, none]) (hr_le_s (hr_le_s (hr_le_s (hr_le_s (hr_le_n (hr_le_n (hr_le_n hr_le_0))))))) ?_
    exact hk17 x1 x2 (x3 + 1) (hr_sl M2 297 ((10 * x2) + x3).toNatClampNeg 0) _ h
  · refine hr_Grun mf_X11_findBehind lb_X11_findBehind_126 (P := True) (pc' := 132) (ls' := [some (.ref 275), some (.int x1), some (.int x2), some (.int x3), some (.long x4), none, none]) (st' := [.long x4, .int ((10 * x2) + x3), .ref 297]) (M' := M2) rfl rfl trivial ?_
    refine hr_Fg h (fun hg7_0 h => ?_)
    refine hr_Grun mf_X11_findBehind lb_X11_findBehind_132 (P := ((hr_K 297 = 13 ∧ 297 < hr_n) ∧ vp_in ((10 * x2) + x3) (hr_N 297)) ∧ True) (pc' := 17) (ls' := [some (.ref 275), some (.int x1), some (.int x2), some (.int (x3 + 1)), some (.long x4), none, none]) (st' := []) (M' := hr_sl M2 297 ((10 * x2) + x3).toNatClampNeg x4) rfl rfl ⟨⟨⟨K_297, L_297⟩, (inB_N N_297 hg7_0)⟩, trivial⟩ ?_
    refine hr_Gle (ls := [some (.ref 275), some (.int x1), some (.int x2), some (.int (x3 + 1)), none, none, none]) (hr_le_s (hr_le_s (hr_le_s (hr_le_s (hr_le_n (hr_le_n (hr_le_n hr_le_0))))))) ?_
    exact hk17 x1 x2 (x3 + 1) (hr_sl M2 297 ((10 * x2) + x3).toNatClampNeg x4) _ h
def f_X11_findBehind_40  (k11 : Int32 → Int32 → PM → Option (Unit × PM)) (k17 : Int32 → Int32 → Int32 → PM → Option (Unit × PM)) : Nat → Int32 → Int32 → Int32 → Int64 → Int32 → PM → Option (Unit × PM)
  | 0, _, _, _, _, _, _ => none
  | f + 1, x1, x2, x3, x4, x6, M =>
    if (M.1 275 41) ≤ x6 then
      f_X11_findBehind_108 k11 k17 x1 x2 x3 x4 M
    else
      hr_bd (f_X11_has x2 x3 M) (fun v3 M3 =>
      if v3 = 0 then
        f_X11_findBehind_108 k11 k17 x1 x2 x3 x4 M3
      else
        hr_bd (f_X11_has x2 x6 M3) (fun v6 M6 =>
        if v6 = 0 then
          hr_bd (f_X11_follows x3 x6 M6) (fun v9 M9 =>
          if v9 = 0 then
            f_X11_findBehind_40 k11 k17 f x1 x2 x3 (x4 + 0) (x6 + 1) M9
          else
            if inB ((10 * (x2 ||| (jl 1 x6))) + x6) 10240 = true then 
            f_X11_findBehind_40 k11 k17 f x1 x2 x3 (x4 + (M9.2.1 297 ((10 * (x2 ||| (jl 1 x6))) + x6).toNatClampNeg)) (x6 + 1) M9 else none)
        else
          f_X11_findBehind_40 k11 k17 f x1 x2 x3 (x4 + 0) (x6 + 1) M6))
theorem g_X11_findBehind_40   (k11 : Int32 → Int32 → PM → Option (Unit × PM)) (k17 : Int32 → Int32 → Int32 → PM → Option (Unit × PM)) (hk11 : ∀ (x1 : Int32) (x2 : Int32) (M : PM) (r : Unit × PM), k11 x1 x2 M = some r → hr_G 250 11 [some (.ref 275), some (.int x1), some (.int x2), none, none, none, none] [] M (none, r.2)) (hk17 : ∀ (x1 : Int32) (x2 : Int32) (x3 : Int32) (M : PM) (r : Unit × PM), k17 x1 x2 x3 M = some r → hr_G 250 17 [some (.ref 275), some (.int x1), some (.int x2), some (.int x3), none, none, none] [] M (none, r.2)) : ∀ (f : Nat) (x1 : Int32) (x2 : Int32) (x3 : Int32) (x4 : Int64) (x6 : Int32) (M : PM) (r : Unit × PM), f_X11_findBehind_40 k11 k17 f x1 x2 x3 x4 x6 M = some r → hr_G 250 40 [some (.ref 275), some (.int x1), some (.int x2), some (.int x3), some (.long x4), none, some (.int x6)] [] M (none, r.2) := by
  intro f
  induction f with
  | zero => intro x1 x2 x3 x4 x6 M r h; cases h
  | succ f ih =>
    intro x1 x2 x3 x4 x6 M r h
    rw [f_X11_findBehind_40.eq_2] at h
    refine hr_Grun mf_X11_findBehind lb_X11_findBehind_40 (P := hr_K 275 = 10 ∧ True) (pc' := if (M.1 275 41) ≤ x6 then 108 else 49) (ls' := [some (.ref 275), some (.int x1), some (.int x2), some (.int x3), some (.long x4), none, some (.int x6)]) (st' := []) (M' := M) rfl rfl ⟨K_275, trivial⟩ ?_
    refine hr_Gif h (fun _ h => ?_) (fun _ h => ?_)
    · refine hr_Gle (ls := [some (.ref 275), some (.int x1), some (.int x2), some (.int x3), some (.long x4), none, none]) (hr_le_s (hr_le_s (hr_le_s (hr_le_s (hr_le_s (hr_le_n (hr_le_n hr_le_0))))))) ?_
      exact g_X11_findBehind_108 k11 k17 hk11 hk17 x1 x2 x3 x4 M _ h
    · refine hr_Grun mf_X11_findBehind lb_X11_findBehind_49 (P := True) (pc' := 51) (ls' := [some (.ref 275), some (.int x1), some (.int x2), some (.int x3), some (.long x4), none, some (.int x6)]) (st' := [.int x3, .int x2]) (M' := M) rfl rfl trivial ?_
      refine hr_Fb h (fun v3 M3 e3 h => ?_)
      refine hr_Gcs mf_X11_findBehind mf_X11_has lb_X11_findBehind_51 (as := [.int x2, .int x3]) (rest := []) (st2 := [.int v3]) (v := some (.int v3)) (M1 := M3) rfl rfl rfl rfl rfl rfl (g_X11_has x2 x3 _ _ e3) rfl rfl ?_
      refine hr_Grun mf_X11_findBehind lb_X11_findBehind_54 (P := True) (pc' := if v3 = 0 then 108 else 57) (ls' := [some (.ref 275), some (.int x1), some (.int x2), some (.int x3), some (.long x4), none, some (.int x6)]) (st' := []) (M' := M3) rfl rfl trivial ?_
      refine hr_Gif h (fun _ h => ?_) (fun _ h => ?_)
      · refine hr_Gle (ls := [some (.ref 275), some (.int x1), some (.int x2), some (.int x3), some (.long x4), none, none]) (hr_le_s (hr_le_s (hr_le_s (hr_le_s (hr_le_s (hr_le_n (hr_le_n hr_le_0))))))) ?_
        exact g_X11_findBehind_108 k11 k17 hk11 hk17 x1 x2 x3 x4 M3 _ h
      · refine hr_Grun mf_X11_findBehind lb_X11_findBehind_57 (P := True) (pc' := 62) (ls' := [some (.ref 275), some (.int x1), some (.int x2), some (.int x3), some (.long x4), none, some (.int x6)]) (st' := [.int x6, .int x2, .long x4]) (M' := M3) rfl rfl trivial ?_
        refine hr_Fb h (fun v6 M6 e6 h => ?_)
        refine hr_Gcs mf_X11_findBehind mf_X11_has lb_X11_findBehind_62 (as := [.int x2, .int x6]) (rest := [.long x4]) (st2 := [.int v6, .long x4]) (v := some (.int v6)) (M1 := M6) rfl rfl rfl rfl rfl rfl (g_X11_has x2 x6 _ _ e6) rfl rfl ?_
        refine hr_Grun mf_X11_findBehind lb_X11_findBehind_65 (P := True) (pc' := if v6 = 0 then 68 else 98) (ls' := [some (.ref 275), some (.int x1), some (.int x2), some (.int x3), some (.long x4), none, some (.int x6)]) (st' := [.long x4]) (M' := M6) rfl rfl trivial ?_
        refine hr_Gif h (fun _ h => ?_) (fun _ h => ?_)
        · refine hr_Grun mf_X11_findBehind lb_X11_findBehind_68 (P := True) (pc' := 72) (ls' := [some (.ref 275), some (.int x1), some (.int x2), some (.int x3), some (.long x4), none, some (.int x6)]) (st' := [.int x6, .int x3, .ref 275, .long x4]) (M' := M6) rfl rfl trivial ?_
          refine hr_Fb h (fun v9 M9 e9 h => ?_)
          refine hr_Gcv mf_X11_findBehind mf_X11_follows lb_X11_findBehind_72 (b := 275) (as := [.int x3, .int x6]) (rest := [.long x4]) (st2 := [.int v9, .long x4]) (v := some (.int v9)) (M1 := M9) rfl rfl rfl rfl rfl rfl K_275 (g_X11_follows x3 x6 _ _ e9) rfl rfl ?_
          refine hr_Grun mf_X11_findBehind lb_X11_findBehind_75 (P := True) (pc' := if v9 = 0 then 98 else 78) (ls' := [some (.ref 275), some (.int x1), some (.int x2), some (.int x3), some (.long x4), none, some (.int x6)]) (st' := [.long x4]) (M' := M9) rfl rfl trivial ?_
          refine hr_Gif h (fun _ h => ?_) (fun _ h => ?_)
          · refine hr_Grun mf_X11_findBehind lb_X11_findBehind_98 (P := True) (pc' := 99) (ls' := [some (.ref 275), some (.int x1), some (.int x2), some (.int x3), some (.long x4), none, some (.int x6)]) (st' := [.long 0, .long x4]) (M' := M9) rfl rfl trivial ?_
            refine hr_Grun mf_X11_findBehind lb_X11_findBehind_99 (P := True) (pc' := 40) (ls' := [some (.ref 275), some (.int x1), some (.int x2), some (.int x3), some (.long (x4 + 0)), none, some (.int (x6 + 1))]) (st' := []) (M' := M9) rfl rfl trivial ?_
            exact ih x1 x2 x3 (x4 + 0) (x6 + 1) M9 _ h
          · refine hr_Fg h (fun hg13_0 h => ?_)
            refine hr_Grun mf_X11_findBehind lb_X11_findBehind_78 (P := hr_K 275 = 10 ∧ (hr_K 297 = 13 ∧ vp_in ((10 * (x2 ||| (jl 1 x6))) + x6) (hr_N 297)) ∧ True) (pc' := 99) (ls' := [some (.ref 275), some (.int x1), some (.int x2), some (.int x3), some (.long x4), none, some (.int x6)]) (st' := [.long (M9.2.1 297 ((10 * (x2 ||| (jl 1 x6))) + x6).toNatClampNeg), .long x4]) (M' := M9) rfl rfl ⟨K_275, ⟨K_297, (inB_N N_297 hg13_0)⟩, trivial⟩ ?_
            refine hr_Grun mf_X11_findBehind lb_X11_findBehind_99 (P := True) (pc' := 40) (ls' := [some (.ref 275), some (.int x1), some (.int x2), some (.int x3), some (.long (x4 + (M9.2.1 297 ((10 * (x2 ||| (jl 1 x6))) + x6).toNatClampNeg))), none, some (.int (x6 + 1))]) (st' := []) (M' := M9) rfl rfl trivial ?_
            exact ih x1 x2 x3 (x4 + (M9.2.1 297 ((10 * (x2 ||| (jl 1 x6))) + x6).toNatClampNeg)) (x6 + 1) M9 _ h
        · refine hr_Grun mf_X11_findBehind lb_X11_findBehind_98 (P := True) (pc' := 99) (ls' := [some (.ref 275), some (.int x1), some (.int x2), some (.int x3), some (.long x4), none, some (.int x6)]) (st' := [.long 0, .long x4]) (M' := M6) rfl rfl trivial ?_
          refine hr_Grun mf_X11_findBehind lb_X11_findBehind_99 (P := True) (pc' := 40) (ls' := [some (.ref 275), some (.int x1), some (.int x2), some (.int x3), some (.long (x4 + 0)), none, some (.int (x6 + 1))]) (st' := []) (M' := M6) rfl rfl trivial ?_
          exact ih x1 x2 x3 (x4 + 0) (x6 + 1) M6 _ h
def f_X11_findBehind_17  (k11 : Int32 → Int32 → PM → Option (Unit × PM)) : Nat → Int32 → Int32 → Int32 → PM → Option (Unit × PM)
  | 0, _, _, _, _ => none
  | f + 1, x1, x2, x3, M =>
    if (M.1 275 41) ≤ x3 then
      k11 x1 (x2 + (-1)) M
    else
      if x2 = x1 then
        f_X11_findBehind_40 k11 (fun x1 x2 x3 M => f_X11_findBehind_17 k11 f x1 x2 x3 M) FU x1 x2 x3 1 0 M
      else
        f_X11_findBehind_40 k11 (fun x1 x2 x3 M => f_X11_findBehind_17 k11 f x1 x2 x3 M) FU x1 x2 x3 0 0 M
theorem g_X11_findBehind_17   (k11 : Int32 → Int32 → PM → Option (Unit × PM)) (hk11 : ∀ (x1 : Int32) (x2 : Int32) (M : PM) (r : Unit × PM), k11 x1 x2 M = some r → hr_G 250 11 [some (.ref 275), some (.int x1), some (.int x2), none, none, none, none] [] M (none, r.2)) : ∀ (f : Nat) (x1 : Int32) (x2 : Int32) (x3 : Int32) (M : PM) (r : Unit × PM), f_X11_findBehind_17 k11 f x1 x2 x3 M = some r → hr_G 250 17 [some (.ref 275), some (.int x1), some (.int x2), some (.int x3), none, none, none] [] M (none, r.2) := by
  intro f
  induction f with
  | zero => intro x1 x2 x3 M r h; cases h
  | succ f ih =>
    intro x1 x2 x3 M r h
    rw [f_X11_findBehind_17.eq_2] at h
    refine hr_Grun mf_X11_findBehind lb_X11_findBehind_17 (P := hr_K 275 = 10 ∧ True) (pc' := if (M.1 275 41) ≤ x3 then 139 else 25) (ls' := [some (.ref 275), some (.int x1), some (.int x2), some (.int x3), none, none, none]) (st' := []) (M' := M) rfl rfl ⟨K_275, trivial⟩ ?_
    refine hr_Gif h (fun _ h => ?_) (fun _ h => ?_)
    · refine hr_Grun mf_X11_findBehind lb_X11_findBehind_139 (P := True) (pc' := 11) (ls' := [some (.ref 275), some (.int x1), some (.int (x2 + (-1))), some (.int x3), none, none, none]) (st' := []) (M' := M) rfl rfl trivial ?_
      refine hr_Gle (ls := [some (.ref 275), some (.int x1), some (.int (x2 + (-1))), none, none, none, none]) (hr_le_s (hr_le_s (hr_le_s (hr_le_n (hr_le_n (hr_le_n (hr_le_n hr_le_0))))))) ?_
      exact hk11 x1 (x2 + (-1)) M _ h
    · refine hr_Grun mf_X11_findBehind lb_X11_findBehind_25 (P := True) (pc' := if x2 = x1 then 30 else 34) (ls' := [some (.ref 275), some (.int x1), some (.int x2), some (.int x3), none, none, none]) (st' := []) (M' := M) rfl rfl trivial ?_
      refine hr_Gif h (fun _ h => ?_) (fun _ h => ?_)
      · refine hr_Grun mf_X11_findBehind lb_X11_findBehind_30 (P := True) (pc' := 35) (ls' := [some (.ref 275), some (.int x1), some (.int x2), some (.int x3), none, none, none]) (st' := [.long 1]) (M' := M) rfl rfl trivial ?_
        refine hr_Grun mf_X11_findBehind lb_X11_findBehind_35 (P := True) (pc' := 40) (ls' := [some (.ref 275), some (.int x1), some (.int x2), some (.int x3), some (.long 1), none, some (.int 0)]) (st' := []) (M' := M) rfl rfl trivial ?_
        exact g_X11_findBehind_40 k11 (fun x1 x2 x3 M => f_X11_findBehind_17 k11 f x1 x2 x3 M) hk11 (fun x1 x2 x3 M r h => ih x1 x2 x3 M r h) FU x1 x2 x3 1 0 M _ h
      · refine hr_Grun mf_X11_findBehind lb_X11_findBehind_34 (P := True) (pc' := 35) (ls' := [some (.ref 275), some (.int x1), some (.int x2), some (.int x3), none, none, none]) (st' := [.long 0]) (M' := M) rfl rfl trivial ?_
        refine hr_Grun mf_X11_findBehind lb_X11_findBehind_35 (P := True) (pc' := 40) (ls' := [some (.ref 275), some (.int x1), some (.int x2), some (.int x3), some (.long 0), none, some (.int 0)]) (st' := []) (M' := M) rfl rfl trivial ?_
        exact g_X11_findBehind_40 k11 (fun x1 x2 x3 M => f_X11_findBehind_17 k11 f x1 x2 x3 M) hk11 (fun x1 x2 x3 M r h => ih x1 x2 x3 M r h) FU x1 x2 x3 0 0 M _ h
def f_X11_findBehind_11  : Nat → Int32 → Int32 → PM → Option (Unit × PM)
  | 0, _, _, _ => none
  | f + 1, x1, x2, M =>
    if x2 ≤ 0 then
      some ((), M)
    else
      f_X11_findBehind_17 (fun x1 x2 M => f_X11_findBehind_11 f x1 x2 M) FU x1 x2 0 M
theorem g_X11_findBehind_11   : ∀ (f : Nat) (x1 : Int32) (x2 : Int32) (M : PM) (r : Unit × PM), f_X11_findBehind_11 f x1 x2 M = some r → hr_G 250 11 [some (.ref 275), some (.int x1), some (.int x2), none, none, none, none] [] M (none, r.2) := by
  intro f
  induction f with
  | zero => intro x1 x2 M r h; cases h
  | succ f ih =>
    intro x1 x2 M r h
    rw [f_X11_findBehind_11.eq_2] at h
    refine hr_Grun mf_X11_findBehind lb_X11_findBehind_11 (P := True) (pc' := if x2 ≤ 0 then 145 else 15) (ls' := [some (.ref 275), some (.int x1), some (.int x2), none, none, none, none]) (st' := []) (M' := M) rfl rfl trivial ?_
    refine hr_Gif h (fun _ h => ?_) (fun _ h => ?_)
    · cases h
      exact hr_Gret mf_X11_findBehind lb_X11_findBehind_145 rfl rfl trivial
    · refine hr_Grun mf_X11_findBehind lb_X11_findBehind_15 (P := True) (pc' := 17) (ls' := [some (.ref 275), some (.int x1), some (.int x2), some (.int 0), none, none, none]) (st' := []) (M' := M) rfl rfl trivial ?_
      exact g_X11_findBehind_17 (fun x1 x2 M => f_X11_findBehind_11 f x1 x2 M) (fun x1 x2 M r h => ih x1 x2 M r h) FU x1 x2 0 M _ h
def f_X11_findBehind (M : PM) : Option (Unit × PM) :=
  f_X11_findBehind_11 FU ((jl 1 (M.1 275 41)) - 1) ((jl 1 (M.1 275 41)) - 1) M
theorem g_X11_findBehind  : ∀ (M : PM) (r : Unit × PM), f_X11_findBehind M = some r → hr_G 250 0 [some (.ref 275), none, none, none, none, none, none] [] M (none, r.2) := by
  intro M r h
  unfold f_X11_findBehind at h
  refine hr_Grun mf_X11_findBehind lb_X11_findBehind_0 (P := hr_K 275 = 10 ∧ True) (pc' := 11) (ls' := [some (.ref 275), some (.int ((jl 1 (M.1 275 41)) - 1)), some (.int ((jl 1 (M.1 275 41)) - 1)), none, none, none, none]) (st' := []) (M' := M) rfl rfl ⟨K_275, trivial⟩ ?_
  exact g_X11_findBehind_11 FU ((jl 1 (M.1 275 41)) - 1) ((jl 1 (M.1 275 41)) - 1) M _ h
theorem mf_X11_allRows : hr_mf 251 11 3 (some .long) 4 0 bk_X11_allRows := ⟨rfl, rfl, rfl, rfl, rfl, rfl⟩
theorem lb_X11_allRows_0 : bk_X11_allRows.lookup 0 = some [(.aload_n 0, 1)] := rfl
theorem lb_X11_allRows_1 : bk_X11_allRows.lookup 1 = some [(.invokevirtual 438, 3)] := rfl
theorem lb_X11_allRows_4 : bk_X11_allRows.lookup 4 = some [(.aload_n 0, 1), (.getfield 432, 3), (.ifCond .ne 7, 3)] := rfl
theorem lb_X11_allRows_11 : bk_X11_allRows.lookup 11 = some [(.lconst 1, 1), (.goto 4, 3)] := rfl
theorem lb_X11_allRows_15 : bk_X11_allRows.lookup 15 = some [(.lconst 0, 1)] := rfl
theorem lb_X11_allRows_16 : bk_X11_allRows.lookup 16 = some [(.lstore_n 1, 1), (.iconst 0, 1), (.istore_n 3, 1)] := rfl
theorem lb_X11_allRows_19 : bk_X11_allRows.lookup 19 = some [(.iload_n 3, 1), (.aload_n 0, 1), (.getfield 432, 3), (.if_icmp .ge 25, 3)] := rfl
theorem lb_X11_allRows_27 : bk_X11_allRows.lookup 27 = some [(.lload_n 1, 1), (.aload_n 0, 1), (.getfield 74, 3), (.bipush 10, 2), (.iconst 1, 1), (.iload_n 3, 1), (.ishl, 1), (.imul, 1), (.iload_n 3, 1), (.iadd, 1), (.laload, 1), (.ladd, 1), (.lstore_n 1, 1), (.iinc 3 1, 3), (.goto (-27), 3)] := rfl
theorem lb_X11_allRows_49 : bk_X11_allRows.lookup 49 = some [(.lload_n 1, 1)] := rfl
theorem lb_X11_allRows_50 : bk_X11_allRows.lookup 50 = some [(.lreturn, 1)] := rfl
def f_X11_allRows_19  : Nat → Int64 → Int32 → PM → Option (Int64 × PM)
  | 0, _, _, _ => none
  | f + 1, x1, x3, M =>
    if (M.1 275 41) ≤ x3 then
      some (x1, M)
    else
      if inB ((10 * (jl 1 x3)) + x3) 10240 = true then 
      f_X11_allRows_19 f (x1 + (M.2.1 297 ((10 * (jl 1 x3)) + x3).toNatClampNeg)) (x3 + 1) M else none
theorem g_X11_allRows_19   : ∀ (f : Nat) (x1 : Int64) (x3 : Int32) (M : PM) (r : Int64 × PM), f_X11_allRows_19 f x1 x3 M = some r → hr_G 251 19 [some (.ref 275), some (.long x1), none, some (.int x3)] [] M (some (.long r.1), r.2) := by
  intro f
  induction f with
  | zero => intro x1 x3 M r h; cases h
  | succ f ih =>
    intro x1 x3 M r h
    rw [f_X11_allRows_19.eq_2] at h
    refine hr_Grun mf_X11_allRows lb_X11_allRows_19 (P := hr_K 275 = 10 ∧ True) (pc' := if (M.1 275 41) ≤ x3 then 49 else 27) (ls' := [some (.ref 275), some (.long x1), none, some (.int x3)]) (st' := []) (M' := M) rfl rfl ⟨K_275, trivial⟩ ?_
    refine hr_Gif h (fun _ h => ?_) (fun _ h => ?_)
    · refine hr_Grun mf_X11_allRows lb_X11_allRows_49 (P := True) (pc' := 50) (ls' := [some (.ref 275), some (.long x1), none, some (.int x3)]) (st' := [.long x1]) (M' := M) rfl rfl trivial ?_
      cases h
      exact hr_Gret mf_X11_allRows lb_X11_allRows_50 rfl rfl trivial
    · refine hr_Fg h (fun hg3_0 h => ?_)
      refine hr_Grun mf_X11_allRows lb_X11_allRows_27 (P := hr_K 275 = 10 ∧ (hr_K 297 = 13 ∧ vp_in ((10 * (jl 1 x3)) + x3) (hr_N 297)) ∧ True) (pc' := 19) (ls' := [some (.ref 275), some (.long (x1 + (M.2.1 297 ((10 * (jl 1 x3)) + x3).toNatClampNeg))), none, some (.int (x3 + 1))]) (st' := []) (M' := M) rfl rfl ⟨K_275, ⟨K_297, (inB_N N_297 hg3_0)⟩, trivial⟩ ?_
      exact ih (x1 + (M.2.1 297 ((10 * (jl 1 x3)) + x3).toNatClampNeg)) (x3 + 1) M _ h
def f_X11_allRows (M : PM) : Option (Int64 × PM) :=
  hr_bd (f_X11_findBehind M) (fun v2 M2 =>
  if (M2.1 275 41) = 0 then
    f_X11_allRows_19 FU 1 0 M2
  else
    f_X11_allRows_19 FU 0 0 M2)
theorem g_X11_allRows  : ∀ (M : PM) (r : Int64 × PM), f_X11_allRows M = some r → hr_G 251 0 [some (.ref 275), none, none, none] [] M (some (.long r.1), r.2) := by
  intro M r h
  unfold f_X11_allRows at h
  refine hr_Grun mf_X11_allRows lb_X11_allRows_0 (P := True) (pc' := 1) (ls' := [some (.ref 275), none, none, none]) (st' := [.ref 275]) (M' := M) rfl rfl trivial ?_
  refine hr_Fb h (fun v2 M2 e2 h => ?_)
  refine hr_Gcv mf_X11_allRows mf_X11_findBehind lb_X11_allRows_1 (b := 275) (as := []) (rest := []) (st2 := []) (v := none) (M1 := M2) rfl rfl rfl rfl rfl rfl K_275 (g_X11_findBehind  _ _ e2) rfl rfl ?_
  refine hr_Grun mf_X11_allRows lb_X11_allRows_4 (P := hr_K 275 = 10 ∧ True) (pc' := if (M2.1 275 41) = 0 then 11 else 15) (ls' := [some (.ref 275), none, none, none]) (st' := []) (M' := M2) rfl rfl ⟨K_275, trivial⟩ ?_
  refine hr_Gif h (fun _ h => ?_) (fun _ h => ?_)
  · refine hr_Grun mf_X11_allRows lb_X11_allRows_11 (P := True) (pc' := 16) (ls' := [some (.ref 275), none, none, none]) (st' := [.long 1]) (M' := M2) rfl rfl trivial ?_
    refine hr_Grun mf_X11_allRows lb_X11_allRows_16 (P := True) (pc' := 19) (ls' := [some (.ref 275), some (.long 1), none, some (.int 0)]) (st' := []) (M' := M2) rfl rfl trivial ?_
    exact g_X11_allRows_19 FU 1 0 M2 _ h
  · refine hr_Grun mf_X11_allRows lb_X11_allRows_15 (P := True) (pc' := 16) (ls' := [some (.ref 275), none, none, none]) (st' := [.long 0]) (M' := M2) rfl rfl trivial ?_
    refine hr_Grun mf_X11_allRows lb_X11_allRows_16 (P := True) (pc' := 19) (ls' := [some (.ref 275), some (.long 0), none, some (.int 0)]) (st' := []) (M' := M2) rfl rfl trivial ?_
    exact g_X11_allRows_19 FU 0 0 M2 _ h
theorem mf_X11_rowAt : hr_mf 252 11 2 (some .int) 6 1 bk_X11_rowAt := ⟨rfl, rfl, rfl, rfl, rfl, rfl⟩
theorem lb_X11_rowAt_0 : bk_X11_rowAt.lookup 0 = some [(.iconst 0, 1), (.istore_n 2, 1), (.iconst (-1), 1), (.istore_n 3, 1), (.iconst 0, 1), (.istore 4, 2)] := rfl
theorem lb_X11_rowAt_7 : bk_X11_rowAt.lookup 7 = some [(.iload 4, 2), (.iload_n 1, 1), (.if_icmp .gt 74, 3)] := rfl
theorem lb_X11_rowAt_13 : bk_X11_rowAt.lookup 13 = some [(.iconst 0, 1), (.istore 5, 2)] := rfl
theorem lb_X11_rowAt_16 : bk_X11_rowAt.lookup 16 = some [(.iload_n 2, 1), (.iload 5, 2)] := rfl
theorem lb_X11_rowAt_19 : bk_X11_rowAt.lookup 19 = some [(.invokestatic 104, 3)] := rfl
theorem lb_X11_rowAt_22 : bk_X11_rowAt.lookup 22 = some [(.ifCond .ne 40, 3)] := rfl
theorem lb_X11_rowAt_25 : bk_X11_rowAt.lookup 25 = some [(.iload_n 3, 1), (.iconst (-1), 1), (.if_icmp .eq 13, 3)] := rfl
theorem lb_X11_rowAt_30 : bk_X11_rowAt.lookup 30 = some [(.aload_n 0, 1), (.iload_n 3, 1), (.iload 5, 2)] := rfl
theorem lb_X11_rowAt_34 : bk_X11_rowAt.lookup 34 = some [(.invokevirtual 435, 3)] := rfl
theorem lb_X11_rowAt_37 : bk_X11_rowAt.lookup 37 = some [(.ifCond .eq 25, 3)] := rfl
theorem lb_X11_rowAt_40 : bk_X11_rowAt.lookup 40 = some [(.aload_n 0, 1), (.getfield 74, 3), (.bipush 10, 2), (.iload_n 2, 1), (.iconst 1, 1), (.iload 5, 2), (.ishl, 1), (.ior, 1), (.imul, 1), (.iload 5, 2), (.iadd, 1), (.laload, 1), (.lconst 0, 1), (.lcmp, 1), (.ifCond .ne 9, 3)] := rfl
theorem lb_X11_rowAt_62 : bk_X11_rowAt.lookup 62 = some [(.iinc 5 1, 3), (.goto (-49), 3)] := rfl
theorem lb_X11_rowAt_68 : bk_X11_rowAt.lookup 68 = some [(.iload 5, 2), (.istore_n 3, 1), (.iload_n 2, 1), (.iconst 1, 1), (.iload 5, 2), (.ishl, 1), (.ior, 1), (.istore_n 2, 1), (.iinc 4 1, 3), (.goto (-74), 3)] := rfl
theorem lb_X11_rowAt_84 : bk_X11_rowAt.lookup 84 = some [(.iload_n 3, 1)] := rfl
theorem lb_X11_rowAt_85 : bk_X11_rowAt.lookup 85 = some [(.ireturn, 1)] := rfl
def f_X11_rowAt_40 (a1 : Int32) (k7 : Int32 → Int32 → Int32 → PM → Option (Int32 × PM)) (k16 : Int32 → Int32 → Int32 → Int32 → PM → Option (Int32 × PM)) (x2 : Int32) (x3 : Int32) (x4 : Int32) (x5 : Int32) (M : PM) : Option (Int32 × PM) :=
  if inB ((10 * (x2 ||| (jl 1 x5))) + x5) 10240 = true then if (lg_cmp (M.2.1 297 ((10 * (x2 ||| (jl 1 x5))) + x5).toNatClampNeg) 0) = 0 then
    k16 x2 x3 x4 (x5 + 1) M
  else
    k7 (x2 ||| (jl 1 x5)) x5 (x4 + 1) M
  else none
theorem g_X11_rowAt_40 (a1 : Int32)  (k7 : Int32 → Int32 → Int32 → PM → Option (Int32 × PM)) (k16 : Int32 → Int32 → Int32 → Int32 → PM → Option (Int32 × PM)) (hk7 : ∀ (x2 : Int32) (x3 : Int32) (x4 : Int32) (M : PM) (r : Int32 × PM), k7 x2 x3 x4 M = some r → hr_G 252 7 [some (.ref 275), some (.int a1), some (.int x2), some (.int x3), some (.int x4), none] [] M (some (.int r.1), r.2)) (hk16 : ∀ (x2 : Int32) (x3 : Int32) (x4 : Int32) (x5 : Int32) (M : PM) (r : Int32 × PM), k16 x2 x3 x4 x5 M = some r → hr_G 252 16 [some (.ref 275), some (.int a1), some (.int x2), some (.int x3), some (.int x4), some (.int x5)] [] M (some (.int r.1), r.2)) : ∀ (x2 : Int32) (x3 : Int32) (x4 : Int32) (x5 : Int32) (M : PM) (r : Int32 × PM), f_X11_rowAt_40 a1 k7 k16 x2 x3 x4 x5 M = some r → hr_G 252 40 [some (.ref 275), some (.int a1), some (.int x2), some (.int x3), some (.int x4), some (.int x5)] [] M (some (.int r.1), r.2) := by
  intro x2 x3 x4 x5 M r h
  unfold f_X11_rowAt_40 at h
  refine hr_Fg h (fun hg1_0 h => ?_)
  refine hr_Grun mf_X11_rowAt lb_X11_rowAt_40 (P := hr_K 275 = 10 ∧ (hr_K 297 = 13 ∧ vp_in ((10 * (x2 ||| (jl 1 x5))) + x5) (hr_N 297)) ∧ True) (pc' := if (lg_cmp (M.2.1 297 ((10 * (x2 ||| (jl 1 x5))) + x5).toNatClampNeg) 0) = 0 then 62 else 68) (ls' := [some (.ref 275), some (.int a1), some (.int x2), some (.int x3), some (.int x4), some (.int x5)]) (st' := []) (M' := M) rfl rfl ⟨K_275, ⟨K_297, (inB_N N_297 hg1_0)⟩, trivial⟩ ?_
  refine hr_Gif h (fun _ h => ?_) (fun _ h => ?_)
  · refine hr_Grun mf_X11_rowAt lb_X11_rowAt_62 (P := True) (pc' := 16) (ls' := [some (.ref 275), some (.int a1), some (.int x2), some (.int x3), some (.int x4), some (.int (x5 + 1))]) (st' := []) (M' := M) rfl rfl trivial ?_
    exact hk16 x2 x3 x4 (x5 + 1) M _ h
  · refine hr_Grun mf_X11_rowAt lb_X11_rowAt_68 (P := True) (pc' := 7) (ls' := [some (.ref 275), some (.int a1), some (.int (x2 ||| (jl 1 x5))), some (.int x5), some (.int (x4 + 1)), some (.int x5)]) (st' := []) (M' := M) rfl rfl trivial ?_
    refine hr_Gle (ls := [some (.ref 275), some (.int a1), some (.int (x2 ||| (jl 1 x5))), some (.int x5), some (.int (x4 + 1)), none]) (hr_le_s (hr_le_s (hr_le_s (hr_le_s (hr_le_s (hr_le_n hr_le_0)))))) ?_
    exact hk7 (x2 ||| (jl 1 x5)) x5 (x4 + 1) M _ h
def f_X11_rowAt_16 (a1 : Int32) (k7 : Int32 → Int32 → Int32 → PM → Option (Int32 × PM)) : Nat → Int32 → Int32 → Int32 → Int32 → PM → Option (Int32 × PM)
  | 0, _, _, _, _, _ => none
  | f + 1, x2, x3, x4, x5, M =>
    hr_bd (f_X11_has x2 x5 M) (fun v2 M2 =>
    if v2 = 0 then
      if x3 = (-1) then
        f_X11_rowAt_40 a1 k7 (fun x2 x3 x4 x5 M => f_X11_rowAt_16 a1 k7 f x2 x3 x4 x5 M) x2 x3 x4 x5 M2
      else
        hr_bd (f_X11_follows x3 x5 M2) (fun v6 M6 =>
        if v6 = 0 then
          f_X11_rowAt_16 a1 k7 f x2 x3 x4 (x5 + 1) M6
        else
          f_X11_rowAt_40 a1 k7 (fun x2 x3 x4 x5 M => f_X11_rowAt_16 a1 k7 f x2 x3 x4 x5 M) x2 x3 x4 x5 M6)
    else
      f_X11_rowAt_16 a1 k7 f x2 x3 x4 (x5 + 1) M2)
theorem g_X11_rowAt_16 (a1 : Int32)  (k7 : Int32 → Int32 → Int32 → PM → Option (Int32 × PM)) (hk7 : ∀ (x2 : Int32) (x3 : Int32) (x4 : Int32) (M : PM) (r : Int32 × PM), k7 x2 x3 x4 M = some r → hr_G 252 7 [some (.ref 275), some (.int a1), some (.int x2), some (.int x3), some (.int x4), none] [] M (some (.int r.1), r.2)) : ∀ (f : Nat) (x2 : Int32) (x3 : Int32) (x4 : Int32) (x5 : Int32) (M : PM) (r : Int32 × PM), f_X11_rowAt_16 a1 k7 f x2 x3 x4 x5 M = some r → hr_G 252 16 [some (.ref 275), some (.int a1), some (.int x2), some (.int x3), some (.int x4), some (.int x5)] [] M (some (.int r.1), r.2) := by
  intro f
  induction f with
  | zero => intro x2 x3 x4 x5 M r h; cases h
  | succ f ih =>
    intro x2 x3 x4 x5 M r h
    rw [f_X11_rowAt_16.eq_2] at h
    refine hr_Grun mf_X11_rowAt lb_X11_rowAt_16 (P := True) (pc' := 19) (ls' := [some (.ref 275), some (.int a1), some (.int x2), some (.int x3), some (.int x4), some (.int x5)]) (st' := [.int x5, .int x2]) (M' := M) rfl rfl trivial ?_
    refine hr_Fb h (fun v2 M2 e2 h => ?_)
    refine hr_Gcs mf_X11_rowAt mf_X11_has lb_X11_rowAt_19 (as := [.int x2, .int x5]) (rest := []) (st2 := [.int v2]) (v := some (.int v2)) (M1 := M2) rfl rfl rfl rfl rfl rfl (g_X11_has x2 x5 _ _ e2) rfl rfl ?_
    refine hr_Grun mf_X11_rowAt lb_X11_rowAt_22 (P := True) (pc' := if v2 = 0 then 25 else 62) (ls' := [some (.ref 275), some (.int a1), some (.int x2), some (.int x3), some (.int x4), some (.int x5)]) (st' := []) (M' := M2) rfl rfl trivial ?_
    refine hr_Gif h (fun _ h => ?_) (fun _ h => ?_)
    · refine hr_Grun mf_X11_rowAt lb_X11_rowAt_25 (P := True) (pc' := if x3 = (-1) then 40 else 30) (ls' := [some (.ref 275), some (.int a1), some (.int x2), some (.int x3), some (.int x4), some (.int x5)]) (st' := []) (M' := M2) rfl rfl trivial ?_
      refine hr_Gif h (fun _ h => ?_) (fun _ h => ?_)
      · exact g_X11_rowAt_40 a1 k7 (fun x2 x3 x4 x5 M => f_X11_rowAt_16 a1 k7 f x2 x3 x4 x5 M) hk7 (fun x2 x3 x4 x5 M r h => ih x2 x3 x4 x5 M r h) x2 x3 x4 x5 M2 _ h
      · refine hr_Grun mf_X11_rowAt lb_X11_rowAt_30 (P := True) (pc' := 34) (ls' := [some (.ref 275), some (.int a1), some (.int x2), some (.int x3), some (.int x4), some (.int x5)]) (st' := [.int x5, .int x3, .ref 275]) (M' := M2) rfl rfl trivial ?_
        refine hr_Fb h (fun v6 M6 e6 h => ?_)
        refine hr_Gcv mf_X11_rowAt mf_X11_follows lb_X11_rowAt_34 (b := 275) (as := [.int x3, .int x5]) (rest := []) (st2 := [.int v6]) (v := some (.int v6)) (M1 := M6) rfl rfl rfl rfl rfl rfl K_275 (g_X11_follows x3 x5 _ _ e6) rfl rfl ?_
        refine hr_Grun mf_X11_rowAt lb_X11_rowAt_37 (P := True) (pc' := if v6 = 0 then 62 else 40) (ls' := [some (.ref 275), some (.int a1), some (.int x2), some (.int x3), some (.int x4), some (.int x5)]) (st' := []) (M' := M6) rfl rfl trivial ?_
        refine hr_Gif h (fun _ h => ?_) (fun _ h => ?_)
        · refine hr_Grun mf_X11_rowAt lb_X11_rowAt_62 (P := True) (pc' := 16) (ls' := [some (.ref 275), some (.int a1), some (.int x2), some (.int x3), some (.int x4), some (.int (x5 + 1))]) (st' := []) (M' := M6) rfl rfl trivial ?_
          exact ih x2 x3 x4 (x5 + 1) M6 _ h
        · exact g_X11_rowAt_40 a1 k7 (fun x2 x3 x4 x5 M => f_X11_rowAt_16 a1 k7 f x2 x3 x4 x5 M) hk7 (fun x2 x3 x4 x5 M r h => ih x2 x3 x4 x5 M r h) x2 x3 x4 x5 M6 _ h
    · refine hr_Grun mf_X11_rowAt lb_X11_rowAt_62 (P := True) (pc' := 16) (ls' := [some (.ref 275), some (.int a1), some (.int x2), some (.int x3), some (.int x4), some (.int (x5 + 1))]) (st' := []) (M' := M2) rfl rfl trivial ?_
      exact ih x2 x3 x4 (x5 + 1) M2 _ h
def f_X11_rowAt_7 (a1 : Int32) : Nat → Int32 → Int32 → Int32 → PM → Option (Int32 × PM)
  | 0, _, _, _, _ => none
  | f + 1, x2, x3, x4, M =>
    if a1 < x4 then
      some (x3, M)
    else
      f_X11_rowAt_16 a1 (fun x2 x3 x4 M => f_X11_rowAt_7 a1 f x2 x3 x4 M) FU x2 x3 x4 0 M
theorem g_X11_rowAt_7 (a1 : Int32)  : ∀ (f : Nat) (x2 : Int32) (x3 : Int32) (x4 : Int32) (M : PM) (r : Int32 × PM), f_X11_rowAt_7 a1 f x2 x3 x4 M = some r → hr_G 252 7 [some (.ref 275), some (.int a1), some (.int x2), some (.int x3), some (.int x4), none] [] M (some (.int r.1), r.2) := by
  intro f
  induction f with
  | zero => intro x2 x3 x4 M r h; cases h
  | succ f ih =>
    intro x2 x3 x4 M r h
    rw [f_X11_rowAt_7.eq_2] at h
    refine hr_Grun mf_X11_rowAt lb_X11_rowAt_7 (P := True) (pc' := if a1 < x4 then 84 else 13) (ls' := [some (.ref 275), some (.int a1), some (.int x2), some (.int x3), some (.int x4), none]) (st' := []) (M' := M) rfl rfl trivial ?_
    refine hr_Gif h (fun _ h => ?_) (fun _ h => ?_)
    · refine hr_Grun mf_X11_rowAt lb_X11_rowAt_84 (P := True) (pc' := 85) (ls' := [some (.ref 275), some (.int a1), some (.int x2), some (.int x3), some (.int x4), none]) (st' := [.int x3]) (M' := M) rfl rfl trivial ?_
      cases h
      exact hr_Gret mf_X11_rowAt lb_X11_rowAt_85 rfl rfl trivial
    · refine hr_Grun mf_X11_rowAt lb_X11_rowAt_13 (P := True) (pc' := 16) (ls' := [some (.ref 275), some (.int a1), some (.int x2), some (.int x3), some (.int x4), some (.int 0)]) (st' := []) (M' := M) rfl rfl trivial ?_
      exact g_X11_rowAt_16 a1 (fun x2 x3 x4 M => f_X11_rowAt_7 a1 f x2 x3 x4 M) (fun x2 x3 x4 M r h => ih x2 x3 x4 M r h) FU x2 x3 x4 0 M _ h
def f_X11_rowAt (a1 : Int32) (M : PM) : Option (Int32 × PM) :=
  f_X11_rowAt_7 a1 FU 0 (-1) 0 M
theorem g_X11_rowAt (a1 : Int32) : ∀ (M : PM) (r : Int32 × PM), f_X11_rowAt a1 M = some r → hr_G 252 0 [some (.ref 275), some (.int a1), none, none, none, none] [] M (some (.int r.1), r.2) := by
  intro M r h
  unfold f_X11_rowAt at h
  refine hr_Grun mf_X11_rowAt lb_X11_rowAt_0 (P := True) (pc' := 7) (ls' := [some (.ref 275), some (.int a1), some (.int 0), some (.int (-1)), some (.int 0), none]) (st' := []) (M' := M) rfl rfl trivial ?_
  exact g_X11_rowAt_7 a1 FU 0 (-1) 0 M _ h
theorem mf_X11_layPictures : hr_mf 253 11 1 none 2 0 bk_X11_layPictures := ⟨rfl, rfl, rfl, rfl, rfl, rfl⟩
theorem lb_X11_layPictures_0 : bk_X11_layPictures.lookup 0 = some [(.aload_n 0, 1), (.aload_n 0, 1)] := rfl
theorem lb_X11_layPictures_2 : bk_X11_layPictures.lookup 2 = some [(.invokevirtual 347, 3)] := rfl
theorem lb_X11_layPictures_5 : bk_X11_layPictures.lookup 5 = some [(.putfield 432, 3), (.iconst 0, 1), (.istore_n 1, 1)] := rfl
theorem lb_X11_layPictures_10 : bk_X11_layPictures.lookup 10 = some [(.iload_n 1, 1), (.aload_n 0, 1), (.getfield 432, 3), (.if_icmp .ge 20, 3)] := rfl
theorem lb_X11_layPictures_18 : bk_X11_layPictures.lookup 18 = some [(.aload_n 0, 1), (.getfield 71, 3), (.iload_n 1, 1), (.aload_n 0, 1), (.iload_n 1, 1)] := rfl
theorem lb_X11_layPictures_25 : bk_X11_layPictures.lookup 25 = some [(.invokevirtual 353, 3)] := rfl
theorem lb_X11_layPictures_28 : bk_X11_layPictures.lookup 28 = some [(.iastore, 1), (.iinc 1 1, 3), (.goto (-22), 3)] := rfl
theorem lb_X11_layPictures_35 : bk_X11_layPictures.lookup 35 = some [(.return_, 1)] := rfl
def f_X11_layPictures_10  : Nat → Int32 → PM → Option (Unit × PM)
  | 0, _, _ => none
  | f + 1, x1, M =>
    if (M.1 275 41) ≤ x1 then
      some ((), M)
    else
      hr_bd (f_X11_hueOf x1 M) (fun v3 M3 =>
      if inB x1 10 = true then 
      f_X11_layPictures_10 f (x1 + 1) (hr_si M3 296 x1.toNatClampNeg v3) else none)
theorem g_X11_layPictures_10   : ∀ (f : Nat) (x1 : Int32) (M : PM) (r : Unit × PM), f_X11_layPictures_10 f x1 M = some r → hr_G 253 10 [some (.ref 275), some (.int x1)] [] M (none, r.2) := by
  intro f
  induction f with
  | zero => intro x1 M r h; cases h
  | succ f ih =>
    intro x1 M r h
    rw [f_X11_layPictures_10.eq_2] at h
    refine hr_Grun mf_X11_layPictures lb_X11_layPictures_10 (P := hr_K 275 = 10 ∧ True) (pc' := if (M.1 275 41) ≤ x1 then 35 else 18) (ls' := [some (.ref 275), some (.int x1)]) (st' := []) (M' := M) rfl rfl ⟨K_275, trivial⟩ ?_
    refine hr_Gif h (fun _ h => ?_) (fun _ h => ?_)
    · cases h
      exact hr_Gret mf_X11_layPictures lb_X11_layPictures_35 rfl rfl trivial
    · refine hr_Grun mf_X11_layPictures lb_X11_layPictures_18 (P := hr_K 275 = 10 ∧ True) (pc' := 25) (ls' := [some (.ref 275), some (.int x1)]) (st' := [.int x1, .ref 275, .int x1, .ref 296]) (M' := M) rfl rfl ⟨K_275, trivial⟩ ?_
      refine hr_Fb h (fun v3 M3 e3 h => ?_)
      refine hr_Gcv mf_X11_layPictures mf_X11_hueOf lb_X11_layPictures_25 (b := 275) (as := [.int x1]) (rest := [.int x1, .ref 296]) (st2 := [.int v3, .int x1, .ref 296]) (v := some (.int v3)) (M1 := M3) rfl rfl rfl rfl rfl rfl K_275 (g_X11_hueOf x1 _ _ e3) rfl rfl ?_
      refine hr_Fg h (fun hg4_0 h => ?_)
      refine hr_Grun mf_X11_layPictures lb_X11_layPictures_28 (P := ((hr_K 296 = 12 ∧ 296 < hr_n) ∧ vp_in x1 (hr_N 296)) ∧ True) (pc' := 10) (ls' := [some (.ref 275), some (.int (x1 + 1))]) (st' := []) (M' := hr_si M3 296 x1.toNatClampNeg v3) rfl rfl ⟨⟨⟨K_296, L_296⟩, (inB_N N_296 hg4_0)⟩, trivial⟩ ?_
      exact ih (x1 + 1) (hr_si M3 296 x1.toNatClampNeg v3) _ h
def f_X11_layPictures (M : PM) : Option (Unit × PM) :=
  hr_bd (f_X11_pictures M) (fun v2 M2 =>
  f_X11_layPictures_10 FU 0 (hr_si M2 275 41 v2))
theorem g_X11_layPictures  : ∀ (M : PM) (r : Unit × PM), f_X11_layPictures M = some r → hr_G 253 0 [some (.ref 275), none] [] M (none, r.2) := by
  intro M r h
  unfold f_X11_layPictures at h
  refine hr_Grun mf_X11_layPictures lb_X11_layPictures_0 (P := True) (pc' := 2) (ls' := [some (.ref 275), none]) (st' := [.ref 275, .ref 275]) (M' := M) rfl rfl trivial ?_
  refine hr_Fb h (fun v2 M2 e2 h => ?_)
  refine hr_Gcv mf_X11_layPictures mf_X11_pictures lb_X11_layPictures_2 (b := 275) (as := []) (rest := [.ref 275]) (st2 := [.int v2, .ref 275]) (v := some (.int v2)) (M1 := M2) rfl rfl rfl rfl rfl rfl K_275 (g_X11_pictures  _ _ e2) rfl rfl ?_
  refine hr_Grun mf_X11_layPictures lb_X11_layPictures_5 (P := (hr_K 275 = 10 ∧ 275 < hr_n) ∧ True) (pc' := 10) (ls' := [some (.ref 275), some (.int 0)]) (st' := []) (M' := hr_si M2 275 41 v2) rfl rfl ⟨⟨K_275, L_275⟩, trivial⟩ ?_
  exact g_X11_layPictures_10 FU 0 (hr_si M2 275 41 v2) _ h
theorem mf_X11_layThreads : hr_mf 254 11 1 none 3 1 bk_X11_layThreads := ⟨rfl, rfl, rfl, rfl, rfl, rfl⟩
theorem lb_X11_layThreads_0 : bk_X11_layThreads.lookup 0 = some [(.aload_n 0, 1), (.iconst 0, 1), (.putfield 432, 3), (.iconst 0, 1), (.istore_n 2, 1)] := rfl
theorem lb_X11_layThreads_7 : bk_X11_layThreads.lookup 7 = some [(.iload_n 2, 1), (.aload_n 0, 1), (.getfield 299, 3), (.if_icmp .ge 37, 3)] := rfl
theorem lb_X11_layThreads_15 : bk_X11_layThreads.lookup 15 = some [(.iload_n 1, 1), (.iload_n 2, 1)] := rfl
theorem lb_X11_layThreads_17 : bk_X11_layThreads.lookup 17 = some [(.invokestatic 104, 3)] := rfl
theorem lb_X11_layThreads_20 : bk_X11_layThreads.lookup 20 = some [(.ifCond .eq 23, 3)] := rfl
theorem lb_X11_layThreads_23 : bk_X11_layThreads.lookup 23 = some [(.aload_n 0, 1), (.getfield 71, 3), (.aload_n 0, 1), (.getfield 432, 3), (.iload_n 2, 1), (.iastore, 1), (.aload_n 0, 1), (.dup, 1), (.getfield 432, 3), (.iconst 1, 1), (.iadd, 1), (.putfield 432, 3)] := rfl
theorem lb_X11_layThreads_43 : bk_X11_layThreads.lookup 43 = some [(.iinc 2 1, 3), (.goto (-39), 3)] := rfl
theorem lb_X11_layThreads_49 : bk_X11_layThreads.lookup 49 = some [(.return_, 1)] := rfl
def f_X11_layThreads_7 (a1 : Int32) : Nat → Int32 → PM → Option (Unit × PM)
  | 0, _, _ => none
  | f + 1, x2, M =>
    if (M.1 275 25) ≤ x2 then
      some ((), M)
    else
      hr_bd (f_X11_has a1 x2 M) (fun v3 M3 =>
      if v3 = 0 then
        f_X11_layThreads_7 a1 f (x2 + 1) M3
      else
        if inB (M3.1 275 41) 10 = true then 
        f_X11_layThreads_7 a1 f (x2 + 1) (hr_si (hr_si M3 296 (M3.1 275 41).toNatClampNeg x2) 275 41 (((hr_si M3 296 (M3.1 275 41).toNatClampNeg x2).1 275 41) + 1)) else none)
theorem g_X11_layThreads_7 (a1 : Int32)  : ∀ (f : Nat) (x2 : Int32) (M : PM) (r : Unit × PM), f_X11_layThreads_7 a1 f x2 M = some r → hr_G 254 7 [some (.ref 275), some (.int a1), some (.int x2)] [] M (none, r.2) := by
  intro f
  induction f with
  | zero => intro x2 M r h; cases h
  | succ f ih =>
    intro x2 M r h
    rw [f_X11_layThreads_7.eq_2] at h
    refine hr_Grun mf_X11_layThreads lb_X11_layThreads_7 (P := hr_K 275 = 10 ∧ True) (pc' := if (M.1 275 25) ≤ x2 then 49 else 15) (ls' := [some (.ref 275), some (.int a1), some (.int x2)]) (st' := []) (M' := M) rfl rfl ⟨K_275, trivial⟩ ?_
    refine hr_Gif h (fun _ h => ?_) (fun _ h => ?_)
    · cases h
      exact hr_Gret mf_X11_layThreads lb_X11_layThreads_49 rfl rfl trivial
    · refine hr_Grun mf_X11_layThreads lb_X11_layThreads_15 (P := True) (pc' := 17) (ls' := [some (.ref 275), some (.int a1), some (.int x2)]) (st' := [.int x2, .int a1]) (M' := M) rfl rfl trivial ?_
      refine hr_Fb h (fun v3 M3 e3 h => ?_)
      refine hr_Gcs mf_X11_layThreads mf_X11_has lb_X11_layThreads_17 (as := [.int a1, .int x2]) (rest := []) (st2 := [.int v3]) (v := some (.int v3)) (M1 := M3) rfl rfl rfl rfl rfl rfl (g_X11_has a1 x2 _ _ e3) rfl rfl ?_
      refine hr_Grun mf_X11_layThreads lb_X11_layThreads_20 (P := True) (pc' := if v3 = 0 then 43 else 23) (ls' := [some (.ref 275), some (.int a1), some (.int x2)]) (st' := []) (M' := M3) rfl rfl trivial ?_
      refine hr_Gif h (fun _ h => ?_) (fun _ h => ?_)
      · refine hr_Grun mf_X11_layThreads lb_X11_layThreads_43 (P := True) (pc' := 7) (ls' := [some (.ref 275), some (.int a1), some (.int (x2 + 1))]) (st' := []) (M' := M3) rfl rfl trivial ?_
        exact ih (x2 + 1) M3 _ h
      · refine hr_Fg h (fun hg6_0 h => ?_)
        refine hr_Grun mf_X11_layThreads lb_X11_layThreads_23 (P := hr_K 275 = 10 ∧ hr_K 275 = 10 ∧ ((hr_K 296 = 12 ∧ 296 < hr_n) ∧ vp_in (M3.1 275 41) (hr_N 296)) ∧ hr_K 275 = 10 ∧ (hr_K 275 = 10 ∧ 275 < hr_n) ∧ True) (pc' := 43) (ls' := [some (.ref 275), some (.int a1), some (.int x2)]) (st' := []) (M' := hr_si (hr_si M3 296 (M3.1 275 41).toNatClampNeg x2) 275 41 (((hr_si M3 296 (M3.1 275 41).toNatClampNeg x2).1 275 41) + 1)) rfl rfl ⟨K_275, K_275, ⟨⟨K_296, L_296⟩, (inB_N N_296 hg6_0)⟩, K_275, ⟨K_275, L_275⟩, trivial⟩ ?_
        refine hr_Grun mf_X11_layThreads lb_X11_layThreads_43 (P := True) (pc' := 7) (ls' := [some (.ref 275), some (.int a1), some (.int (x2 + 1))]) (st' := []) (M' := hr_si (hr_si M3 296 (M3.1 275 41).toNatClampNeg x2) 275 41 (((hr_si M3 296 (M3.1 275 41).toNatClampNeg x2).1 275 41) + 1)) rfl rfl trivial ?_
        exact ih (x2 + 1) (hr_si (hr_si M3 296 (M3.1 275 41).toNatClampNeg x2) 275 41 (((hr_si M3 296 (M3.1 275 41).toNatClampNeg x2).1 275 41) + 1)) _ h
def f_X11_layThreads (a1 : Int32) (M : PM) : Option (Unit × PM) :=
  f_X11_layThreads_7 a1 FU 0 (hr_si M 275 41 0)
theorem g_X11_layThreads (a1 : Int32) : ∀ (M : PM) (r : Unit × PM), f_X11_layThreads a1 M = some r → hr_G 254 0 [some (.ref 275), some (.int a1), none] [] M (none, r.2) := by
  intro M r h
  unfold f_X11_layThreads at h
  refine hr_Grun mf_X11_layThreads lb_X11_layThreads_0 (P := (hr_K 275 = 10 ∧ 275 < hr_n) ∧ True) (pc' := 7) (ls' := [some (.ref 275), some (.int a1), some (.int 0)]) (st' := []) (M' := hr_si M 275 41 0) rfl rfl ⟨⟨K_275, L_275⟩, trivial⟩ ?_
  exact g_X11_layThreads_7 a1 FU 0 (hr_si M 275 41 0) _ h
theorem mf_X11_rows : hr_mf 255 11 5 (some .long) 3 2 bk_X11_rows := ⟨rfl, rfl, rfl, rfl, rfl, rfl⟩
theorem lb_X11_rows_0 : bk_X11_rows.lookup 0 = some [(.aload_n 0, 1), (.iconst 0, 1), (.putfield 100, 3), (.aload_n 0, 1), (.iload_n 1, 1), (.iload_n 2, 1)] := rfl
theorem lb_X11_rows_8 : bk_X11_rows.lookup 8 = some [(.invokevirtual 401, 3)] := rfl
theorem lb_X11_rows_11 : bk_X11_rows.lookup 11 = some [(.ifCond .ne 7, 3)] := rfl
theorem lb_X11_rows_14 : bk_X11_rows.lookup 14 = some [(.ldc2_w 441, 3)] := rfl
theorem lb_X11_rows_17 : bk_X11_rows.lookup 17 = some [(.lreturn, 1)] := rfl
theorem lb_X11_rows_18 : bk_X11_rows.lookup 18 = some [(.aload_n 0, 1)] := rfl
theorem lb_X11_rows_19 : bk_X11_rows.lookup 19 = some [(.invokevirtual 443, 3)] := rfl
theorem lb_X11_rows_22 : bk_X11_rows.lookup 22 = some [(.aload_n 0, 1)] := rfl
theorem lb_X11_rows_23 : bk_X11_rows.lookup 23 = some [(.invokevirtual 446, 3)] := rfl
theorem lb_X11_rows_26 : bk_X11_rows.lookup 26 = some [(.lreturn, 1)] := rfl
def f_X11_rows (a1 : Int32) (a2 : Int32) (M : PM) : Option (Int64 × PM) :=
  hr_bd (f_X11_layGallery a1 a2 (hr_si M 275 0 0)) (fun v2 M2 =>
  if v2 = 0 then
    some ((-1), M2)
  else
    hr_bd (f_X11_layPictures M2) (fun v6 M6 =>
    hr_bd (f_X11_allRows M6) (fun v8 M8 =>
    some (v8, M8))))
theorem g_X11_rows (a1 : Int32) (a2 : Int32) : ∀ (M : PM) (r : Int64 × PM), f_X11_rows a1 a2 M = some r → hr_G 255 0 [some (.ref 275), some (.int a1), some (.int a2)] [] M (some (.long r.1), r.2) := by
  intro M r h
  unfold f_X11_rows at h
  refine hr_Grun mf_X11_rows lb_X11_rows_0 (P := (hr_K 275 = 10 ∧ 275 < hr_n) ∧ True) (pc' := 8) (ls' := [some (.ref 275), some (.int a1), some (.int a2)]) (st' := [.int a2, .int a1, .ref 275]) (M' := hr_si M 275 0 0) rfl rfl ⟨⟨K_275, L_275⟩, trivial⟩ ?_
  refine hr_Fb h (fun v2 M2 e2 h => ?_)
  refine hr_Gcv mf_X11_rows mf_X11_layGallery lb_X11_rows_8 (b := 275) (as := [.int a1, .int a2]) (rest := []) (st2 := [.int v2]) (v := some (.int v2)) (M1 := M2) rfl rfl rfl rfl rfl rfl K_275 (g_X11_layGallery a1 a2 _ _ e2) rfl rfl ?_
  refine hr_Grun mf_X11_rows lb_X11_rows_11 (P := True) (pc' := if v2 = 0 then 14 else 18) (ls' := [some (.ref 275), some (.int a1), some (.int a2)]) (st' := []) (M' := M2) rfl rfl trivial ?_
  refine hr_Gif h (fun _ h => ?_) (fun _ h => ?_)
  · refine hr_Grun mf_X11_rows lb_X11_rows_14 (P := True) (pc' := 17) (ls' := [some (.ref 275), some (.int a1), some (.int a2)]) (st' := [.long (-1)]) (M' := M2) rfl rfl trivial ?_
    cases h
    exact hr_Gret mf_X11_rows lb_X11_rows_17 rfl rfl trivial
  · refine hr_Grun mf_X11_rows lb_X11_rows_18 (P := True) (pc' := 19) (ls' := [some (.ref 275), some (.int a1), some (.int a2)]) (st' := [.ref 275]) (M' := M2) rfl rfl trivial ?_
    refine hr_Fb h (fun v6 M6 e6 h => ?_)
    refine hr_Gcv mf_X11_rows mf_X11_layPictures lb_X11_rows_19 (b := 275) (as := []) (rest := []) (st2 := []) (v := none) (M1 := M6) rfl rfl rfl rfl rfl rfl K_275 (g_X11_layPictures  _ _ e6) rfl rfl ?_
    refine hr_Grun mf_X11_rows lb_X11_rows_22 (P := True) (pc' := 23) (ls' := [some (.ref 275), some (.int a1), some (.int a2)]) (st' := [.ref 275]) (M' := M6) rfl rfl trivial ?_
    refine hr_Fb h (fun v8 M8 e8 h => ?_)
    refine hr_Gcv mf_X11_rows mf_X11_allRows lb_X11_rows_23 (b := 275) (as := []) (rest := []) (st2 := [.long v8]) (v := some (.long v8)) (M1 := M8) rfl rfl rfl rfl rfl rfl K_275 (g_X11_allRows  _ _ e8) rfl rfl ?_
    cases h
    exact hr_Gret mf_X11_rows lb_X11_rows_26 rfl rfl trivial
theorem mf_X11_row : hr_mf 256 11 5 (some .int) 4 3 bk_X11_row := ⟨rfl, rfl, rfl, rfl, rfl, rfl⟩
theorem lb_X11_row_0 : bk_X11_row.lookup 0 = some [(.aload_n 0, 1), (.iconst 0, 1), (.putfield 100, 3), (.aload_n 0, 1), (.iload_n 1, 1), (.iload_n 2, 1)] := rfl
theorem lb_X11_row_8 : bk_X11_row.lookup 8 = some [(.invokevirtual 401, 3)] := rfl
theorem lb_X11_row_11 : bk_X11_row.lookup 11 = some [(.ifCond .eq 17, 3)] := rfl
theorem lb_X11_row_14 : bk_X11_row.lookup 14 = some [(.iload_n 3, 1), (.iconst 0, 1), (.aload_n 0, 1)] := rfl
theorem lb_X11_row_17 : bk_X11_row.lookup 17 = some [(.invokevirtual 347, 3)] := rfl
theorem lb_X11_row_20 : bk_X11_row.lookup 20 = some [(.iconst 1, 1), (.isub, 1)] := rfl
theorem lb_X11_row_22 : bk_X11_row.lookup 22 = some [(.invokestatic 112, 3)] := rfl
theorem lb_X11_row_25 : bk_X11_row.lookup 25 = some [(.ifCond .ne 5, 3)] := rfl
theorem lb_X11_row_28 : bk_X11_row.lookup 28 = some [(.iconst (-1), 1)] := rfl
theorem lb_X11_row_29 : bk_X11_row.lookup 29 = some [(.ireturn, 1)] := rfl
theorem lb_X11_row_30 : bk_X11_row.lookup 30 = some [(.aload_n 0, 1)] := rfl
theorem lb_X11_row_31 : bk_X11_row.lookup 31 = some [(.invokevirtual 443, 3)] := rfl
theorem lb_X11_row_34 : bk_X11_row.lookup 34 = some [(.aload_n 0, 1)] := rfl
theorem lb_X11_row_35 : bk_X11_row.lookup 35 = some [(.invokevirtual 446, 3)] := rfl
theorem lb_X11_row_38 : bk_X11_row.lookup 38 = some [(.lconst 0, 1), (.lcmp, 1), (.ifCond .ne 7, 3)] := rfl
theorem lb_X11_row_43 : bk_X11_row.lookup 43 = some [(.iconst (-1), 1), (.goto 8, 3)] := rfl
theorem lb_X11_row_47 : bk_X11_row.lookup 47 = some [(.aload_n 0, 1), (.iload_n 3, 1)] := rfl
theorem lb_X11_row_49 : bk_X11_row.lookup 49 = some [(.invokevirtual 450, 3)] := rfl
theorem lb_X11_row_52 : bk_X11_row.lookup 52 = some [(.ireturn, 1)] := rfl
def f_X11_row (a1 : Int32) (a2 : Int32) (a3 : Int32) (M : PM) : Option (Int32 × PM) :=
  hr_bd (f_X11_layGallery a1 a2 (hr_si M 275 0 0)) (fun v2 M2 =>
  if v2 = 0 then
    some ((-1), M2)
  else
    hr_bd (f_X11_pictures M2) (fun v6 M6 =>
    hr_bd (f_X11_in a3 0 (v6 - 1) M6) (fun v8 M8 =>
    if v8 = 0 then
      some ((-1), M8)
    else
      hr_bd (f_X11_layPictures M8) (fun v12 M12 =>
      hr_bd (f_X11_allRows M12) (fun v14 M14 =>
      if (lg_cmp v14 0) = 0 then
        some ((-1), M14)
      else
        hr_bd (f_X11_rowAt a3 M14) (fun v18 M18 =>
        some (v18, M18)))))))
theorem g_X11_row (a1 : Int32) (a2 : Int32) (a3 : Int32) : ∀ (M : PM) (r : Int32 × PM), f_X11_row a1 a2 a3 M = some r → hr_G 256 0 [some (.ref 275), some (.int a1), some (.int a2), some (.int a3)] [] M (some (.int r.1), r.2) := by
  intro M r h
  unfold f_X11_row at h
  refine hr_Grun mf_X11_row lb_X11_row_0 (P := (hr_K 275 = 10 ∧ 275 < hr_n) ∧ True) (pc' := 8) (ls' := [some (.ref 275), some (.int a1), some (.int a2), some (.int a3)]) (st' := [.int a2, .int a1, .ref 275]) (M' := hr_si M 275 0 0) rfl rfl ⟨⟨K_275, L_275⟩, trivial⟩ ?_
  refine hr_Fb h (fun v2 M2 e2 h => ?_)
  refine hr_Gcv mf_X11_row mf_X11_layGallery lb_X11_row_8 (b := 275) (as := [.int a1, .int a2]) (rest := []) (st2 := [.int v2]) (v := some (.int v2)) (M1 := M2) rfl rfl rfl rfl rfl rfl K_275 (g_X11_layGallery a1 a2 _ _ e2) rfl rfl ?_
  refine hr_Grun mf_X11_row lb_X11_row_11 (P := True) (pc' := if v2 = 0 then 28 else 14) (ls' := [some (.ref 275), some (.int a1), some (.int a2), some (.int a3)]) (st' := []) (M' := M2) rfl rfl trivial ?_
  refine hr_Gif h (fun _ h => ?_) (fun _ h => ?_)
  · refine hr_Grun mf_X11_row lb_X11_row_28 (P := True) (pc' := 29) (ls' := [some (.ref 275), some (.int a1), some (.int a2), some (.int a3)]) (st' := [.int (-1)]) (M' := M2) rfl rfl trivial ?_
    cases h
    exact hr_Gret mf_X11_row lb_X11_row_29 rfl rfl trivial
  · refine hr_Grun mf_X11_row lb_X11_row_14 (P := True) (pc' := 17) (ls' := [some (.ref 275), some (.int a1), some (.int a2), some (.int a3)]) (st' := [.ref 275, .int 0, .int a3]) (M' := M2) rfl rfl trivial ?_
    refine hr_Fb h (fun v6 M6 e6 h => ?_)
    refine hr_Gcv mf_X11_row mf_X11_pictures lb_X11_row_17 (b := 275) (as := []) (rest := [.int 0, .int a3]) (st2 := [.int v6, .int 0, .int a3]) (v := some (.int v6)) (M1 := M6) rfl rfl rfl rfl rfl rfl K_275 (g_X11_pictures  _ _ e6) rfl rfl ?_
    refine hr_Grun mf_X11_row lb_X11_row_20 (P := True) (pc' := 22) (ls' := [some (.ref 275), some (.int a1), some (.int a2), some (.int a3)]) (st' := [.int (v6 - 1), .int 0, .int a3]) (M' := M6) rfl rfl trivial ?_
    refine hr_Fb h (fun v8 M8 e8 h => ?_)
    refine hr_Gcs mf_X11_row mf_X11_in lb_X11_row_22 (as := [.int a3, .int 0, .int (v6 - 1)]) (rest := []) (st2 := [.int v8]) (v := some (.int v8)) (M1 := M8) rfl rfl rfl rfl rfl rfl (g_X11_in a3 0 (v6 - 1) _ _ e8) rfl rfl ?_
    refine hr_Grun mf_X11_row lb_X11_row_25 (P := True) (pc' := if v8 = 0 then 28 else 30) (ls' := [some (.ref 275), some (.int a1), some (.int a2), some (.int a3)]) (st' := []) (M' := M8) rfl rfl trivial ?_
    refine hr_Gif h (fun _ h => ?_) (fun _ h => ?_)
    · refine hr_Grun mf_X11_row lb_X11_row_28 (P := True) (pc' := 29) (ls' := [some (.ref 275), some (.int a1), some (.int a2), some (.int a3)]) (st' := [.int (-1)]) (M' := M8) rfl rfl trivial ?_
      cases h
      exact hr_Gret mf_X11_row lb_X11_row_29 rfl rfl trivial
    · refine hr_Grun mf_X11_row lb_X11_row_30 (P := True) (pc' := 31) (ls' := [some (.ref 275), some (.int a1), some (.int a2), some (.int a3)]) (st' := [.ref 275]) (M' := M8) rfl rfl trivial ?_
      refine hr_Fb h (fun v12 M12 e12 h => ?_)
      refine hr_Gcv mf_X11_row mf_X11_layPictures lb_X11_row_31 (b := 275) (as := []) (rest := []) (st2 := []) (v := none) (M1 := M12) rfl rfl rfl rfl rfl rfl K_275 (g_X11_layPictures  _ _ e12) rfl rfl ?_
      refine hr_Grun mf_X11_row lb_X11_row_34 (P := True) (pc' := 35) (ls' := [some (.ref 275), some (.int a1), some (.int a2), some (.int a3)]) (st' := [.ref 275]) (M' := M12) rfl rfl trivial ?_
      refine hr_Fb h (fun v14 M14 e14 h => ?_)
      refine hr_Gcv mf_X11_row mf_X11_allRows lb_X11_row_35 (b := 275) (as := []) (rest := []) (st2 := [.long v14]) (v := some (.long v14)) (M1 := M14) rfl rfl rfl rfl rfl rfl K_275 (g_X11_allRows  _ _ e14) rfl rfl ?_
      refine hr_Grun mf_X11_row lb_X11_row_38 (P := True) (pc' := if (lg_cmp v14 0) = 0 then 43 else 47) (ls' := [some (.ref 275), some (.int a1), some (.int a2), some (.int a3)]) (st' := []) (M' := M14) rfl rfl trivial ?_
      refine hr_Gif h (fun _ h => ?_) (fun _ h => ?_)
      · refine hr_Grun mf_X11_row lb_X11_row_43 (P := True) (pc' := 52) (ls' := [some (.ref 275), some (.int a1), some (.int a2), some (.int a3)]) (st' := [.int (-1)]) (M' := M14) rfl rfl trivial ?_
        cases h
        exact hr_Gret mf_X11_row lb_X11_row_52 rfl rfl trivial
      · refine hr_Grun mf_X11_row lb_X11_row_47 (P := True) (pc' := 49) (ls' := [some (.ref 275), some (.int a1), some (.int a2), some (.int a3)]) (st' := [.int a3, .ref 275]) (M' := M14) rfl rfl trivial ?_
        refine hr_Fb h (fun v18 M18 e18 h => ?_)
        refine hr_Gcv mf_X11_row mf_X11_rowAt lb_X11_row_49 (b := 275) (as := [.int a3]) (rest := []) (st2 := [.int v18]) (v := some (.int v18)) (M1 := M18) rfl rfl rfl rfl rfl rfl K_275 (g_X11_rowAt a3 _ _ e18) rfl rfl ?_
        cases h
        exact hr_Gret mf_X11_row lb_X11_row_52 rfl rfl trivial
theorem mf_X11_paintCost : hr_mf 257 11 2 (some .int) 5 2 bk_X11_paintCost := ⟨rfl, rfl, rfl, rfl, rfl, rfl⟩
theorem lb_X11_paintCost_0 : bk_X11_paintCost.lookup 0 = some [(.iconst 0, 1), (.istore_n 3, 1), (.iconst 0, 1), (.istore 4, 2)] := rfl
theorem lb_X11_paintCost_5 : bk_X11_paintCost.lookup 5 = some [(.iload 4, 2), (.iconst 3, 1), (.if_icmp .ge 34, 3)] := rfl
theorem lb_X11_paintCost_11 : bk_X11_paintCost.lookup 11 = some [(.iload_n 3, 1), (.aload_n 0, 1), (.iload_n 2, 1), (.iload 4, 2)] := rfl
theorem lb_X11_paintCost_16 : bk_X11_paintCost.lookup 16 = some [(.invokevirtual 285, 3)] := rfl
theorem lb_X11_paintCost_19 : bk_X11_paintCost.lookup 19 = some [(.aload_n 0, 1), (.aload_n 0, 1), (.iload_n 1, 1)] := rfl
theorem lb_X11_paintCost_22 : bk_X11_paintCost.lookup 22 = some [(.invokevirtual 353, 3)] := rfl
theorem lb_X11_paintCost_25 : bk_X11_paintCost.lookup 25 = some [(.iload 4, 2)] := rfl
theorem lb_X11_paintCost_27 : bk_X11_paintCost.lookup 27 = some [(.invokevirtual 285, 3)] := rfl
theorem lb_X11_paintCost_30 : bk_X11_paintCost.lookup 30 = some [(.isub, 1)] := rfl
theorem lb_X11_paintCost_31 : bk_X11_paintCost.lookup 31 = some [(.invokestatic 291, 3)] := rfl
theorem lb_X11_paintCost_34 : bk_X11_paintCost.lookup 34 = some [(.iadd, 1), (.istore_n 3, 1), (.iinc 4 1, 3), (.goto (-34), 3)] := rfl
theorem lb_X11_paintCost_42 : bk_X11_paintCost.lookup 42 = some [(.aload_n 0, 1), (.iload_n 1, 1)] := rfl
theorem lb_X11_paintCost_44 : bk_X11_paintCost.lookup 44 = some [(.invokevirtual 356, 3)] := rfl
theorem lb_X11_paintCost_47 : bk_X11_paintCost.lookup 47 = some [(.iload_n 3, 1), (.imul, 1)] := rfl
theorem lb_X11_paintCost_49 : bk_X11_paintCost.lookup 49 = some [(.ireturn, 1)] := rfl
def f_X11_paintCost_5 (a1 : Int32) (a2 : Int32) : Nat → Int32 → Int32 → PM → Option (Int32 × PM)
  | 0, _, _, _ => none
  | f + 1, x3, x4, M =>
    if 3 ≤ x4 then
      hr_bd (f_X11_areaOf a1 M) (fun v3 M3 =>
      some ((v3 * x3), M3))
    else
      hr_bd (f_X11_part a2 x4 M) (fun v6 M6 =>
      hr_bd (f_X11_hueOf a1 M6) (fun v8 M8 =>
      hr_bd (f_X11_part v8 x4 M8) (fun v10 M10 =>
      hr_bd (f_X11_size (v6 - v10) M10) (fun v12 M12 =>
      f_X11_paintCost_5 a1 a2 f (x3 + v12) (x4 + 1) M12))))
theorem g_X11_paintCost_5 (a1 : Int32) (a2 : Int32)  : ∀ (f : Nat) (x3 : Int32) (x4 : Int32) (M : PM) (r : Int32 × PM), f_X11_paintCost_5 a1 a2 f x3 x4 M = some r → hr_G 257 5 [some (.ref 275), some (.int a1), some (.int a2), some (.int x3), some (.int x4)] [] M (some (.int r.1), r.2) := by
  intro f
  induction f with
  | zero => intro x3 x4 M r h; cases h
  | succ f ih =>
    intro x3 x4 M r h
    rw [f_X11_paintCost_5.eq_2] at h
    refine hr_Grun mf_X11_paintCost lb_X11_paintCost_5 (P := True) (pc' := if 3 ≤ x4 then 42 else 11) (ls' := [some (.ref 275), some (.int a1), some (.int a2), some (.int x3), some (.int x4)]) (st' := []) (M' := M) rfl rfl trivial ?_
    refine hr_Gif h (fun _ h => ?_) (fun _ h => ?_)
    · refine hr_Grun mf_X11_paintCost lb_X11_paintCost_42 (P := True) (pc' := 44) (ls' := [some (.ref 275), some (.int a1), some (.int a2), some (.int x3), some (.int x4)]) (st' := [.int a1, .ref 275]) (M' := M) rfl rfl trivial ?_
      refine hr_Fb h (fun v3 M3 e3 h => ?_)
      refine hr_Gcv mf_X11_paintCost mf_X11_areaOf lb_X11_paintCost_44 (b := 275) (as := [.int a1]) (rest := []) (st2 := [.int v3]) (v := some (.int v3)) (M1 := M3) rfl rfl rfl rfl rfl rfl K_275 (g_X11_areaOf a1 _ _ e3) rfl rfl ?_
      refine hr_Grun mf_X11_paintCost lb_X11_paintCost_47 (P := True) (pc' := 49) (ls' := [some (.ref 275), some (.int a1), some (.int a2), some (.int x3), some (.int x4)]) (st' := [.int (v3 * x3)]) (M' := M3) rfl rfl trivial ?_
      cases h
      exact hr_Gret mf_X11_paintCost lb_X11_paintCost_49 rfl rfl trivial
    · refine hr_Grun mf_X11_paintCost lb_X11_paintCost_11 (P := True) (pc' := 16) (ls' := [some (.ref 275), some (.int a1), some (.int a2), some (.int x3), some (.int x4)]) (st' := [.int x4, .int a2, .ref 275, .int x3]) (M' := M) rfl rfl trivial ?_
      refine hr_Fb h (fun v6 M6 e6 h => ?_)
      refine hr_Gcv mf_X11_paintCost mf_X11_part lb_X11_paintCost_16 (b := 275) (as := [.int a2, .int x4]) (rest := [.int x3]) (st2 := [.int v6, .int x3]) (v := some (.int v6)) (M1 := M6) rfl rfl rfl rfl rfl rfl K_275 (g_X11_part a2 x4 _ _ e6) rfl rfl ?_
      refine hr_Grun mf_X11_paintCost lb_X11_paintCost_19 (P := True) (pc' := 22) (ls' := [some (.ref 275), some (.int a1), some (.int a2), some (.int x3), some (.int x4)]) (st' := [.int a1, .ref 275, .ref 275, .int v6, .int x3]) (M' := M6) rfl rfl trivial ?_
      refine hr_Fb h (fun v8 M8 e8 h => ?_)
      refine hr_Gcv mf_X11_paintCost mf_X11_hueOf lb_X11_paintCost_22 (b := 275) (as := [.int a1]) (rest := [.ref 275, .int v6, .int x3]) (st2 := [.int v8, .ref 275, .int v6, .int x3]) (v := some (.int v8)) (M1 := M8) rfl rfl rfl rfl rfl rfl K_275 (g_X11_hueOf a1 _ _ e8) rfl rfl ?_
      refine hr_Grun mf_X11_paintCost lb_X11_paintCost_25 (P := True) (pc' := 27) (ls' := [some (.ref 275), some (.int a1), some (.int a2), some (.int x3), some (.int x4)]) (st' := [.int x4, .int v8, .ref 275, .int v6, .int x3]) (M' := M8) rfl rfl trivial ?_
      refine hr_Fb h (fun v10 M10 e10 h => ?_)
      refine hr_Gcv mf_X11_paintCost mf_X11_part lb_X11_paintCost_27 (b := 275) (as := [.int v8, .int x4]) (rest := [.int v6, .int x3]) (st2 := [.int v10, .int v6, .int x3]) (v := some (.int v10)) (M1 := M10) rfl rfl rfl rfl rfl rfl K_275 (g_X11_part v8 x4 _ _ e10) rfl rfl ?_
      refine hr_Grun mf_X11_paintCost lb_X11_paintCost_30 (P := True) (pc' := 31) (ls' := [some (.ref 275), some (.int a1), some (.int a2), some (.int x3), some (.int x4)]) (st' := [.int (v6 - v10), .int x3]) (M' := M10) rfl rfl trivial ?_
      refine hr_Fb h (fun v12 M12 e12 h => ?_)
      refine hr_Gcs mf_X11_paintCost mf_X11_size lb_X11_paintCost_31 (as := [.int (v6 - v10)]) (rest := [.int x3]) (st2 := [.int v12, .int x3]) (v := some (.int v12)) (M1 := M12) rfl rfl rfl rfl rfl rfl (g_X11_size (v6 - v10) _ _ e12) rfl rfl ?_
      refine hr_Grun mf_X11_paintCost lb_X11_paintCost_34 (P := True) (pc' := 5) (ls' := [some (.ref 275), some (.int a1), some (.int a2), some (.int (x3 + v12)), some (.int (x4 + 1))]) (st' := []) (M' := M12) rfl rfl trivial ?_
      exact ih (x3 + v12) (x4 + 1) M12 _ h
def f_X11_paintCost (a1 : Int32) (a2 : Int32) (M : PM) : Option (Int32 × PM) :=
  f_X11_paintCost_5 a1 a2 FU 0 0 M
theorem g_X11_paintCost (a1 : Int32) (a2 : Int32) : ∀ (M : PM) (r : Int32 × PM), f_X11_paintCost a1 a2 M = some r → hr_G 257 0 [some (.ref 275), some (.int a1), some (.int a2), none, none] [] M (some (.int r.1), r.2) := by
  intro M r h
  unfold f_X11_paintCost at h
  refine hr_Grun mf_X11_paintCost lb_X11_paintCost_0 (P := True) (pc' := 5) (ls' := [some (.ref 275), some (.int a1), some (.int a2), some (.int 0), some (.int 0)]) (st' := []) (M' := M) rfl rfl trivial ?_
  exact g_X11_paintCost_5 a1 a2 FU 0 0 M _ h
theorem mf_X11_findPaint : hr_mf 258 11 3 none 6 0 bk_X11_findPaint := ⟨rfl, rfl, rfl, rfl, rfl, rfl⟩
theorem lb_X11_findPaint_0 : bk_X11_findPaint.lookup 0 = some [(.aload_n 0, 1)] := rfl
theorem lb_X11_findPaint_1 : bk_X11_findPaint.lookup 1 = some [(.invokevirtual 347, 3)] := rfl
theorem lb_X11_findPaint_4 : bk_X11_findPaint.lookup 4 = some [(.istore_n 1, 1), (.iconst 0, 1), (.istore_n 2, 1)] := rfl
theorem lb_X11_findPaint_7 : bk_X11_findPaint.lookup 7 = some [(.iload_n 2, 1), (.bipush 10, 2), (.if_icmp .ge 21, 3)] := rfl
theorem lb_X11_findPaint_13 : bk_X11_findPaint.lookup 13 = some [(.aload_n 0, 1), (.getfield 78, 3), (.bipush 10, 2), (.iload_n 1, 1), (.imul, 1), (.iload_n 2, 1), (.iadd, 1), (.iconst 0, 1), (.iastore, 1), (.iinc 2 1, 3), (.goto (-21), 3)] := rfl
theorem lb_X11_findPaint_31 : bk_X11_findPaint.lookup 31 = some [(.iload_n 1, 1), (.iconst 1, 1), (.isub, 1), (.istore_n 2, 1)] := rfl
theorem lb_X11_findPaint_35 : bk_X11_findPaint.lookup 35 = some [(.iload_n 2, 1), (.ifCond .lt 136, 3)] := rfl
theorem lb_X11_findPaint_39 : bk_X11_findPaint.lookup 39 = some [(.iconst 0, 1), (.istore_n 3, 1)] := rfl
theorem lb_X11_findPaint_41 : bk_X11_findPaint.lookup 41 = some [(.iload_n 3, 1), (.aload_n 0, 1), (.getfield 299, 3), (.if_icmp .ge 120, 3)] := rfl
theorem lb_X11_findPaint_49 : bk_X11_findPaint.lookup 49 = some [(.iload_n 2, 1), (.iload_n 1, 1), (.iconst 1, 1), (.isub, 1), (.if_icmp .ne 7, 3)] := rfl
theorem lb_X11_findPaint_56 : bk_X11_findPaint.lookup 56 = some [(.iconst 0, 1), (.goto 6, 3)] := rfl
theorem lb_X11_findPaint_60 : bk_X11_findPaint.lookup 60 = some [(.ldc_w 453, 3)] := rfl
theorem lb_X11_findPaint_63 : bk_X11_findPaint.lookup 63 = some [(.istore 4, 2), (.iconst 0, 1), (.istore 5, 2)] := rfl
theorem lb_X11_findPaint_68 : bk_X11_findPaint.lookup 68 = some [(.iload 5, 2), (.aload_n 0, 1), (.getfield 299, 3), (.if_icmp .ge 52, 3)] := rfl
theorem lb_X11_findPaint_77 : bk_X11_findPaint.lookup 77 = some [(.iload_n 2, 1), (.iload_n 1, 1), (.iconst 1, 1), (.isub, 1), (.if_icmp .ge 45, 3)] := rfl
theorem lb_X11_findPaint_84 : bk_X11_findPaint.lookup 84 = some [(.aload_n 0, 1), (.iload_n 3, 1), (.iload 5, 2)] := rfl
theorem lb_X11_findPaint_88 : bk_X11_findPaint.lookup 88 = some [(.invokevirtual 314, 3)] := rfl
theorem lb_X11_findPaint_91 : bk_X11_findPaint.lookup 91 = some [(.ifCond .eq 8, 3)] := rfl
theorem lb_X11_findPaint_94 : bk_X11_findPaint.lookup 94 = some [(.iload 4, 2), (.goto 22, 3)] := rfl
theorem lb_X11_findPaint_99 : bk_X11_findPaint.lookup 99 = some [(.iload 4, 2), (.aload_n 0, 1), (.getfield 78, 3), (.bipush 10, 2), (.iload_n 2, 1), (.iconst 1, 1), (.iadd, 1), (.imul, 1), (.iload 5, 2), (.iadd, 1), (.iaload, 1)] := rfl
theorem lb_X11_findPaint_115 : bk_X11_findPaint.lookup 115 = some [(.invokestatic 454, 3)] := rfl
theorem lb_X11_findPaint_118 : bk_X11_findPaint.lookup 118 = some [(.istore 4, 2), (.iinc 5 1, 3), (.goto (-55), 3)] := rfl
theorem lb_X11_findPaint_126 : bk_X11_findPaint.lookup 126 = some [(.aload_n 0, 1), (.getfield 78, 3), (.bipush 10, 2), (.iload_n 2, 1), (.imul, 1), (.iload_n 3, 1), (.iadd, 1), (.iload 4, 2), (.ldc_w 453, 3), (.if_icmp .lt 9, 3)] := rfl
theorem lb_X11_findPaint_144 : bk_X11_findPaint.lookup 144 = some [(.ldc_w 453, 3), (.goto 12, 3)] := rfl
theorem lb_X11_findPaint_150 : bk_X11_findPaint.lookup 150 = some [(.aload_n 0, 1), (.iload_n 2, 1), (.iload_n 3, 1)] := rfl
theorem lb_X11_findPaint_153 : bk_X11_findPaint.lookup 153 = some [(.invokevirtual 457, 3)] := rfl
theorem lb_X11_findPaint_156 : bk_X11_findPaint.lookup 156 = some [(.iload 4, 2), (.iadd, 1)] := rfl
theorem lb_X11_findPaint_159 : bk_X11_findPaint.lookup 159 = some [(.iastore, 1), (.iinc 3 1, 3), (.goto (-122), 3)] := rfl
theorem lb_X11_findPaint_166 : bk_X11_findPaint.lookup 166 = some [(.iinc 2 (-1), 3), (.goto (-134), 3)] := rfl
theorem lb_X11_findPaint_172 : bk_X11_findPaint.lookup 172 = some [(.return_, 1)] := rfl
def f_X11_findPaint_126  (k35 : Int32 → Int32 → PM → Option (Unit × PM)) (k41 : Int32 → Int32 → Int32 → PM → Option (Unit × PM)) (x1 : Int32) (x2 : Int32) (x3 : Int32) (x4 : Int32) (M : PM) : Option (Unit × PM) :=
  if x4 < 1000000 then
    hr_bd (f_X11_paintCost x2 x3 M) (fun v3 M3 =>
    if inB ((10 * x2) + x3) 100 = true then 
    k41 x1 x2 (x3 + 1) (hr_si M3 298 ((10 * x2) + x3).toNatClampNeg (v3 + x4)) else none)
  else
    if inB ((10 * x2) + x3) 100 = true then 
    k41 x1 x2 (x3 + 1) (hr_si M 298 ((10 * x2) + x3).toNatClampNeg 1000000) else none
theorem g_X11_findPaint_126   (k35 : Int32 → Int32 → PM → Option (Unit × PM)) (k41 : Int32 → Int32 → Int32 → PM → Option (Unit × PM)) (hk35 : ∀ (x1 : Int32) (x2 : Int32) (M : PM) (r : Unit × PM), k35 x1 x2 M = some r → hr_G 258 35 [some (.ref 275), some (.int x1), some (.int x2), none, none, none] [] M (none, r.2)) (hk41 : ∀ (x1 : Int32) (x2 : Int32) (x3 : Int32) (M : PM) (r : Unit × PM), k41 x1 x2 x3 M = some r → hr_G 258 41 [some (.ref 275), some (.int x1), some (.int x2), some (.int x3), none, none] [] M (none, r.2)) : ∀ (x1 : Int32) (x2 : Int32) (x3 : Int32) (x4 : Int32) (M : PM) (r : Unit × PM), f_X11_findPaint_126 k35 k41 x1 x2 x3 x4 M = some r → hr_G 258 126 [some (.ref 275), some (.int x1), some (.int x2), some (.int x3), some (.int x4), none] [] M (none, r.2) := by
  intro x1 x2 x3 x4 M r h
  unfold f_X11_findPaint_126 at h
  refine hr_Grun mf_X11_findPaint lb_X11_findPaint_126 (P := hr_K 275 = 10 ∧ True) (pc' := if x4 < 1000000 then 150 else 144) (ls' := [some (.ref 275), some (.int x1), some (.int x2), some (.int x3), some (.int x4), none]) (st' := [.int ((10 * x2) + x3), .ref 298]) (M' := M) rfl rfl ⟨K_275, trivial⟩ ?_
  refine hr_Gif h (fun _ h => ?_) (fun _ h => ?_)
  · refine hr_Grun mf_X11_findPaint lb_X11_findPaint_150 (P := True) (pc' := 153) (ls' := [some (.ref 275), some (.int x1), some (.int x2), some (.int x3), some (.int x4), none]) (st' := [.int x3, .int x2, .ref 275, .int ((10 * x2) + x3), .ref 298]) (M' := M) rfl rfl trivial ?_
    refine hr_Fb h (fun v3 M3 e3 h => ?_)
    refine hr_Gcv mf_X11_findPaint mf_X11_paintCost lb_X11_findPaint_153 (b := 275) (as := [.int x2, .int x3]) (rest := [.int ((10 * x2) + x3), .ref 298]) (st2 := [.int v3, .int ((10 * x2) + x3), .ref 298]) (v := some (.int v3)) (M1 := M3) rfl rfl rfl rfl rfl rfl K_275 (g_X11_paintCost x2 x3 _ _ e3) rfl rfl ?_
    refine hr_Grun mf_X11_findPaint lb_X11_findPaint_156 (P := True) (pc' := 159) (ls' := [some (.ref 275), some (.int x1), some (.int x2), some (.int x3), some (.int x4), none]) (st' := [.int (v3 + x4), .int ((10 * x2) + x3), .ref 298]) (M' := M3) rfl rfl trivial ?_
    refine hr_Fg h (fun hg5_0 h => ?_)
    refine hr_Grun mf_X11_findPaint lb_X11_findPaint_159 (P := ((hr_K 298 = 12 ∧ 298 < hr_n) ∧ vp_in ((10 * x2) + x3) (hr_N 298)) ∧ True) (pc' := 41) (ls' := [some (.ref 275), some (.int x1), some (.int x2), some (.int (x3 + 1)), some (.int x4), none]) (st' := []) (M' := hr_si M3 298 ((10 * x2) + x3).toNatClampNeg (v3 + x4)) rfl rfl ⟨⟨⟨K_298, L_298⟩, (inB_N N_298 hg5_0)⟩, trivial⟩ ?_
    refine hr_Gle (ls := [some (.ref 275), some (.int x1), some (.int x2), some (.int (x3 + 1)), none, none]) (hr_le_s (hr_le_s (hr_le_s (hr_le_s (hr_le_n (hr_le_n hr_le_0)))))) ?_
    exact hk41 x1 x2 (x3 + 1) (hr_si M3 298 ((10 * x2) + x3).toNatClampNeg (v3 + x4)) _ h
  · refine hr_Grun mf_X11_findPaint lb_X11_findPaint_144 (P := True) (pc' := 159) (ls' := [some (.ref 275), some (.int x1), some (.int x2), some (.int x3), some (.int x4), none]) (st' := [.int 1000000, .int ((10 * x2) + x3), .ref 298]) (M' := M) rfl rfl trivial ?_
    refine hr_Fg h (fun hg7_0 h => ?_)
    refine hr_Grun mf_X11_findPaint lb_X11_findPaint_159 (P := ((hr_K 298 = 12 ∧ 298 < hr_n) ∧ vp_in ((10 * x2) + x3) (hr_N 298)) ∧ True) (pc' := 41) (ls' := [some (.ref 275), some (.int x1), some (.int x2), some (.int (x3 + 1)), some (.int x4), none]) (st' := []) (M' := hr_si M 298 ((10 * x2) + x3).toNatClampNeg 1000000) rfl rfl ⟨⟨⟨K_298, L_298⟩, (inB_N N_298 hg7_0)⟩, trivial⟩ ?_
    refine hr_Gle (ls := [some (.ref 275), some (.int x1), some (.int x2), some (.int (x3 + 1)), none, none]) (hr_le_s (hr_le_s (hr_le_s (hr_le_s (hr_le_n (hr_le_n hr_le_0)))))) ?_
    exact hk41 x1 x2 (x3 + 1) (hr_si M 298 ((10 * x2) + x3).toNatClampNeg 1000000) _ h
def f_X11_findPaint_68  (k35 : Int32 → Int32 → PM → Option (Unit × PM)) (k41 : Int32 → Int32 → Int32 → PM → Option (Unit × PM)) : Nat → Int32 → Int32 → Int32 → Int32 → Int32 → PM → Option (Unit × PM)
  | 0, _, _, _, _, _, _ => none
  | f + 1, x1, x2, x3, x4, x5, M =>
    if (M.1 275 25) ≤ x5 then
      f_X11_findPaint_126 k35 k41 x1 x2 x3 x4 M
    else
      if (x1 - 1) ≤ x2 then
        f_X11_findPaint_126 k35 k41 x1 x2 x3 x4 M
      else
        hr_bd (f_X11_clash x3 x5 M) (fun v4 M4 =>
        if v4 = 0 then
          if inB ((10 * (x2 + 1)) + x5) 100 = true then 
          hr_bd (f_X11_lesser x4 (M4.1 298 ((10 * (x2 + 1)) + x5).toNatClampNeg) M4) (fun v7 M7 =>
          f_X11_findPaint_68 k35 k41 f x1 x2 x3 v7 (x5 + 1) M7) else none
        else
          f_X11_findPaint_68 k35 k41 f x1 x2 x3 x4 (x5 + 1) M4)
theorem g_X11_findPaint_68   (k35 : Int32 → Int32 → PM → Option (Unit × PM)) (k41 : Int32 → Int32 → Int32 → PM → Option (Unit × PM)) (hk35 : ∀ (x1 : Int32) (x2 : Int32) (M : PM) (r : Unit × PM), k35 x1 x2 M = some r → hr_G 258 35 [some (.ref 275), some (.int x1), some (.int x2), none, none, none] [] M (none, r.2)) (hk41 : ∀ (x1 : Int32) (x2 : Int32) (x3 : Int32) (M : PM) (r : Unit × PM), k41 x1 x2 x3 M = some r → hr_G 258 41 [some (.ref 275), some (.int x1), some (.int x2), some (.int x3), none, none] [] M (none, r.2)) : ∀ (f : Nat) (x1 : Int32) (x2 : Int32) (x3 : Int32) (x4 : Int32) (x5 : Int32) (M : PM) (r : Unit × PM), f_X11_findPaint_68 k35 k41 f x1 x2 x3 x4 x5 M = some r → hr_G 258 68 [some (.ref 275), some (.int x1), some (.int x2), some (.int x3), some (.int x4), some (.int x5)] [] M (none, r.2) := by
  intro f
  induction f with
  | zero => intro x1 x2 x3 x4 x5 M r h; cases h
  | succ f ih =>
    intro x1 x2 x3 x4 x5 M r h
    rw [f_X11_findPaint_68.eq_2] at h
    refine hr_Grun mf_X11_findPaint lb_X11_findPaint_68 (P := hr_K 275 = 10 ∧ True) (pc' := if (M.1 275 25) ≤ x5 then 126 else 77) (ls' := [some (.ref 275), some (.int x1), some (.int x2), some (.int x3), some (.int x4), some (.int x5)]) (st' := []) (M' := M) rfl rfl ⟨K_275, trivial⟩ ?_
    refine hr_Gif h (fun _ h => ?_) (fun _ h => ?_)
    · refine hr_Gle (ls := [some (.ref 275), some (.int x1), some (.int x2), some (.int x3), some (.int x4), none]) (hr_le_s (hr_le_s (hr_le_s (hr_le_s (hr_le_s (hr_le_n hr_le_0)))))) ?_
      exact g_X11_findPaint_126 k35 k41 hk35 hk41 x1 x2 x3 x4 M _ h
    · refine hr_Grun mf_X11_findPaint lb_X11_findPaint_77 (P := True) (pc' := if (x1 - 1) ≤ x2 then 126 else 84) (ls' := [some (.ref 275), some (.int x1), some (.int x2), some (.int x3), some (.int x4), some (.int x5)]) (st' := []) (M' := M) rfl rfl trivial ?_
      refine hr_Gif h (fun _ h => ?_) (fun _ h => ?_)
      · refine hr_Gle (ls := [some (.ref 275), some (.int x1), some (.int x2), some (.int x3), some (.int x4), none]) (hr_le_s (hr_le_s (hr_le_s (hr_le_s (hr_le_s (hr_le_n hr_le_0)))))) ?_
        exact g_X11_findPaint_126 k35 k41 hk35 hk41 x1 x2 x3 x4 M _ h
      · refine hr_Grun mf_X11_findPaint lb_X11_findPaint_84 (P := True) (pc' := 88) (ls' := [some (.ref 275), some (.int x1), some (.int x2), some (.int x3), some (.int x4), some (.int x5)]) (st' := [.int x5, .int x3, .ref 275]) (M' := M) rfl rfl trivial ?_
        refine hr_Fb h (fun v4 M4 e4 h => ?_)
        refine hr_Gcv mf_X11_findPaint mf_X11_clash lb_X11_findPaint_88 (b := 275) (as := [.int x3, .int x5]) (rest := []) (st2 := [.int v4]) (v := some (.int v4)) (M1 := M4) rfl rfl rfl rfl rfl rfl K_275 (g_X11_clash x3 x5 _ _ e4) rfl rfl ?_
        refine hr_Grun mf_X11_findPaint lb_X11_findPaint_91 (P := True) (pc' := if v4 = 0 then 99 else 94) (ls' := [some (.ref 275), some (.int x1), some (.int x2), some (.int x3), some (.int x4), some (.int x5)]) (st' := []) (M' := M4) rfl rfl trivial ?_
        refine hr_Gif h (fun _ h => ?_) (fun _ h => ?_)
        · refine hr_Fg h (fun hg6_0 h => ?_)
          refine hr_Grun mf_X11_findPaint lb_X11_findPaint_99 (P := hr_K 275 = 10 ∧ (hr_K 298 = 12 ∧ vp_in ((10 * (x2 + 1)) + x5) (hr_N 298)) ∧ True) (pc' := 115) (ls' := [some (.ref 275), some (.int x1), some (.int x2), some (.int x3), some (.int x4), some (.int x5)]) (st' := [.int (M4.1 298 ((10 * (x2 + 1)) + x5).toNatClampNeg), .int x4]) (M' := M4) rfl rfl ⟨K_275, ⟨K_298, (inB_N N_298 hg6_0)⟩, trivial⟩ ?_
          refine hr_Fb h (fun v7 M7 e7 h => ?_)
          refine hr_Gcs mf_X11_findPaint mf_X11_lesser lb_X11_findPaint_115 (as := [.int x4, .int (M4.1 298 ((10 * (x2 + 1)) + x5).toNatClampNeg)]) (rest := []) (st2 := [.int v7]) (v := some (.int v7)) (M1 := M7) rfl rfl rfl rfl rfl rfl (g_X11_lesser x4 (M4.1 298 ((10 * (x2 + 1)) + x5).toNatClampNeg) _ _ e7) rfl rfl ?_
          refine hr_Grun mf_X11_findPaint lb_X11_findPaint_118 (P := True) (pc' := 68) (ls' := [some (.ref 275), some (.int x1), some (.int x2), some (.int x3), some (.int v7), some (.int (x5 + 1))]) (st' := []) (M' := M7) rfl rfl trivial ?_
          exact ih x1 x2 x3 v7 (x5 + 1) M7 _ h
        · refine hr_Grun mf_X11_findPaint lb_X11_findPaint_94 (P := True) (pc' := 118) (ls' := [some (.ref 275), some (.int x1), some (.int x2), some (.int x3), some (.int x4), some (.int x5)]) (st' := [.int x4]) (M' := M4) rfl rfl trivial ?_
          refine hr_Grun mf_X11_findPaint lb_X11_findPaint_118 (P := True) (pc' := 68) (ls' := [some (.ref 275), some (.int x1), some (.int x2), some (.int x3), some (.int x4), some (.int (x5 + 1))]) (st' := []) (M' := M4) rfl rfl trivial ?_
          exact ih x1 x2 x3 x4 (x5 + 1) M4 _ h
def f_X11_findPaint_41  (k35 : Int32 → Int32 → PM → Option (Unit × PM)) : Nat → Int32 → Int32 → Int32 → PM → Option (Unit × PM)
  | 0, _, _, _, _ => none
  | f + 1, x1, x2, x3, M =>
    if (M.1 275 25) ≤ x3 then
      k35 x1 (x2 + (-1)) M
    else
      if x2 = (x1 - 1) then
        f_X11_findPaint_68 k35 (fun x1 x2 x3 M => f_X11_findPaint_41 k35 f x1 x2 x3 M) FU x1 x2 x3 0 0 M
      else
        f_X11_findPaint_68 k35 (fun x1 x2 x3 M => f_X11_findPaint_41 k35 f x1 x2 x3 M) FU x1 x2 x3 1000000 0 M
theorem g_X11_findPaint_41   (k35 : Int32 → Int32 → PM → Option (Unit × PM)) (hk35 : ∀ (x1 : Int32) (x2 : Int32) (M : PM) (r : Unit × PM), k35 x1 x2 M = some r → hr_G 258 35 [some (.ref 275), some (.int x1), some (.int x2), none, none, none] [] M (none, r.2)) : ∀ (f : Nat) (x1 : Int32) (x2 : Int32) (x3 : Int32) (M : PM) (r : Unit × PM), f_X11_findPaint_41 k35 f x1 x2 x3 M = some r → hr_G 258 41 [some (.ref 275), some (.int x1), some (.int x2), some (.int x3), none, none] [] M (none, r.2) := by
  intro f
  induction f with
  | zero => intro x1 x2 x3 M r h; cases h
  | succ f ih =>
    intro x1 x2 x3 M r h
    rw [f_X11_findPaint_41.eq_2] at h
    refine hr_Grun mf_X11_findPaint lb_X11_findPaint_41 (P := hr_K 275 = 10 ∧ True) (pc' := if (M.1 275 25) ≤ x3 then 166 else 49) (ls' := [some (.ref 275), some (.int x1), some (.int x2), some (.int x3), none, none]) (st' := []) (M' := M) rfl rfl ⟨K_275, trivial⟩ ?_
    refine hr_Gif h (fun _ h => ?_) (fun _ h => ?_)
    · refine hr_Grun mf_X11_findPaint lb_X11_findPaint_166 (P := True) (pc' := 35) (ls' := [some (.ref 275), some (.int x1), some (.int (x2 + (-1))), some (.int x3), none, none]) (st' := []) (M' := M) rfl rfl trivial ?_
      refine hr_Gle (ls := [some (.ref 275), some (.int x1), some (.int (x2 + (-1))), none, none, none]) (hr_le_s (hr_le_s (hr_le_s (hr_le_n (hr_le_n (hr_le_n hr_le_0)))))) ?_
      exact hk35 x1 (x2 + (-1)) M _ h
    · refine hr_Grun mf_X11_findPaint lb_X11_findPaint_49 (P := True) (pc' := if x2 = (x1 - 1) then 56 else 60) (ls' := [some (.ref 275), some (.int x1), some (.int x2), some (.int x3), none, none]) (st' := []) (M' := M) rfl rfl trivial ?_
      refine hr_Gif h (fun _ h => ?_) (fun _ h => ?_)
      · refine hr_Grun mf_X11_findPaint lb_X11_findPaint_56 (P := True) (pc' := 63) (ls' := [some (.ref 275), some (.int x1), some (.int x2), some (.int x3), none, none]) (st' := [.int 0]) (M' := M) rfl rfl trivial ?_
        refine hr_Grun mf_X11_findPaint lb_X11_findPaint_63 (P := True) (pc' := 68) (ls' := [some (.ref 275), some (.int x1), some (.int x2), some (.int x3), some (.int 0), some (.int 0)]) (st' := []) (M' := M) rfl rfl trivial ?_
        exact g_X11_findPaint_68 k35 (fun x1 x2 x3 M => f_X11_findPaint_41 k35 f x1 x2 x3 M) hk35 (fun x1 x2 x3 M r h => ih x1 x2 x3 M r h) FU x1 x2 x3 0 0 M _ h
      · refine hr_Grun mf_X11_findPaint lb_X11_findPaint_60 (P := True) (pc' := 63) (ls' := [some (.ref 275), some (.int x1), some (.int x2), some (.int x3), none, none]) (st' := [.int 1000000]) (M' := M) rfl rfl trivial ?_
        refine hr_Grun mf_X11_findPaint lb_X11_findPaint_63 (P := True) (pc' := 68) (ls' := [some (.ref 275), some (.int x1), some (.int x2), some (.int x3), some (.int 1000000), some (.int 0)]) (st' := []) (M' := M) rfl rfl trivial ?_
        exact g_X11_findPaint_68 k35 (fun x1 x2 x3 M => f_X11_findPaint_41 k35 f x1 x2 x3 M) hk35 (fun x1 x2 x3 M r h => ih x1 x2 x3 M r h) FU x1 x2 x3 1000000 0 M _ h
def f_X11_findPaint_35  : Nat → Int32 → Int32 → PM → Option (Unit × PM)
  | 0, _, _, _ => none
  | f + 1, x1, x2, M =>
    if x2 < 0 then
      some ((), M)
    else
      f_X11_findPaint_41 (fun x1 x2 M => f_X11_findPaint_35 f x1 x2 M) FU x1 x2 0 M
theorem g_X11_findPaint_35   : ∀ (f : Nat) (x1 : Int32) (x2 : Int32) (M : PM) (r : Unit × PM), f_X11_findPaint_35 f x1 x2 M = some r → hr_G 258 35 [some (.ref 275), some (.int x1), some (.int x2), none, none, none] [] M (none, r.2) := by
  intro f
  induction f with
  | zero => intro x1 x2 M r h; cases h
  | succ f ih =>
    intro x1 x2 M r h
    rw [f_X11_findPaint_35.eq_2] at h
    refine hr_Grun mf_X11_findPaint lb_X11_findPaint_35 (P := True) (pc' := if x2 < 0 then 172 else 39) (ls' := [some (.ref 275), some (.int x1), some (.int x2), none, none, none]) (st' := []) (M' := M) rfl rfl trivial ?_
    refine hr_Gif h (fun _ h => ?_) (fun _ h => ?_)
    · cases h
      exact hr_Gret mf_X11_findPaint lb_X11_findPaint_172 rfl rfl trivial
    · refine hr_Grun mf_X11_findPaint lb_X11_findPaint_39 (P := True) (pc' := 41) (ls' := [some (.ref 275), some (.int x1), some (.int x2), some (.int 0), none, none]) (st' := []) (M' := M) rfl rfl trivial ?_
      exact g_X11_findPaint_41 (fun x1 x2 M => f_X11_findPaint_35 f x1 x2 M) (fun x1 x2 M r h => ih x1 x2 M r h) FU x1 x2 0 M _ h
def f_X11_findPaint_7  : Nat → Int32 → Int32 → PM → Option (Unit × PM)
  | 0, _, _, _ => none
  | f + 1, x1, x2, M =>
    if 10 ≤ x2 then
      f_X11_findPaint_35 FU x1 (x1 - 1) M
    else
      if inB ((10 * x1) + x2) 100 = true then 
      f_X11_findPaint_7 f x1 (x2 + 1) (hr_si M 298 ((10 * x1) + x2).toNatClampNeg 0) else none
theorem g_X11_findPaint_7   : ∀ (f : Nat) (x1 : Int32) (x2 : Int32) (M : PM) (r : Unit × PM), f_X11_findPaint_7 f x1 x2 M = some r → hr_G 258 7 [some (.ref 275), some (.int x1), some (.int x2), none, none, none] [] M (none, r.2) := by
  intro f
  induction f with
  | zero => intro x1 x2 M r h; cases h
  | succ f ih =>
    intro x1 x2 M r h
    rw [f_X11_findPaint_7.eq_2] at h
    refine hr_Grun mf_X11_findPaint lb_X11_findPaint_7 (P := True) (pc' := if 10 ≤ x2 then 31 else 13) (ls' := [some (.ref 275), some (.int x1), some (.int x2), none, none, none]) (st' := []) (M' := M) rfl rfl trivial ?_
    refine hr_Gif h (fun _ h => ?_) (fun _ h => ?_)
    · refine hr_Grun mf_X11_findPaint lb_X11_findPaint_31 (P := True) (pc' := 35) (ls' := [some (.ref 275), some (.int x1), some (.int (x1 - 1)), none, none, none]) (st' := []) (M' := M) rfl rfl trivial ?_
      exact g_X11_findPaint_35 FU x1 (x1 - 1) M _ h
    · refine hr_Fg h (fun hg3_0 h => ?_)
      refine hr_Grun mf_X11_findPaint lb_X11_findPaint_13 (P := hr_K 275 = 10 ∧ ((hr_K 298 = 12 ∧ 298 < hr_n) ∧ vp_in ((10 * x1) + x2) (hr_N 298)) ∧ True) (pc' := 7) (ls' := [some (.ref 275), some (.int x1), some (.int (x2 + 1)), none, none, none]) (st' := []) (M' := hr_si M 298 ((10 * x1) + x2).toNatClampNeg 0) rfl rfl ⟨K_275, ⟨⟨K_298, L_298⟩, (inB_N N_298 hg3_0)⟩, trivial⟩ ?_
      exact ih x1 (x2 + 1) (hr_si M 298 ((10 * x1) + x2).toNatClampNeg 0) _ h
def f_X11_findPaint (M : PM) : Option (Unit × PM) :=
  hr_bd (f_X11_pictures M) (fun v2 M2 =>
  f_X11_findPaint_7 FU v2 0 M2)
theorem g_X11_findPaint  : ∀ (M : PM) (r : Unit × PM), f_X11_findPaint M = some r → hr_G 258 0 [some (.ref 275), none, none, none, none, none] [] M (none, r.2) := by
  intro M r h
  unfold f_X11_findPaint at h
  refine hr_Grun mf_X11_findPaint lb_X11_findPaint_0 (P := True) (pc' := 1) (ls' := [some (.ref 275), none, none, none, none, none]) (st' := [.ref 275]) (M' := M) rfl rfl trivial ?_
  refine hr_Fb h (fun v2 M2 e2 h => ?_)
  refine hr_Gcv mf_X11_findPaint mf_X11_pictures lb_X11_findPaint_1 (b := 275) (as := []) (rest := []) (st2 := [.int v2]) (v := some (.int v2)) (M1 := M2) rfl rfl rfl rfl rfl rfl K_275 (g_X11_pictures  _ _ e2) rfl rfl ?_
  refine hr_Grun mf_X11_findPaint lb_X11_findPaint_4 (P := True) (pc' := 7) (ls' := [some (.ref 275), some (.int v2), some (.int 0), none, none, none]) (st' := []) (M' := M2) rfl rfl trivial ?_
  exact g_X11_findPaint_7 FU v2 0 M2 _ h
theorem mf_X11_paintedAt : hr_mf 259 11 1 (some .int) 7 1 bk_X11_paintedAt := ⟨rfl, rfl, rfl, rfl, rfl, rfl⟩
theorem lb_X11_paintedAt_0 : bk_X11_paintedAt.lookup 0 = some [(.iconst (-1), 1), (.istore_n 2, 1), (.iconst 0, 1), (.istore_n 3, 1)] := rfl
theorem lb_X11_paintedAt_4 : bk_X11_paintedAt.lookup 4 = some [(.iload_n 3, 1), (.iload_n 1, 1), (.if_icmp .gt 120, 3)] := rfl
theorem lb_X11_paintedAt_9 : bk_X11_paintedAt.lookup 9 = some [(.iconst (-1), 1), (.istore 4, 2), (.iconst 0, 1), (.istore 5, 2)] := rfl
theorem lb_X11_paintedAt_15 : bk_X11_paintedAt.lookup 15 = some [(.iload 5, 2), (.aload_n 0, 1), (.getfield 299, 3), (.if_icmp .ge 96, 3)] := rfl
theorem lb_X11_paintedAt_24 : bk_X11_paintedAt.lookup 24 = some [(.iload_n 2, 1), (.iconst (-1), 1), (.if_icmp .eq 13, 3)] := rfl
theorem lb_X11_paintedAt_29 : bk_X11_paintedAt.lookup 29 = some [(.aload_n 0, 1), (.iload_n 2, 1), (.iload 5, 2)] := rfl
theorem lb_X11_paintedAt_33 : bk_X11_paintedAt.lookup 33 = some [(.invokevirtual 314, 3)] := rfl
theorem lb_X11_paintedAt_36 : bk_X11_paintedAt.lookup 36 = some [(.ifCond .ne 7, 3)] := rfl
theorem lb_X11_paintedAt_39 : bk_X11_paintedAt.lookup 39 = some [(.iconst 1, 1), (.goto 4, 3)] := rfl
theorem lb_X11_paintedAt_43 : bk_X11_paintedAt.lookup 43 = some [(.iconst 0, 1)] := rfl
theorem lb_X11_paintedAt_44 : bk_X11_paintedAt.lookup 44 = some [(.istore 6, 2), (.iload 6, 2), (.ifCond .eq 59, 3)] := rfl
theorem lb_X11_paintedAt_51 : bk_X11_paintedAt.lookup 51 = some [(.aload_n 0, 1), (.getfield 78, 3), (.bipush 10, 2), (.iload_n 3, 1), (.imul, 1), (.iload 5, 2), (.iadd, 1), (.iaload, 1), (.ldc_w 453, 3), (.if_icmp .ge 41, 3)] := rfl
theorem lb_X11_paintedAt_69 : bk_X11_paintedAt.lookup 69 = some [(.iload 4, 2), (.iconst (-1), 1), (.if_icmp .eq 30, 3)] := rfl
theorem lb_X11_paintedAt_75 : bk_X11_paintedAt.lookup 75 = some [(.aload_n 0, 1), (.getfield 78, 3), (.bipush 10, 2), (.iload_n 3, 1), (.imul, 1), (.iload 5, 2), (.iadd, 1), (.iaload, 1), (.aload_n 0, 1), (.getfield 78, 3), (.bipush 10, 2), (.iload_n 3, 1), (.imul, 1), (.iload 4, 2), (.iadd, 1), (.iaload, 1), (.if_icmp .ge 8, 3)] := rfl
theorem lb_X11_paintedAt_102 : bk_X11_paintedAt.lookup 102 = some [(.iload 5, 2), (.goto 5, 3)] := rfl
theorem lb_X11_paintedAt_107 : bk_X11_paintedAt.lookup 107 = some [(.iload 4, 2)] := rfl
theorem lb_X11_paintedAt_109 : bk_X11_paintedAt.lookup 109 = some [(.istore 4, 2), (.iinc 5 1, 3), (.goto (-99), 3)] := rfl
theorem lb_X11_paintedAt_117 : bk_X11_paintedAt.lookup 117 = some [(.iload 4, 2), (.istore_n 2, 1), (.iinc 3 1, 3), (.goto (-119), 3)] := rfl
theorem lb_X11_paintedAt_126 : bk_X11_paintedAt.lookup 126 = some [(.iload_n 2, 1)] := rfl
theorem lb_X11_paintedAt_127 : bk_X11_paintedAt.lookup 127 = some [(.ireturn, 1)] := rfl
def f_X11_paintedAt_44 (a1 : Int32) (k4 : Int32 → Int32 → PM → Option (Int32 × PM)) (k15 : Int32 → Int32 → Int32 → Int32 → PM → Option (Int32 × PM)) (x2 : Int32) (x3 : Int32) (x4 : Int32) (x5 : Int32) (s0 : Int32) (M : PM) : Option (Int32 × PM) :=
  if s0 = 0 then
    k15 x2 x3 x4 (x5 + 1) M
  else
    if inB ((10 * x3) + x5) 100 = true then if 1000000 ≤ (M.1 298 ((10 * x3) + x5).toNatClampNeg) then
      k15 x2 x3 x4 (x5 + 1) M
    else
      if x4 = (-1) then
        k15 x2 x3 x5 (x5 + 1) M
      else
        if inB ((10 * x3) + x5) 100 = true then if inB ((10 * x3) + x4) 100 = true then if (M.1 298 ((10 * x3) + x4).toNatClampNeg) ≤ (M.1 298 ((10 * x3) + x5).toNatClampNeg) then
          k15 x2 x3 x4 (x5 + 1) M
        else
          k15 x2 x3 x5 (x5 + 1) M
        else none else none
    else none
theorem g_X11_paintedAt_44 (a1 : Int32)  (k4 : Int32 → Int32 → PM → Option (Int32 × PM)) (k15 : Int32 → Int32 → Int32 → Int32 → PM → Option (Int32 × PM)) (hk4 : ∀ (x2 : Int32) (x3 : Int32) (M : PM) (r : Int32 × PM), k4 x2 x3 M = some r → hr_G 259 4 [some (.ref 275), some (.int a1), some (.int x2), some (.int x3), none, none, none] [] M (some (.int r.1), r.2)) (hk15 : ∀ (x2 : Int32) (x3 : Int32) (x4 : Int32) (x5 : Int32) (M : PM) (r : Int32 × PM), k15 x2 x3 x4 x5 M = some r → hr_G 259 15 [some (.ref 275), some (.int a1), some (.int x2), some (.int x3), some (.int x4), some (.int x5), none] [] M (some (.int r.1), r.2)) : ∀ (x2 : Int32) (x3 : Int32) (x4 : Int32) (x5 : Int32) (s0 : Int32) (M : PM) (r : Int32 × PM), f_X11_paintedAt_44 a1 k4 k15 x2 x3 x4 x5 s0 M = some r → hr_G 259 44 [some (.ref 275), some (.int a1), some (.int x2), some (.int x3), some (.int x4), some (.int x5), none] [.int s0] M (some (.int r.1), r.2) := by
  intro x2 x3 x4 x5 s0 M r h
  unfold f_X11_paintedAt_44 at h
  refine hr_Grun mf_X11_paintedAt lb_X11_paintedAt_44 (P := True) (pc' := if s0 = 0 then 107 else 51) (ls' := [some (.ref 275), some (.int a1), some (.int x2), some (.int x3), some (.int x4), some (.int x5), some (.int s0)]) (st' := []) (M' := M) rfl rfl trivial ?_
  refine hr_Gif h (fun _ h => ?_) (fun _ h => ?_)
  · refine hr_Grun mf_X11_paintedAt lb_X11_paintedAt_107 (P := True) (pc' := 109) (ls' := [some (.ref 275), some (.int a1), some (.int x2), some (.int x3), some (.int x4), some (.int x5), some (.int s0)]) (st' := [.int x4]) (M' := M) rfl rfl trivial ?_
    refine hr_Grun mf_X11_paintedAt lb_X11_paintedAt_109 (P := True) (pc' := 15) (ls' := [some (.ref 275), some (.int a1), some (.int x2), some (.int x3), some (.int x4), some (.int (x5 + 1)), some (.int s0)]) (st' := []) (M' := M) rfl rfl trivial ?_
    refine hr_Gle (ls := [some (.ref 275), some (.int a1), some (.int x2), some (.int x3), some (.int x4), some (.int (x5 + 1)), none]) (hr_le_s (hr_le_s (hr_le_s (hr_le_s (hr_le_s (hr_le_s (hr_le_n hr_le_0))))))) ?_
    exact hk15 x2 x3 x4 (x5 + 1) M _ h
  · refine hr_Fg h (fun hg4_0 h => ?_)
    refine hr_Grun mf_X11_paintedAt lb_X11_paintedAt_51 (P := hr_K 275 = 10 ∧ (hr_K 298 = 12 ∧ vp_in ((10 * x3) + x5) (hr_N 298)) ∧ True) (pc' := if 1000000 ≤ (M.1 298 ((10 * x3) + x5).toNatClampNeg) then 107 else 69) (ls' := [some (.ref 275), some (.int a1), some (.int x2), some (.int x3), some (.int x4), some (.int x5), some (.int s0)]) (st' := []) (M' := M) rfl rfl ⟨K_275, ⟨K_298, (inB_N N_298 hg4_0)⟩, trivial⟩ ?_
    refine hr_Gif h (fun _ h => ?_) (fun _ h => ?_)
    · refine hr_Grun mf_X11_paintedAt lb_X11_paintedAt_107 (P := True) (pc' := 109) (ls' := [some (.ref 275), some (.int a1), some (.int x2), some (.int x3), some (.int x4), some (.int x5), some (.int s0)]) (st' := [.int x4]) (M' := M) rfl rfl trivial ?_
      refine hr_Grun mf_X11_paintedAt lb_X11_paintedAt_109 (P := True) (pc' := 15) (ls' := [some (.ref 275), some (.int a1), some (.int x2), some (.int x3), some (.int x4), some (.int (x5 + 1)), some (.int s0)]) (st' := []) (M' := M) rfl rfl trivial ?_
      refine hr_Gle (ls := [some (.ref 275), some (.int a1), some (.int x2), some (.int x3), some (.int x4), some (.int (x5 + 1)), none]) (hr_le_s (hr_le_s (hr_le_s (hr_le_s (hr_le_s (hr_le_s (hr_le_n hr_le_0))))))) ?_
      exact hk15 x2 x3 x4 (x5 + 1) M _ h
    · refine hr_Grun mf_X11_paintedAt lb_X11_paintedAt_69 (P := True) (pc' := if x4 = (-1) then 102 else 75) (ls' := [some (.ref 275), some (.int a1), some (.int x2), some (.int x3), some (.int x4), some (.int x5), some (.int s0)]) (st' := []) (M' := M) rfl rfl trivial ?_
      refine hr_Gif h (fun _ h => ?_) (fun _ h => ?_)
      · refine hr_Grun mf_X11_paintedAt lb_X11_paintedAt_102 (P := True) (pc' := 109) (ls' := [some (.ref 275), some (.int a1), some (.int x2), some (.int x3), some (.int x4), some (.int x5), some (.int s0)]) (st' := [.int x5]) (M' := M) rfl rfl trivial ?_
        refine hr_Grun mf_X11_paintedAt lb_X11_paintedAt_109 (P := True) (pc' := 15) (ls' := [some (.ref 275), some (.int a1), some (.int x2), some (.int x3), some (.int x5), some (.int (x5 + 1)), some (.int s0)]) (st' := []) (M' := M) rfl rfl trivial ?_
        refine hr_Gle (ls := [some (.ref 275), some (.int a1), some (.int x2), some (.int x3), some (.int x5), some (.int (x5 + 1)), none]) (hr_le_s (hr_le_s (hr_le_s (hr_le_s (hr_le_s (hr_le_s (hr_le_n hr_le_0))))))) ?_
        exact hk15 x2 x3 x5 (x5 + 1) M _ h
      · refine hr_Fg h (fun hg10_0 h => ?_)
        refine hr_Fg h (fun hg10_1 h => ?_)
        refine hr_Grun mf_X11_paintedAt lb_X11_paintedAt_75 (P := hr_K 275 = 10 ∧ (hr_K 298 = 12 ∧ vp_in ((10 * x3) + x5) (hr_N 298)) ∧ hr_K 275 = 10 ∧ (hr_K 298 = 12 ∧ vp_in ((10 * x3) + x4) (hr_N 298)) ∧ True) (pc' := if (M.1 298 ((10 * x3) + x4).toNatClampNeg) ≤ (M.1 298 ((10 * x3) + x5).toNatClampNeg) then 107 else 102) (ls' := [some (.ref 275), some (.int a1), some (.int x2), some (.int x3), some (.int x4), some (.int x5), some (.int s0)]) (st' := []) (M' := M) rfl rfl ⟨K_275, ⟨K_298, (inB_N N_298 hg10_0)⟩, K_275, ⟨K_298, (inB_N N_298 hg10_1)⟩, trivial⟩ ?_
        refine hr_Gif h (fun _ h => ?_) (fun _ h => ?_)
        · refine hr_Grun mf_X11_paintedAt lb_X11_paintedAt_107 (P := True) (pc' := 109) (ls' := [some (.ref 275), some (.int a1), some (.int x2), some (.int x3), some (.int x4), some (.int x5), some (.int s0)]) (st' := [.int x4]) (M' := M) rfl rfl trivial ?_
          refine hr_Grun mf_X11_paintedAt lb_X11_paintedAt_109 (P := True) (pc' := 15) (ls' := [some (.ref 275), some (.int a1), some (.int x2), some (.int x3), some (.int x4), some (.int (x5 + 1)), some (.int s0)]) (st' := []) (M' := M) rfl rfl trivial ?_
          refine hr_Gle (ls := [some (.ref 275), some (.int a1), some (.int x2), some (.int x3), some (.int x4), some (.int (x5 + 1)), none]) (hr_le_s (hr_le_s (hr_le_s (hr_le_s (hr_le_s (hr_le_s (hr_le_n hr_le_0))))))) ?_
          exact hk15 x2 x3 x4 (x5 + 1) M _ h
        · refine hr_Grun mf_X11_paintedAt lb_X11_paintedAt_102 (P := True) (pc' := 109) (ls' := [some (.ref 275), some (.int a1), some (.int x2), some (.int x3), some (.int x4), some (.int x5), some (.int s0)]) (st' := [.int x5]) (M' := M) rfl rfl trivial ?_
          refine hr_Grun mf_X11_paintedAt lb_X11_paintedAt_109 (P := True) (pc' := 15) (ls' := [some (.ref 275), some (.int a1), some (.int x2), some (.int x3), some (.int x5), some (.int (x5 + 1)), some (.int s0)]) (st' := []) (M' := M) rfl rfl trivial ?_
          refine hr_Gle (ls := [some (.ref 275), some (.int a1), some (.int x2), some (.int x3), some (.int x5), some (.int (x5 + 1)), none]) (hr_le_s (hr_le_s (hr_le_s (hr_le_s (hr_le_s (hr_le_s (hr_le_n hr_le_0))))))) ?_
          exact hk15 x2 x3 x5 (x5 + 1) M _ h
def f_X11_paintedAt_15 (a1 : Int32) (k4 : Int32 → Int32 → PM → Option (Int32 × PM)) : Nat → Int32 → Int32 → Int32 → Int32 → PM → Option (Int32 × PM)
  | 0, _, _, _, _, _ => none
  | f + 1, x2, x3, x4, x5, M =>
    if (M.1 275 25) ≤ x5 then
      k4 x4 (x3 + 1) M
    else
      if x2 = (-1) then
        f_X11_paintedAt_44 a1 k4 (fun x2 x3 x4 x5 M => f_X11_paintedAt_15 a1 k4 f x2 x3 x4 x5 M) x2 x3 x4 x5 1 M
      else
        hr_bd (f_X11_clash x2 x5 M) (fun v6 M6 =>
        if v6 = 0 then
          f_X11_paintedAt_44 a1 k4 (fun x2 x3 x4 x5 M => f_X11_paintedAt_15 a1 k4 f x2 x3 x4 x5 M) x2 x3 x4 x5 1 M6
        else
          f_X11_paintedAt_44 a1 k4 (fun x2 x3 x4 x5 M => f_X11_paintedAt_15 a1 k4 f x2 x3 x4 x5 M) x2 x3 x4 x5 0 M6)
theorem g_X11_paintedAt_15 (a1 : Int32)  (k4 : Int32 → Int32 → PM → Option (Int32 × PM)) (hk4 : ∀ (x2 : Int32) (x3 : Int32) (M : PM) (r : Int32 × PM), k4 x2 x3 M = some r → hr_G 259 4 [some (.ref 275), some (.int a1), some (.int x2), some (.int x3), none, none, none] [] M (some (.int r.1), r.2)) : ∀ (f : Nat) (x2 : Int32) (x3 : Int32) (x4 : Int32) (x5 : Int32) (M : PM) (r : Int32 × PM), f_X11_paintedAt_15 a1 k4 f x2 x3 x4 x5 M = some r → hr_G 259 15 [some (.ref 275), some (.int a1), some (.int x2), some (.int x3), some (.int x4), some (.int x5), none] [] M (some (.int r.1), r.2) := by
  intro f
  induction f with
  | zero => intro x2 x3 x4 x5 M r h; cases h
  | succ f ih =>
    intro x2 x3 x4 x5 M r h
    rw [f_X11_paintedAt_15.eq_2] at h
    refine hr_Grun mf_X11_paintedAt lb_X11_paintedAt_15 (P := hr_K 275 = 10 ∧ True) (pc' := if (M.1 275 25) ≤ x5 then 117 else 24) (ls' := [some (.ref 275), some (.int a1), some (.int x2), some (.int x3), some (.int x4), some (.int x5), none]) (st' := []) (M' := M) rfl rfl ⟨K_275, trivial⟩ ?_
    refine hr_Gif h (fun _ h => ?_) (fun _ h => ?_)
    · refine hr_Grun mf_X11_paintedAt lb_X11_paintedAt_117 (P := True) (pc' := 4) (ls' := [some (.ref 275), some (.int a1), some (.int x4), some (.int (x3 + 1)), some (.int x4), some (.int x5), none]) (st' := []) (M' := M) rfl rfl trivial ?_
      refine hr_Gle (ls := [some (.ref 275), some (.int a1), some (.int x4), some (.int (x3 + 1)), none, none, none]) (hr_le_s (hr_le_s (hr_le_s (hr_le_s (hr_le_n (hr_le_n (hr_le_n hr_le_0))))))) ?_
      exact hk4 x4 (x3 + 1) M _ h
    · refine hr_Grun mf_X11_paintedAt lb_X11_paintedAt_24 (P := True) (pc' := if x2 = (-1) then 39 else 29) (ls' := [some (.ref 275), some (.int a1), some (.int x2), some (.int x3), some (.int x4), some (.int x5), none]) (st' := []) (M' := M) rfl rfl trivial ?_
      refine hr_Gif h (fun _ h => ?_) (fun _ h => ?_)
      · refine hr_Grun mf_X11_paintedAt lb_X11_paintedAt_39 (P := True) (pc' := 44) (ls' := [some (.ref 275), some (.int a1), some (.int x2), some (.int x3), some (.int x4), some (.int x5), none]) (st' := [.int 1]) (M' := M) rfl rfl trivial ?_
        exact g_X11_paintedAt_44 a1 k4 (fun x2 x3 x4 x5 M => f_X11_paintedAt_15 a1 k4 f x2 x3 x4 x5 M) hk4 (fun x2 x3 x4 x5 M r h => ih x2 x3 x4 x5 M r h) x2 x3 x4 x5 1 M _ h
      · refine hr_Grun mf_X11_paintedAt lb_X11_paintedAt_29 (P := True) (pc' := 33) (ls' := [some (.ref 275), some (.int a1), some (.int x2), some (.int x3), some (.int x4), some (.int x5), none]) (st' := [.int x5, .int x2, .ref 275]) (M' := M) rfl rfl trivial ?_
        refine hr_Fb h (fun v6 M6 e6 h => ?_)
        refine hr_Gcv mf_X11_paintedAt mf_X11_clash lb_X11_paintedAt_33 (b := 275) (as := [.int x2, .int x5]) (rest := []) (st2 := [.int v6]) (v := some (.int v6)) (M1 := M6) rfl rfl rfl rfl rfl rfl K_275 (g_X11_clash x2 x5 _ _ e6) rfl rfl ?_
        refine hr_Grun mf_X11_paintedAt lb_X11_paintedAt_36 (P := True) (pc' := if v6 = 0 then 39 else 43) (ls' := [some (.ref 275), some (.int a1), some (.int x2), some (.int x3), some (.int x4), some (.int x5), none]) (st' := []) (M' := M6) rfl rfl trivial ?_
        refine hr_Gif h (fun _ h => ?_) (fun _ h => ?_)
        · refine hr_Grun mf_X11_paintedAt lb_X11_paintedAt_39 (P := True) (pc' := 44) (ls' := [some (.ref 275), some (.int a1), some (.int x2), some (.int x3), some (.int x4), some (.int x5), none]) (st' := [.int 1]) (M' := M6) rfl rfl trivial ?_
          exact g_X11_paintedAt_44 a1 k4 (fun x2 x3 x4 x5 M => f_X11_paintedAt_15 a1 k4 f x2 x3 x4 x5 M) hk4 (fun x2 x3 x4 x5 M r h => ih x2 x3 x4 x5 M r h) x2 x3 x4 x5 1 M6 _ h
        · refine hr_Grun mf_X11_paintedAt lb_X11_paintedAt_43 (P := True) (pc' := 44) (ls' := [some (.ref 275), some (.int a1), some (.int x2), some (.int x3), some (.int x4), some (.int x5), none]) (st' := [.int 0]) (M' := M6) rfl rfl trivial ?_
          exact g_X11_paintedAt_44 a1 k4 (fun x2 x3 x4 x5 M => f_X11_paintedAt_15 a1 k4 f x2 x3 x4 x5 M) hk4 (fun x2 x3 x4 x5 M r h => ih x2 x3 x4 x5 M r h) x2 x3 x4 x5 0 M6 _ h
def f_X11_paintedAt_4 (a1 : Int32) : Nat → Int32 → Int32 → PM → Option (Int32 × PM)
  | 0, _, _, _ => none
  | f + 1, x2, x3, M =>
    if a1 < x3 then
      some (x2, M)
    else
      f_X11_paintedAt_15 a1 (fun x2 x3 M => f_X11_paintedAt_4 a1 f x2 x3 M) FU x2 x3 (-1) 0 M
theorem g_X11_paintedAt_4 (a1 : Int32)  : ∀ (f : Nat) (x2 : Int32) (x3 : Int32) (M : PM) (r : Int32 × PM), f_X11_paintedAt_4 a1 f x2 x3 M = some r → hr_G 259 4 [some (.ref 275), some (.int a1), some (.int x2), some (.int x3), none, none, none] [] M (some (.int r.1), r.2) := by
  intro f
  induction f with
  | zero => intro x2 x3 M r h; cases h
  | succ f ih =>
    intro x2 x3 M r h
    rw [f_X11_paintedAt_4.eq_2] at h
    refine hr_Grun mf_X11_paintedAt lb_X11_paintedAt_4 (P := True) (pc' := if a1 < x3 then 126 else 9) (ls' := [some (.ref 275), some (.int a1), some (.int x2), some (.int x3), none, none, none]) (st' := []) (M' := M) rfl rfl trivial ?_
    refine hr_Gif h (fun _ h => ?_) (fun _ h => ?_)
    · refine hr_Grun mf_X11_paintedAt lb_X11_paintedAt_126 (P := True) (pc' := 127) (ls' := [some (.ref 275), some (.int a1), some (.int x2), some (.int x3), none, none, none]) (st' := [.int x2]) (M' := M) rfl rfl trivial ?_
      cases h
      exact hr_Gret mf_X11_paintedAt lb_X11_paintedAt_127 rfl rfl trivial
    · refine hr_Grun mf_X11_paintedAt lb_X11_paintedAt_9 (P := True) (pc' := 15) (ls' := [some (.ref 275), some (.int a1), some (.int x2), some (.int x3), some (.int (-1)), some (.int 0), none]) (st' := []) (M' := M) rfl rfl trivial ?_
      exact g_X11_paintedAt_15 a1 (fun x2 x3 M => f_X11_paintedAt_4 a1 f x2 x3 M) (fun x2 x3 M r h => ih x2 x3 M r h) FU x2 x3 (-1) 0 M _ h
def f_X11_paintedAt (a1 : Int32) (M : PM) : Option (Int32 × PM) :=
  f_X11_paintedAt_4 a1 FU (-1) 0 M
theorem g_X11_paintedAt (a1 : Int32) : ∀ (M : PM) (r : Int32 × PM), f_X11_paintedAt a1 M = some r → hr_G 259 0 [some (.ref 275), some (.int a1), none, none, none, none, none] [] M (some (.int r.1), r.2) := by
  intro M r h
  unfold f_X11_paintedAt at h
  refine hr_Grun mf_X11_paintedAt lb_X11_paintedAt_0 (P := True) (pc' := 4) (ls' := [some (.ref 275), some (.int a1), some (.int (-1)), some (.int 0), none, none, none]) (st' := []) (M' := M) rfl rfl trivial ?_
  exact g_X11_paintedAt_4 a1 FU (-1) 0 M _ h
theorem mf_X11_repainted : hr_mf 260 11 5 (some .int) 6 3 bk_X11_repainted := ⟨rfl, rfl, rfl, rfl, rfl, rfl⟩
theorem lb_X11_repainted_0 : bk_X11_repainted.lookup 0 = some [(.aload_n 0, 1), (.iconst 0, 1), (.putfield 100, 3), (.aload_n 0, 1), (.iload_n 1, 1), (.iload_n 2, 1)] := rfl
theorem lb_X11_repainted_8 : bk_X11_repainted.lookup 8 = some [(.invokevirtual 401, 3)] := rfl
theorem lb_X11_repainted_11 : bk_X11_repainted.lookup 11 = some [(.ifCond .eq 23, 3)] := rfl
theorem lb_X11_repainted_14 : bk_X11_repainted.lookup 14 = some [(.iload_n 3, 1), (.ifCond .eq 21, 3)] := rfl
theorem lb_X11_repainted_18 : bk_X11_repainted.lookup 18 = some [(.iload_n 3, 1), (.bipush 10, 2), (.bipush 9, 2), (.aload_n 0, 1)] := rfl
theorem lb_X11_repainted_24 : bk_X11_repainted.lookup 24 = some [(.invokevirtual 347, 3)] := rfl
theorem lb_X11_repainted_27 : bk_X11_repainted.lookup 27 = some [(.iadd, 1)] := rfl
theorem lb_X11_repainted_28 : bk_X11_repainted.lookup 28 = some [(.invokestatic 112, 3)] := rfl
theorem lb_X11_repainted_31 : bk_X11_repainted.lookup 31 = some [(.ifCond .ne 5, 3)] := rfl
theorem lb_X11_repainted_34 : bk_X11_repainted.lookup 34 = some [(.iconst (-1), 1)] := rfl
theorem lb_X11_repainted_35 : bk_X11_repainted.lookup 35 = some [(.ireturn, 1)] := rfl
theorem lb_X11_repainted_36 : bk_X11_repainted.lookup 36 = some [(.aload_n 0, 1)] := rfl
theorem lb_X11_repainted_37 : bk_X11_repainted.lookup 37 = some [(.invokevirtual 460, 3)] := rfl
theorem lb_X11_repainted_40 : bk_X11_repainted.lookup 40 = some [(.aload_n 0, 1)] := rfl
theorem lb_X11_repainted_41 : bk_X11_repainted.lookup 41 = some [(.invokevirtual 347, 3)] := rfl
theorem lb_X11_repainted_44 : bk_X11_repainted.lookup 44 = some [(.ifCond .ne 7, 3)] := rfl
theorem lb_X11_repainted_47 : bk_X11_repainted.lookup 47 = some [(.iconst 0, 1), (.goto 6, 3)] := rfl
theorem lb_X11_repainted_51 : bk_X11_repainted.lookup 51 = some [(.ldc_w 453, 3)] := rfl
theorem lb_X11_repainted_54 : bk_X11_repainted.lookup 54 = some [(.istore 4, 2), (.iconst 0, 1), (.istore 5, 2)] := rfl
theorem lb_X11_repainted_59 : bk_X11_repainted.lookup 59 = some [(.iload 5, 2), (.aload_n 0, 1), (.getfield 299, 3), (.if_icmp .ge 23, 3)] := rfl
theorem lb_X11_repainted_68 : bk_X11_repainted.lookup 68 = some [(.iload 4, 2), (.aload_n 0, 1), (.getfield 78, 3), (.iload 5, 2), (.iaload, 1)] := rfl
theorem lb_X11_repainted_77 : bk_X11_repainted.lookup 77 = some [(.invokestatic 454, 3)] := rfl
theorem lb_X11_repainted_80 : bk_X11_repainted.lookup 80 = some [(.istore 4, 2), (.iinc 5 1, 3), (.goto (-26), 3)] := rfl
theorem lb_X11_repainted_88 : bk_X11_repainted.lookup 88 = some [(.iload 4, 2), (.ldc_w 453, 3), (.if_icmp .lt 7, 3)] := rfl
theorem lb_X11_repainted_96 : bk_X11_repainted.lookup 96 = some [(.iconst (-1), 1), (.goto 20, 3)] := rfl
theorem lb_X11_repainted_100 : bk_X11_repainted.lookup 100 = some [(.iload_n 3, 1), (.ifCond .ne 8, 3)] := rfl
theorem lb_X11_repainted_104 : bk_X11_repainted.lookup 104 = some [(.iload 4, 2), (.goto 11, 3)] := rfl
theorem lb_X11_repainted_109 : bk_X11_repainted.lookup 109 = some [(.aload_n 0, 1), (.iload_n 3, 1), (.bipush 10, 2), (.isub, 1)] := rfl
theorem lb_X11_repainted_114 : bk_X11_repainted.lookup 114 = some [(.invokevirtual 463, 3)] := rfl
theorem lb_X11_repainted_117 : bk_X11_repainted.lookup 117 = some [(.ireturn, 1)] := rfl
def f_X11_repainted_59 (a1 : Int32) (a2 : Int32) (a3 : Int32) : Nat → Int32 → Int32 → PM → Option (Int32 × PM)
  | 0, _, _, _ => none
  | f + 1, x4, x5, M =>
    if (M.1 275 25) ≤ x5 then
      if x4 < 1000000 then
        if a3 = 0 then
          some (x4, M)
        else
          hr_bd (f_X11_paintedAt (a3 - 10) M) (fun v6 M6 =>
          some (v6, M6))
      else
        some ((-1), M)
    else
      if inB x5 100 = true then 
      hr_bd (f_X11_lesser x4 (M.1 298 x5.toNatClampNeg) M) (fun v9 M9 =>
      f_X11_repainted_59 a1 a2 a3 f v9 (x5 + 1) M9) else none
theorem g_X11_repainted_59 (a1 : Int32) (a2 : Int32) (a3 : Int32)  : ∀ (f : Nat) (x4 : Int32) (x5 : Int32) (M : PM) (r : Int32 × PM), f_X11_repainted_59 a1 a2 a3 f x4 x5 M = some r → hr_G 260 59 [some (.ref 275), none, none, some (.int a3), some (.int x4), some (.int x5)] [] M (some (.int r.1), r.2) := by
  intro f
  induction f with
  | zero => intro x4 x5 M r h; cases h
  | succ f ih =>
    intro x4 x5 M r h
    rw [f_X11_repainted_59.eq_2] at h
    refine hr_Grun mf_X11_repainted lb_X11_repainted_59 (P := hr_K 275 = 10 ∧ True) (pc' := if (M.1 275 25) ≤ x5 then 88 else 68) (ls' := [some (.ref 275), none, none, some (.int a3), some (.int x4), some (.int x5)]) (st' := []) (M' := M) rfl rfl ⟨K_275, trivial⟩ ?_
    refine hr_Gif h (fun _ h => ?_) (fun _ h => ?_)
    · refine hr_Grun mf_X11_repainted lb_X11_repainted_88 (P := True) (pc' := if x4 < 1000000 then 100 else 96) (ls' := [some (.ref 275), none, none, some (.int a3), some (.int x4), some (.int x5)]) (st' := []) (M' := M) rfl rfl trivial ?_
      refine hr_Gif h (fun _ h => ?_) (fun _ h => ?_)
      · refine hr_Grun mf_X11_repainted lb_X11_repainted_100 (P := True) (pc' := if a3 = 0 then 104 else 109) (ls' := [some (.ref 275), none, none, some (.int a3), some (.int x4), some (.int x5)]) (st' := []) (M' := M) rfl rfl trivial ?_
        refine hr_Gif h (fun _ h => ?_) (fun _ h => ?_)
        · refine hr_Grun mf_X11_repainted lb_X11_repainted_104 (P := True) (pc' := 117) (ls' := [some (.ref 275), none, none, some (.int a3), some (.int x4), some (.int x5)]) (st' := [.int x4]) (M' := M) rfl rfl trivial ?_
          cases h
          exact hr_Gret mf_X11_repainted lb_X11_repainted_117 rfl rfl trivial
        · refine hr_Grun mf_X11_repainted lb_X11_repainted_109 (P := True) (pc' := 114) (ls' := [some (.ref 275), none, none, some (.int a3), some (.int x4), some (.int x5)]) (st' := [.int (a3 - 10), .ref 275]) (M' := M) rfl rfl trivial ?_
          refine hr_Fb h (fun v6 M6 e6 h => ?_)
          refine hr_Gcv mf_X11_repainted mf_X11_paintedAt lb_X11_repainted_114 (b := 275) (as := [.int (a3 - 10)]) (rest := []) (st2 := [.int v6]) (v := some (.int v6)) (M1 := M6) rfl rfl rfl rfl rfl rfl K_275 (g_X11_paintedAt (a3 - 10) _ _ e6) rfl rfl ?_
          cases h
          exact hr_Gret mf_X11_repainted lb_X11_repainted_117 rfl rfl trivial
      · refine hr_Grun mf_X11_repainted lb_X11_repainted_96 (P := True) (pc' := 117) (ls' := [some (.ref 275), none, none, some (.int a3), some (.int x4), some (.int x5)]) (st' := [.int (-1)]) (M' := M) rfl rfl trivial ?_
        cases h
        exact hr_Gret mf_X11_repainted lb_X11_repainted_117 rfl rfl trivial
    · refine hr_Fg h (fun hg8_0 h => ?_)
      refine hr_Grun mf_X11_repainted lb_X11_repainted_68 (P := hr_K 275 = 10 ∧ (hr_K 298 = 12 ∧ vp_in x5 (hr_N 298)) ∧ True) (pc' := 77) (ls' := [some (.ref 275), none, none, some (.int a3), some (.int x4), some (.int x5)]) (st' := [.int (M.1 298 x5.toNatClampNeg), .int x4]) (M' := M) rfl rfl ⟨K_275, ⟨K_298, (inB_N N_298 hg8_0)⟩, trivial⟩ ?_
      refine hr_Fb h (fun v9 M9 e9 h => ?_)
      refine hr_Gcs mf_X11_repainted mf_X11_lesser lb_X11_repainted_77 (as := [.int x4, .int (M.1 298 x5.toNatClampNeg)]) (rest := []) (st2 := [.int v9]) (v := some (.int v9)) (M1 := M9) rfl rfl rfl rfl rfl rfl (g_X11_lesser x4 (M.1 298 x5.toNatClampNeg) _ _ e9) rfl rfl ?_
      refine hr_Grun mf_X11_repainted lb_X11_repainted_80 (P := True) (pc' := 59) (ls' := [some (.ref 275), none, none, some (.int a3), some (.int v9), some (.int (x5 + 1))]) (st' := []) (M' := M9) rfl rfl trivial ?_
      exact ih v9 (x5 + 1) M9 _ h
def f_X11_repainted_36 (a1 : Int32) (a2 : Int32) (a3 : Int32) (M : PM) : Option (Int32 × PM) :=
  hr_bd (f_X11_findPaint M) (fun v2 M2 =>
  hr_bd (f_X11_pictures M2) (fun v4 M4 =>
  if v4 = 0 then
    f_X11_repainted_59 a1 a2 a3 FU 0 0 M4
  else
    f_X11_repainted_59 a1 a2 a3 FU 1000000 0 M4))
theorem g_X11_repainted_36 (a1 : Int32) (a2 : Int32) (a3 : Int32)  : ∀ (M : PM) (r : Int32 × PM), f_X11_repainted_36 a1 a2 a3 M = some r → hr_G 260 36 [some (.ref 275), none, none, some (.int a3), none, none] [] M (some (.int r.1), r.2) := by
  intro M r h
  unfold f_X11_repainted_36 at h
  refine hr_Grun mf_X11_repainted lb_X11_repainted_36 (P := True) (pc' := 37) (ls' := [some (.ref 275), none, none, some (.int a3), none, none]) (st' := [.ref 275]) (M' := M) rfl rfl trivial ?_
  refine hr_Fb h (fun v2 M2 e2 h => ?_)
  refine hr_Gcv mf_X11_repainted mf_X11_findPaint lb_X11_repainted_37 (b := 275) (as := []) (rest := []) (st2 := []) (v := none) (M1 := M2) rfl rfl rfl rfl rfl rfl K_275 (g_X11_findPaint  _ _ e2) rfl rfl ?_
  refine hr_Grun mf_X11_repainted lb_X11_repainted_40 (P := True) (pc' := 41) (ls' := [some (.ref 275), none, none, some (.int a3), none, none]) (st' := [.ref 275]) (M' := M2) rfl rfl trivial ?_
  refine hr_Fb h (fun v4 M4 e4 h => ?_)
  refine hr_Gcv mf_X11_repainted mf_X11_pictures lb_X11_repainted_41 (b := 275) (as := []) (rest := []) (st2 := [.int v4]) (v := some (.int v4)) (M1 := M4) rfl rfl rfl rfl rfl rfl K_275 (g_X11_pictures  _ _ e4) rfl rfl ?_
  refine hr_Grun mf_X11_repainted lb_X11_repainted_44 (P := True) (pc' := if v4 = 0 then 47 else 51) (ls' := [some (.ref 275), none, none, some (.int a3), none, none]) (st' := []) (M' := M4) rfl rfl trivial ?_
  refine hr_Gif h (fun _ h => ?_) (fun _ h => ?_)
  · refine hr_Grun mf_X11_repainted lb_X11_repainted_47 (P := True) (pc' := 54) (ls' := [some (.ref 275), none, none, some (.int a3), none, none]) (st' := [.int 0]) (M' := M4) rfl rfl trivial ?_
    refine hr_Grun mf_X11_repainted lb_X11_repainted_54 (P := True) (pc' := 59) (ls' := [some (.ref 275), none, none, some (.int a3), some (.int 0), some (.int 0)]) (st' := []) (M' := M4) rfl rfl trivial ?_
    exact g_X11_repainted_59 a1 a2 a3 FU 0 0 M4 _ h
  · refine hr_Grun mf_X11_repainted lb_X11_repainted_51 (P := True) (pc' := 54) (ls' := [some (.ref 275), none, none, some (.int a3), none, none]) (st' := [.int 1000000]) (M' := M4) rfl rfl trivial ?_
    refine hr_Grun mf_X11_repainted lb_X11_repainted_54 (P := True) (pc' := 59) (ls' := [some (.ref 275), none, none, some (.int a3), some (.int 1000000), some (.int 0)]) (st' := []) (M' := M4) rfl rfl trivial ?_
    exact g_X11_repainted_59 a1 a2 a3 FU 1000000 0 M4 _ h
def f_X11_repainted (a1 : Int32) (a2 : Int32) (a3 : Int32) (M : PM) : Option (Int32 × PM) :=
  hr_bd (f_X11_layGallery a1 a2 (hr_si M 275 0 0)) (fun v2 M2 =>
  if v2 = 0 then
    some ((-1), M2)
  else
    if a3 = 0 then
      f_X11_repainted_36 a1 a2 a3 M2
    else
      hr_bd (f_X11_pictures M2) (fun v7 M7 =>
      hr_bd (f_X11_in a3 10 (9 + v7) M7) (fun v9 M9 =>
      if v9 = 0 then
        some ((-1), M9)
      else
        f_X11_repainted_36 a1 a2 a3 M9)))
theorem g_X11_repainted (a1 : Int32) (a2 : Int32) (a3 : Int32) : ∀ (M : PM) (r : Int32 × PM), f_X11_repainted a1 a2 a3 M = some r → hr_G 260 0 [some (.ref 275), some (.int a1), some (.int a2), some (.int a3), none, none] [] M (some (.int r.1), r.2) := by
  intro M r h
  unfold f_X11_repainted at h
  refine hr_Grun mf_X11_repainted lb_X11_repainted_0 (P := (hr_K 275 = 10 ∧ 275 < hr_n) ∧ True) (pc' := 8) (ls' := [some (.ref 275), some (.int a1), some (.int a2), some (.int a3), none, none]) (st' := [.int a2, .int a1, .ref 275]) (M' := hr_si M 275 0 0) rfl rfl ⟨⟨K_275, L_275⟩, trivial⟩ ?_
  refine hr_Fb h (fun v2 M2 e2 h => ?_)
  refine hr_Gcv mf_X11_repainted mf_X11_layGallery lb_X11_repainted_8 (b := 275) (as := [.int a1, .int a2]) (rest := []) (st2 := [.int v2]) (v := some (.int v2)) (M1 := M2) rfl rfl rfl rfl rfl rfl K_275 (g_X11_layGallery a1 a2 _ _ e2) rfl rfl ?_
  refine hr_Grun mf_X11_repainted lb_X11_repainted_11 (P := True) (pc' := if v2 = 0 then 34 else 14) (ls' := [some (.ref 275), some (.int a1), some (.int a2), some (.int a3), none, none]) (st' := []) (M' := M2) rfl rfl trivial ?_
  refine hr_Gif h (fun _ h => ?_) (fun _ h => ?_)
  · refine hr_Grun mf_X11_repainted lb_X11_repainted_34 (P := True) (pc' := 35) (ls' := [some (.ref 275), some (.int a1), some (.int a2), some (.int a3), none, none]) (st' := [.int (-1)]) (M' := M2) rfl rfl trivial ?_
    cases h
    exact hr_Gret mf_X11_repainted lb_X11_repainted_35 rfl rfl trivial
  · refine hr_Grun mf_X11_repainted lb_X11_repainted_14 (P := True) (pc' := if a3 = 0 then 36 else 18) (ls' := [some (.ref 275), some (.int a1), some (.int a2), some (.int a3), none, none]) (st' := []) (M' := M2) rfl rfl trivial ?_
    refine hr_Gif h (fun _ h => ?_) (fun _ h => ?_)
    · refine hr_Gle (ls := [some (.ref 275), none, none, some (.int a3), none, none]) (hr_le_s (hr_le_n (hr_le_n (hr_le_s (hr_le_n (hr_le_n hr_le_0)))))) ?_
      exact g_X11_repainted_36 a1 a2 a3 M2 _ h
    · refine hr_Grun mf_X11_repainted lb_X11_repainted_18 (P := True) (pc' := 24) (ls' := [some (.ref 275), some (.int a1), some (.int a2), some (.int a3), none, none]) (st' := [.ref 275, .int 9, .int 10, .int a3]) (M' := M2) rfl rfl trivial ?_
      refine hr_Fb h (fun v7 M7 e7 h => ?_)
      refine hr_Gcv mf_X11_repainted mf_X11_pictures lb_X11_repainted_24 (b := 275) (as := []) (rest := [.int 9, .int 10, .int a3]) (st2 := [.int v7, .int 9, .int 10, .int a3]) (v := some (.int v7)) (M1 := M7) rfl rfl rfl rfl rfl rfl K_275 (g_X11_pictures  _ _ e7) rfl rfl ?_
      refine hr_Grun mf_X11_repainted lb_X11_repainted_27 (P := True) (pc' := 28) (ls' := [some (.ref 275), some (.int a1), some (.int a2), some (.int a3), none, none]) (st' := [.int (9 + v7), .int 10, .int a3]) (M' := M7) rfl rfl trivial ?_
      refine hr_Fb h (fun v9 M9 e9 h => ?_)
      refine hr_Gcs mf_X11_repainted mf_X11_in lb_X11_repainted_28 (as := [.int a3, .int 10, .int (9 + v7)]) (rest := []) (st2 := [.int v9]) (v := some (.int v9)) (M1 := M9) rfl rfl rfl rfl rfl rfl (g_X11_in a3 10 (9 + v7) _ _ e9) rfl rfl ?_
      refine hr_Grun mf_X11_repainted lb_X11_repainted_31 (P := True) (pc' := if v9 = 0 then 34 else 36) (ls' := [some (.ref 275), some (.int a1), some (.int a2), some (.int a3), none, none]) (st' := []) (M' := M9) rfl rfl trivial ?_
      refine hr_Gif h (fun _ h => ?_) (fun _ h => ?_)
      · refine hr_Grun mf_X11_repainted lb_X11_repainted_34 (P := True) (pc' := 35) (ls' := [some (.ref 275), some (.int a1), some (.int a2), some (.int a3), none, none]) (st' := [.int (-1)]) (M' := M9) rfl rfl trivial ?_
        cases h
        exact hr_Gret mf_X11_repainted lb_X11_repainted_35 rfl rfl trivial
      · refine hr_Gle (ls := [some (.ref 275), none, none, some (.int a3), none, none]) (hr_le_s (hr_le_n (hr_le_n (hr_le_s (hr_le_n (hr_le_n hr_le_0)))))) ?_
        exact g_X11_repainted_36 a1 a2 a3 M9 _ h
theorem mf_X11_loom : hr_mf 261 11 4 (some .long) 3 2 bk_X11_loom := ⟨rfl, rfl, rfl, rfl, rfl, rfl⟩
theorem lb_X11_loom_0 : bk_X11_loom.lookup 0 = some [(.aload_n 0, 1), (.iconst 0, 1), (.putfield 100, 3), (.aload_n 0, 1), (.iload_n 1, 1)] := rfl
theorem lb_X11_loom_7 : bk_X11_loom.lookup 7 = some [(.invokevirtual 326, 3)] := rfl
theorem lb_X11_loom_10 : bk_X11_loom.lookup 10 = some [(.ifCond .ne 7, 3)] := rfl
theorem lb_X11_loom_13 : bk_X11_loom.lookup 13 = some [(.ldc2_w 441, 3)] := rfl
theorem lb_X11_loom_16 : bk_X11_loom.lookup 16 = some [(.lreturn, 1)] := rfl
theorem lb_X11_loom_17 : bk_X11_loom.lookup 17 = some [(.aload_n 0, 1), (.iload_n 2, 1)] := rfl
theorem lb_X11_loom_19 : bk_X11_loom.lookup 19 = some [(.invokevirtual 466, 3)] := rfl
theorem lb_X11_loom_22 : bk_X11_loom.lookup 22 = some [(.aload_n 0, 1)] := rfl
theorem lb_X11_loom_23 : bk_X11_loom.lookup 23 = some [(.invokevirtual 446, 3)] := rfl
theorem lb_X11_loom_26 : bk_X11_loom.lookup 26 = some [(.lreturn, 1)] := rfl
def f_X11_loom (a1 : Int32) (a2 : Int32) (M : PM) : Option (Int64 × PM) :=
  hr_bd (f_X11_hand a1 (hr_si M 275 0 0)) (fun v2 M2 =>
  if v2 = 0 then
    some ((-1), M2)
  else
    hr_bd (f_X11_layThreads a2 M2) (fun v6 M6 =>
    hr_bd (f_X11_allRows M6) (fun v8 M8 =>
    some (v8, M8))))
theorem g_X11_loom (a1 : Int32) (a2 : Int32) : ∀ (M : PM) (r : Int64 × PM), f_X11_loom a1 a2 M = some r → hr_G 261 0 [some (.ref 275), some (.int a1), some (.int a2)] [] M (some (.long r.1), r.2) := by
  intro M r h
  unfold f_X11_loom at h
  refine hr_Grun mf_X11_loom lb_X11_loom_0 (P := (hr_K 275 = 10 ∧ 275 < hr_n) ∧ True) (pc' := 7) (ls' := [some (.ref 275), some (.int a1), some (.int a2)]) (st' := [.int a1, .ref 275]) (M' := hr_si M 275 0 0) rfl rfl ⟨⟨K_275, L_275⟩, trivial⟩ ?_
  refine hr_Fb h (fun v2 M2 e2 h => ?_)
  refine hr_Gcv mf_X11_loom mf_X11_hand lb_X11_loom_7 (b := 275) (as := [.int a1]) (rest := []) (st2 := [.int v2]) (v := some (.int v2)) (M1 := M2) rfl rfl rfl rfl rfl rfl K_275 (g_X11_hand a1 _ _ e2) rfl rfl ?_
  refine hr_Grun mf_X11_loom lb_X11_loom_10 (P := True) (pc' := if v2 = 0 then 13 else 17) (ls' := [some (.ref 275), some (.int a1), some (.int a2)]) (st' := []) (M' := M2) rfl rfl trivial ?_
  refine hr_Gif h (fun _ h => ?_) (fun _ h => ?_)
  · refine hr_Grun mf_X11_loom lb_X11_loom_13 (P := True) (pc' := 16) (ls' := [some (.ref 275), some (.int a1), some (.int a2)]) (st' := [.long (-1)]) (M' := M2) rfl rfl trivial ?_
    cases h
    exact hr_Gret mf_X11_loom lb_X11_loom_16 rfl rfl trivial
  · refine hr_Grun mf_X11_loom lb_X11_loom_17 (P := True) (pc' := 19) (ls' := [some (.ref 275), some (.int a1), some (.int a2)]) (st' := [.int a2, .ref 275]) (M' := M2) rfl rfl trivial ?_
    refine hr_Fb h (fun v6 M6 e6 h => ?_)
    refine hr_Gcv mf_X11_loom mf_X11_layThreads lb_X11_loom_19 (b := 275) (as := [.int a2]) (rest := []) (st2 := []) (v := none) (M1 := M6) rfl rfl rfl rfl rfl rfl K_275 (g_X11_layThreads a2 _ _ e6) rfl rfl ?_
    refine hr_Grun mf_X11_loom lb_X11_loom_22 (P := True) (pc' := 23) (ls' := [some (.ref 275), some (.int a1), some (.int a2)]) (st' := [.ref 275]) (M' := M6) rfl rfl trivial ?_
    refine hr_Fb h (fun v8 M8 e8 h => ?_)
    refine hr_Gcv mf_X11_loom mf_X11_allRows lb_X11_loom_23 (b := 275) (as := []) (rest := []) (st2 := [.long v8]) (v := some (.long v8)) (M1 := M8) rfl rfl rfl rfl rfl rfl K_275 (g_X11_allRows  _ _ e8) rfl rfl ?_
    cases h
    exact hr_Gret mf_X11_loom lb_X11_loom_26 rfl rfl trivial
theorem mf_X11_thread : hr_mf 262 11 4 (some .int) 4 3 bk_X11_thread := ⟨rfl, rfl, rfl, rfl, rfl, rfl⟩
theorem lb_X11_thread_0 : bk_X11_thread.lookup 0 = some [(.aload_n 0, 1), (.iconst 0, 1), (.putfield 100, 3), (.aload_n 0, 1), (.iload_n 1, 1)] := rfl
theorem lb_X11_thread_7 : bk_X11_thread.lookup 7 = some [(.invokevirtual 326, 3)] := rfl
theorem lb_X11_thread_10 : bk_X11_thread.lookup 10 = some [(.ifCond .ne 5, 3)] := rfl
theorem lb_X11_thread_13 : bk_X11_thread.lookup 13 = some [(.iconst (-1), 1)] := rfl
theorem lb_X11_thread_14 : bk_X11_thread.lookup 14 = some [(.ireturn, 1)] := rfl
theorem lb_X11_thread_15 : bk_X11_thread.lookup 15 = some [(.aload_n 0, 1), (.iload_n 2, 1)] := rfl
theorem lb_X11_thread_17 : bk_X11_thread.lookup 17 = some [(.invokevirtual 466, 3)] := rfl
theorem lb_X11_thread_20 : bk_X11_thread.lookup 20 = some [(.iload_n 3, 1), (.iconst 0, 1), (.aload_n 0, 1), (.getfield 432, 3), (.iconst 1, 1), (.isub, 1)] := rfl
theorem lb_X11_thread_28 : bk_X11_thread.lookup 28 = some [(.invokestatic 112, 3)] := rfl
theorem lb_X11_thread_31 : bk_X11_thread.lookup 31 = some [(.ifCond .eq 12, 3)] := rfl
theorem lb_X11_thread_34 : bk_X11_thread.lookup 34 = some [(.aload_n 0, 1)] := rfl
theorem lb_X11_thread_35 : bk_X11_thread.lookup 35 = some [(.invokevirtual 446, 3)] := rfl
theorem lb_X11_thread_38 : bk_X11_thread.lookup 38 = some [(.lconst 0, 1), (.lcmp, 1), (.ifCond .ne 7, 3)] := rfl
theorem lb_X11_thread_43 : bk_X11_thread.lookup 43 = some [(.iconst (-1), 1), (.goto 13, 3)] := rfl
theorem lb_X11_thread_47 : bk_X11_thread.lookup 47 = some [(.aload_n 0, 1), (.getfield 71, 3), (.aload_n 0, 1), (.iload_n 3, 1)] := rfl
theorem lb_X11_thread_53 : bk_X11_thread.lookup 53 = some [(.invokevirtual 450, 3)] := rfl
theorem lb_X11_thread_56 : bk_X11_thread.lookup 56 = some [(.iaload, 1)] := rfl
theorem lb_X11_thread_57 : bk_X11_thread.lookup 57 = some [(.ireturn, 1)] := rfl
def f_X11_thread (a1 : Int32) (a2 : Int32) (a3 : Int32) (M : PM) : Option (Int32 × PM) :=
  hr_bd (f_X11_hand a1 (hr_si M 275 0 0)) (fun v2 M2 =>
  if v2 = 0 then
    some ((-1), M2)
  else
    hr_bd (f_X11_layThreads a2 M2) (fun v6 M6 =>
    hr_bd (f_X11_in a3 0 ((M6.1 275 41) - 1) M6) (fun v8 M8 =>
    if v8 = 0 then
      some ((-1), M8)
    else
      hr_bd (f_X11_allRows M8) (fun v12 M12 =>
      if (lg_cmp v12 0) = 0 then
        some ((-1), M12)
      else
        hr_bd (f_X11_rowAt a3 M12) (fun v16 M16 =>
        if inB v16 10 = true then 
        some ((M16.1 296 v16.toNatClampNeg), M16) else none)))))
theorem g_X11_thread (a1 : Int32) (a2 : Int32) (a3 : Int32) : ∀ (M : PM) (r : Int32 × PM), f_X11_thread a1 a2 a3 M = some r → hr_G 262 0 [some (.ref 275), some (.int a1), some (.int a2), some (.int a3)] [] M (some (.int r.1), r.2) := by
  intro M r h
  unfold f_X11_thread at h
  refine hr_Grun mf_X11_thread lb_X11_thread_0 (P := (hr_K 275 = 10 ∧ 275 < hr_n) ∧ True) (pc' := 7) (ls' := [some (.ref 275), some (.int a1), some (.int a2), some (.int a3)]) (st' := [.int a1, .ref 275]) (M' := hr_si M 275 0 0) rfl rfl ⟨⟨K_275, L_275⟩, trivial⟩ ?_
  refine hr_Fb h (fun v2 M2 e2 h => ?_)
  refine hr_Gcv mf_X11_thread mf_X11_hand lb_X11_thread_7 (b := 275) (as := [.int a1]) (rest := []) (st2 := [.int v2]) (v := some (.int v2)) (M1 := M2) rfl rfl rfl rfl rfl rfl K_275 (g_X11_hand a1 _ _ e2) rfl rfl ?_
  refine hr_Grun mf_X11_thread lb_X11_thread_10 (P := True) (pc' := if v2 = 0 then 13 else 15) (ls' := [some (.ref 275), some (.int a1), some (.int a2), some (.int a3)]) (st' := []) (M' := M2) rfl rfl trivial ?_
  refine hr_Gif h (fun _ h => ?_) (fun _ h => ?_)
  · refine hr_Grun mf_X11_thread lb_X11_thread_13 (P := True) (pc' := 14) (ls' := [some (.ref 275), some (.int a1), some (.int a2), some (.int a3)]) (st' := [.int (-1)]) (M' := M2) rfl rfl trivial ?_
    cases h
    exact hr_Gret mf_X11_thread lb_X11_thread_14 rfl rfl trivial
  · refine hr_Grun mf_X11_thread lb_X11_thread_15 (P := True) (pc' := 17) (ls' := [some (.ref 275), some (.int a1), some (.int a2), some (.int a3)]) (st' := [.int a2, .ref 275]) (M' := M2) rfl rfl trivial ?_
    refine hr_Fb h (fun v6 M6 e6 h => ?_)
    refine hr_Gcv mf_X11_thread mf_X11_layThreads lb_X11_thread_17 (b := 275) (as := [.int a2]) (rest := []) (st2 := []) (v := none) (M1 := M6) rfl rfl rfl rfl rfl rfl K_275 (g_X11_layThreads a2 _ _ e6) rfl rfl ?_
    refine hr_Grun mf_X11_thread lb_X11_thread_20 (P := hr_K 275 = 10 ∧ True) (pc' := 28) (ls' := [some (.ref 275), some (.int a1), some (.int a2), some (.int a3)]) (st' := [.int ((M6.1 275 41) - 1), .int 0, .int a3]) (M' := M6) rfl rfl ⟨K_275, trivial⟩ ?_
    refine hr_Fb h (fun v8 M8 e8 h => ?_)
    refine hr_Gcs mf_X11_thread mf_X11_in lb_X11_thread_28 (as := [.int a3, .int 0, .int ((M6.1 275 41) - 1)]) (rest := []) (st2 := [.int v8]) (v := some (.int v8)) (M1 := M8) rfl rfl rfl rfl rfl rfl (g_X11_in a3 0 ((M6.1 275 41) - 1) _ _ e8) rfl rfl ?_
    refine hr_Grun mf_X11_thread lb_X11_thread_31 (P := True) (pc' := if v8 = 0 then 43 else 34) (ls' := [some (.ref 275), some (.int a1), some (.int a2), some (.int a3)]) (st' := []) (M' := M8) rfl rfl trivial ?_
    refine hr_Gif h (fun _ h => ?_) (fun _ h => ?_)
    · refine hr_Grun mf_X11_thread lb_X11_thread_43 (P := True) (pc' := 57) (ls' := [some (.ref 275), some (.int a1), some (.int a2), some (.int a3)]) (st' := [.int (-1)]) (M' := M8) rfl rfl trivial ?_
      cases h
      exact hr_Gret mf_X11_thread lb_X11_thread_57 rfl rfl trivial
    · refine hr_Grun mf_X11_thread lb_X11_thread_34 (P := True) (pc' := 35) (ls' := [some (.ref 275), some (.int a1), some (.int a2), some (.int a3)]) (st' := [.ref 275]) (M' := M8) rfl rfl trivial ?_
      refine hr_Fb h (fun v12 M12 e12 h => ?_)
      refine hr_Gcv mf_X11_thread mf_X11_allRows lb_X11_thread_35 (b := 275) (as := []) (rest := []) (st2 := [.long v12]) (v := some (.long v12)) (M1 := M12) rfl rfl rfl rfl rfl rfl K_275 (g_X11_allRows  _ _ e12) rfl rfl ?_
      refine hr_Grun mf_X11_thread lb_X11_thread_38 (P := True) (pc' := if (lg_cmp v12 0) = 0 then 43 else 47) (ls' := [some (.ref 275), some (.int a1), some (.int a2), some (.int a3)]) (st' := []) (M' := M12) rfl rfl trivial ?_
      refine hr_Gif h (fun _ h => ?_) (fun _ h => ?_)
      · refine hr_Grun mf_X11_thread lb_X11_thread_43 (P := True) (pc' := 57) (ls' := [some (.ref 275), some (.int a1), some (.int a2), some (.int a3)]) (st' := [.int (-1)]) (M' := M12) rfl rfl trivial ?_
        cases h
        exact hr_Gret mf_X11_thread lb_X11_thread_57 rfl rfl trivial
      · refine hr_Grun mf_X11_thread lb_X11_thread_47 (P := hr_K 275 = 10 ∧ True) (pc' := 53) (ls' := [some (.ref 275), some (.int a1), some (.int a2), some (.int a3)]) (st' := [.int a3, .ref 275, .ref 296]) (M' := M12) rfl rfl ⟨K_275, trivial⟩ ?_
        refine hr_Fb h (fun v16 M16 e16 h => ?_)
        refine hr_Gcv mf_X11_thread mf_X11_rowAt lb_X11_thread_53 (b := 275) (as := [.int a3]) (rest := [.ref 296]) (st2 := [.int v16, .ref 296]) (v := some (.int v16)) (M1 := M16) rfl rfl rfl rfl rfl rfl K_275 (g_X11_rowAt a3 _ _ e16) rfl rfl ?_
        refine hr_Fg h (fun hg17_0 h => ?_)
        refine hr_Grun mf_X11_thread lb_X11_thread_56 (P := (hr_K 296 = 12 ∧ vp_in v16 (hr_N 296)) ∧ True) (pc' := 57) (ls' := [some (.ref 275), some (.int a1), some (.int a2), some (.int a3)]) (st' := [.int (M16.1 296 v16.toNatClampNeg)]) (M' := M16) rfl rfl ⟨⟨K_296, (inB_N N_296 hg17_0)⟩, trivial⟩ ?_
        cases h
        exact hr_Gret mf_X11_thread lb_X11_thread_57 rfl rfl trivial
theorem mf_X11_mixed : hr_mf 263 11 2 (some .int) 3 2 bk_X11_mixed := ⟨rfl, rfl, rfl, rfl, rfl, rfl⟩
theorem lb_X11_mixed_0 : bk_X11_mixed.lookup 0 = some [(.bipush 100, 2), (.iload_n 1, 1), (.bipush 100, 2), (.idiv, 1), (.aload_n 0, 1), (.iload_n 2, 1), (.iconst 0, 1)] := rfl
theorem lb_X11_mixed_9 : bk_X11_mixed.lookup 9 = some [(.invokevirtual 285, 3)] := rfl
theorem lb_X11_mixed_12 : bk_X11_mixed.lookup 12 = some [(.iadd, 1), (.bipush 10, 2), (.irem, 1), (.imul, 1), (.bipush 10, 2), (.iload_n 1, 1), (.bipush 10, 2), (.idiv, 1), (.aload_n 0, 1), (.iload_n 2, 1), (.iconst 1, 1)] := rfl
theorem lb_X11_mixed_26 : bk_X11_mixed.lookup 26 = some [(.invokevirtual 285, 3)] := rfl
theorem lb_X11_mixed_29 : bk_X11_mixed.lookup 29 = some [(.iadd, 1), (.bipush 10, 2), (.irem, 1), (.imul, 1), (.iadd, 1), (.iload_n 1, 1), (.aload_n 0, 1), (.iload_n 2, 1), (.iconst 2, 1)] := rfl
theorem lb_X11_mixed_39 : bk_X11_mixed.lookup 39 = some [(.invokevirtual 285, 3)] := rfl
theorem lb_X11_mixed_42 : bk_X11_mixed.lookup 42 = some [(.iadd, 1), (.bipush 10, 2), (.irem, 1), (.iadd, 1)] := rfl
theorem lb_X11_mixed_47 : bk_X11_mixed.lookup 47 = some [(.ireturn, 1)] := rfl
def f_X11_mixed (a1 : Int32) (a2 : Int32) (M : PM) : Option (Int32 × PM) :=
  hr_bd (f_X11_part a2 0 M) (fun v2 M2 =>
  hr_bd (f_X11_part a2 1 M2) (fun v4 M4 =>
  hr_bd (f_X11_part a2 2 M4) (fun v6 M6 =>
  some ((((100 * (jr ((a1 / 100) + v2) 10)) + (10 * (jr ((a1 / 10) + v4) 10))) + (jr (a1 + v6) 10)), M6))))
theorem g_X11_mixed (a1 : Int32) (a2 : Int32) : ∀ (M : PM) (r : Int32 × PM), f_X11_mixed a1 a2 M = some r → hr_G 263 0 [some (.ref 275), some (.int a1), some (.int a2)] [] M (some (.int r.1), r.2) := by
  intro M r h
  unfold f_X11_mixed at h
  refine hr_Grun mf_X11_mixed lb_X11_mixed_0 (P := ¬ (100 : Int32) = 0 ∧ True) (pc' := 9) (ls' := [some (.ref 275), some (.int a1), some (.int a2)]) (st' := [.int 0, .int a2, .ref 275, .int (a1 / 100), .int 100]) (M' := M) rfl rfl ⟨(by decide), trivial⟩ ?_
  refine hr_Fb h (fun v2 M2 e2 h => ?_)
  refine hr_Gcv mf_X11_mixed mf_X11_part lb_X11_mixed_9 (b := 275) (as := [.int a2, .int 0]) (rest := [.int (a1 / 100), .int 100]) (st2 := [.int v2, .int (a1 / 100), .int 100]) (v := some (.int v2)) (M1 := M2) rfl rfl rfl rfl rfl rfl K_275 (g_X11_part a2 0 _ _ e2) rfl rfl ?_
  refine hr_Grun mf_X11_mixed lb_X11_mixed_12 (P := ¬ (10 : Int32) = 0 ∧ ¬ (10 : Int32) = 0 ∧ True) (pc' := 26) (ls' := [some (.ref 275), some (.int a1), some (.int a2)]) (st' := [.int 1, .int a2, .ref 275, .int (a1 / 10), .int 10, .int (100 * (jr ((a1 / 100) + v2) 10))]) (M' := M2) rfl rfl ⟨(by decide), (by decide), trivial⟩ ?_
  refine hr_Fb h (fun v4 M4 e4 h => ?_)
  refine hr_Gcv mf_X11_mixed mf_X11_part lb_X11_mixed_26 (b := 275) (as := [.int a2, .int 1]) (rest := [.int (a1 / 10), .int 10, .int (100 * (jr ((a1 / 100) + v2) 10))]) (st2 := [.int v4, .int (a1 / 10), .int 10, .int (100 * (jr ((a1 / 100) + v2) 10))]) (v := some (.int v4)) (M1 := M4) rfl rfl rfl rfl rfl rfl K_275 (g_X11_part a2 1 _ _ e4) rfl rfl ?_
  refine hr_Grun mf_X11_mixed lb_X11_mixed_29 (P := ¬ (10 : Int32) = 0 ∧ True) (pc' := 39) (ls' := [some (.ref 275), some (.int a1), some (.int a2)]) (st' := [.int 2, .int a2, .ref 275, .int a1, .int ((100 * (jr ((a1 / 100) + v2) 10)) + (10 * (jr ((a1 / 10) + v4) 10)))]) (M' := M4) rfl rfl ⟨(by decide), trivial⟩ ?_
  refine hr_Fb h (fun v6 M6 e6 h => ?_)
  refine hr_Gcv mf_X11_mixed mf_X11_part lb_X11_mixed_39 (b := 275) (as := [.int a2, .int 2]) (rest := [.int a1, .int ((100 * (jr ((a1 / 100) + v2) 10)) + (10 * (jr ((a1 / 10) + v4) 10)))]) (st2 := [.int v6, .int a1, .int ((100 * (jr ((a1 / 100) + v2) 10)) + (10 * (jr ((a1 / 10) + v4) 10)))]) (v := some (.int v6)) (M1 := M6) rfl rfl rfl rfl rfl rfl K_275 (g_X11_part a2 2 _ _ e6) rfl rfl ?_
  refine hr_Grun mf_X11_mixed lb_X11_mixed_42 (P := ¬ (10 : Int32) = 0 ∧ True) (pc' := 47) (ls' := [some (.ref 275), some (.int a1), some (.int a2)]) (st' := [.int (((100 * (jr ((a1 / 100) + v2) 10)) + (10 * (jr ((a1 / 10) + v4) 10))) + (jr (a1 + v6) 10))]) (M' := M6) rfl rfl ⟨(by decide), trivial⟩ ?_
  cases h
  exact hr_Gret mf_X11_mixed lb_X11_mixed_47 rfl rfl trivial
theorem mf_X11_findNeeds : hr_mf 264 11 5 none 6 1 bk_X11_findNeeds := ⟨rfl, rfl, rfl, rfl, rfl, rfl⟩
theorem lb_X11_findNeeds_0 : bk_X11_findNeeds.lookup 0 = some [(.iconst 0, 1), (.istore_n 2, 1)] := rfl
theorem lb_X11_findNeeds_2 : bk_X11_findNeeds.lookup 2 = some [(.iload_n 2, 1), (.sipush 1000, 3), (.if_icmp .ge 31, 3)] := rfl
theorem lb_X11_findNeeds_9 : bk_X11_findNeeds.lookup 9 = some [(.aload_n 0, 1), (.getfield 81, 3), (.iload_n 2, 1), (.aload_n 0, 1), (.iload_n 2, 1), (.iload_n 1, 1)] := rfl
theorem lb_X11_findNeeds_17 : bk_X11_findNeeds.lookup 17 = some [(.invokevirtual 323, 3)] := rfl
theorem lb_X11_findNeeds_20 : bk_X11_findNeeds.lookup 20 = some [(.ifCond .eq 7, 3)] := rfl
theorem lb_X11_findNeeds_23 : bk_X11_findNeeds.lookup 23 = some [(.iconst 0, 1), (.goto 6, 3)] := rfl
theorem lb_X11_findNeeds_27 : bk_X11_findNeeds.lookup 27 = some [(.ldc_w 453, 3)] := rfl
theorem lb_X11_findNeeds_30 : bk_X11_findNeeds.lookup 30 = some [(.iastore, 1), (.iinc 2 1, 3), (.goto (-32), 3)] := rfl
theorem lb_X11_findNeeds_37 : bk_X11_findNeeds.lookup 37 = some [(.iconst 1, 1), (.istore_n 2, 1)] := rfl
theorem lb_X11_findNeeds_39 : bk_X11_findNeeds.lookup 39 = some [(.iload_n 2, 1), (.ifCond .eq 95, 3)] := rfl
theorem lb_X11_findNeeds_43 : bk_X11_findNeeds.lookup 43 = some [(.iconst 0, 1), (.istore_n 2, 1), (.iconst 0, 1), (.istore_n 3, 1)] := rfl
theorem lb_X11_findNeeds_47 : bk_X11_findNeeds.lookup 47 = some [(.iload_n 3, 1), (.sipush 1000, 3), (.if_icmp .ge 81, 3)] := rfl
theorem lb_X11_findNeeds_54 : bk_X11_findNeeds.lookup 54 = some [(.iconst 0, 1), (.istore 4, 2)] := rfl
theorem lb_X11_findNeeds_57 : bk_X11_findNeeds.lookup 57 = some [(.iload 4, 2), (.aload_n 0, 1), (.getfield 299, 3), (.if_icmp .ge 63, 3)] := rfl
theorem lb_X11_findNeeds_66 : bk_X11_findNeeds.lookup 66 = some [(.iconst 1, 1), (.aload_n 0, 1), (.getfield 81, 3), (.aload_n 0, 1), (.iload_n 3, 1), (.iload 4, 2)] := rfl
theorem lb_X11_findNeeds_75 : bk_X11_findNeeds.lookup 75 = some [(.invokevirtual 469, 3)] := rfl
theorem lb_X11_findNeeds_78 : bk_X11_findNeeds.lookup 78 = some [(.iaload, 1), (.iadd, 1), (.istore 5, 2), (.iload_n 2, 1), (.ifCond .ne 14, 3)] := rfl
theorem lb_X11_findNeeds_86 : bk_X11_findNeeds.lookup 86 = some [(.iload 5, 2), (.aload_n 0, 1), (.getfield 81, 3), (.iload_n 3, 1), (.iaload, 1), (.if_icmp .ge 7, 3)] := rfl
theorem lb_X11_findNeeds_97 : bk_X11_findNeeds.lookup 97 = some [(.iconst 1, 1), (.goto 4, 3)] := rfl
theorem lb_X11_findNeeds_101 : bk_X11_findNeeds.lookup 101 = some [(.iconst 0, 1)] := rfl
theorem lb_X11_findNeeds_102 : bk_X11_findNeeds.lookup 102 = some [(.istore_n 2, 1), (.aload_n 0, 1), (.getfield 81, 3), (.iload_n 3, 1), (.aload_n 0, 1), (.getfield 81, 3), (.iload_n 3, 1), (.iaload, 1), (.iload 5, 2)] := rfl
theorem lb_X11_findNeeds_116 : bk_X11_findNeeds.lookup 116 = some [(.invokestatic 454, 3)] := rfl
theorem lb_X11_findNeeds_119 : bk_X11_findNeeds.lookup 119 = some [(.iastore, 1), (.iinc 4 1, 3), (.goto (-66), 3)] := rfl
theorem lb_X11_findNeeds_126 : bk_X11_findNeeds.lookup 126 = some [(.iinc 3 1, 3), (.goto (-82), 3)] := rfl
theorem lb_X11_findNeeds_132 : bk_X11_findNeeds.lookup 132 = some [(.goto (-93), 3)] := rfl
theorem lb_X11_findNeeds_135 : bk_X11_findNeeds.lookup 135 = some [(.return_, 1)] := rfl
def f_X11_findNeeds_102 (a1 : Int32) (k39 : Int32 → PM → Option (Unit × PM)) (k47 : Int32 → Int32 → PM → Option (Unit × PM)) (k57 : Int32 → Int32 → Int32 → PM → Option (Unit × PM)) (x3 : Int32) (x4 : Int32) (x5 : Int32) (s0 : Int32) (M : PM) : Option (Unit × PM) :=
  if inB x3 1000 = true then 
  hr_bd (f_X11_lesser (M.1 299 x3.toNatClampNeg) x5 M) (fun v2 M2 =>
  if inB x3 1000 = true then 
  k57 s0 x3 (x4 + 1) (hr_si M2 299 x3.toNatClampNeg v2) else none) else none
theorem g_X11_findNeeds_102 (a1 : Int32)  (k39 : Int32 → PM → Option (Unit × PM)) (k47 : Int32 → Int32 → PM → Option (Unit × PM)) (k57 : Int32 → Int32 → Int32 → PM → Option (Unit × PM)) (hk39 : ∀ (x2 : Int32) (M : PM) (r : Unit × PM), k39 x2 M = some r → hr_G 264 39 [some (.ref 275), none, some (.int x2), none, none, none] [] M (none, r.2)) (hk47 : ∀ (x2 : Int32) (x3 : Int32) (M : PM) (r : Unit × PM), k47 x2 x3 M = some r → hr_G 264 47 [some (.ref 275), none, some (.int x2), some (.int x3), none, none] [] M (none, r.2)) (hk57 : ∀ (x2 : Int32) (x3 : Int32) (x4 : Int32) (M : PM) (r : Unit × PM), k57 x2 x3 x4 M = some r → hr_G 264 57 [some (.ref 275), none, some (.int x2), some (.int x3), some (.int x4), none] [] M (none, r.2)) : ∀ (x3 : Int32) (x4 : Int32) (x5 : Int32) (s0 : Int32) (M : PM) (r : Unit × PM), f_X11_findNeeds_102 a1 k39 k47 k57 x3 x4 x5 s0 M = some r → hr_G 264 102 [some (.ref 275), none, none, some (.int x3), some (.int x4), some (.int x5)] [.int s0] M (none, r.2) := by
  intro x3 x4 x5 s0 M r h
  unfold f_X11_findNeeds_102 at h
  refine hr_Fg h (fun hg1_0 h => ?_)
  refine hr_Grun mf_X11_findNeeds lb_X11_findNeeds_102 (P := hr_K 275 = 10 ∧ hr_K 275 = 10 ∧ (hr_K 299 = 12 ∧ vp_in x3 (hr_N 299)) ∧ True) (pc' := 116) (ls' := [some (.ref 275), none, some (.int s0), some (.int x3), some (.int x4), some (.int x5)]) (st' := [.int x5, .int (M.1 299 x3.toNatClampNeg), .int x3, .ref 299]) (M' := M) rfl rfl ⟨K_275, K_275, ⟨K_299, (inB_N N_299 hg1_0)⟩, trivial⟩ ?_
  refine hr_Fb h (fun v2 M2 e2 h => ?_)
  refine hr_Gcs mf_X11_findNeeds mf_X11_lesser lb_X11_findNeeds_116 (as := [.int (M.1 299 x3.toNatClampNeg), .int x5]) (rest := [.int x3, .ref 299]) (st2 := [.int v2, .int x3, .ref 299]) (v := some (.int v2)) (M1 := M2) rfl rfl rfl rfl rfl rfl (g_X11_lesser (M.1 299 x3.toNatClampNeg) x5 _ _ e2) rfl rfl ?_
  refine hr_Fg h (fun hg3_0 h => ?_)
  refine hr_Grun mf_X11_findNeeds lb_X11_findNeeds_119 (P := ((hr_K 299 = 12 ∧ 299 < hr_n) ∧ vp_in x3 (hr_N 299)) ∧ True) (pc' := 57) (ls' := [some (.ref 275), none, some (.int s0), some (.int x3), some (.int (x4 + 1)), some (.int x5)]) (st' := []) (M' := hr_si M2 299 x3.toNatClampNeg v2) rfl rfl ⟨⟨⟨K_299, L_299⟩, (inB_N N_299 hg3_0)⟩, trivial⟩ ?_
  refine hr_Gle (ls := [some (.ref 275), none, some (.int s0), some (.int x3), some (.int (x4 + 1)), none]) (hr_le_s (hr_le_n (hr_le_s (hr_le_s (hr_le_s (hr_le_n hr_le_0)))))) ?_
  exact hk57 s0 x3 (x4 + 1) (hr_si M2 299 x3.toNatClampNeg v2) _ h
def f_X11_findNeeds_57 (a1 : Int32) (k39 : Int32 → PM → Option (Unit × PM)) (k47 : Int32 → Int32 → PM → Option (Unit × PM)) : Nat → Int32 → Int32 → Int32 → PM → Option (Unit × PM)
  | 0, _, _, _, _ => none
  | f + 1, x2, x3, x4, M =>
    if (M.1 275 25) ≤ x4 then
      k47 x2 (x3 + 1) M
    else
      hr_bd (f_X11_mixed x3 x4 M) (fun v4 M4 =>
      if inB v4 1000 = true then if x2 = 0 then
        if inB x3 1000 = true then if (M4.1 299 x3.toNatClampNeg) ≤ (1 + (M4.1 299 v4.toNatClampNeg)) then
          f_X11_findNeeds_102 a1 k39 k47 (fun x2 x3 x4 M => f_X11_findNeeds_57 a1 k39 k47 f x2 x3 x4 M) x3 x4 (1 + (M4.1 299 v4.toNatClampNeg)) 0 M4
        else
          f_X11_findNeeds_102 a1 k39 k47 (fun x2 x3 x4 M => f_X11_findNeeds_57 a1 k39 k47 f x2 x3 x4 M) x3 x4 (1 + (M4.1 299 v4.toNatClampNeg)) 1 M4
        else none
      else
        f_X11_findNeeds_102 a1 k39 k47 (fun x2 x3 x4 M => f_X11_findNeeds_57 a1 k39 k47 f x2 x3 x4 M) x3 x4 (1 + (M4.1 299 v4.toNatClampNeg)) 1 M4
      else none)
theorem g_X11_findNeeds_57 (a1 : Int32)  (k39 : Int32 → PM → Option (Unit × PM)) (k47 : Int32 → Int32 → PM → Option (Unit × PM)) (hk39 : ∀ (x2 : Int32) (M : PM) (r : Unit × PM), k39 x2 M = some r → hr_G 264 39 [some (.ref 275), none, some (.int x2), none, none, none] [] M (none, r.2)) (hk47 : ∀ (x2 : Int32) (x3 : Int32) (M : PM) (r : Unit × PM), k47 x2 x3 M = some r → hr_G 264 47 [some (.ref 275), none, some (.int x2), some (.int x3), none, none] [] M (none, r.2)) : ∀ (f : Nat) (x2 : Int32) (x3 : Int32) (x4 : Int32) (M : PM) (r : Unit × PM), f_X11_findNeeds_57 a1 k39 k47 f x2 x3 x4 M = some r → hr_G 264 57 [some (.ref 275), none, some (.int x2), some (.int x3), some (.int x4), none] [] M (none, r.2) := by
  intro f
  induction f with
  | zero => intro x2 x3 x4 M r h; cases h
  | succ f ih =>
    intro x2 x3 x4 M r h
    rw [f_X11_findNeeds_57.eq_2] at h
    refine hr_Grun mf_X11_findNeeds lb_X11_findNeeds_57 (P := hr_K 275 = 10 ∧ True) (pc' := if (M.1 275 25) ≤ x4 then 126 else 66) (ls' := [some (.ref 275), none, some (.int x2), some (.int x3), some (.int x4), none]) (st' := []) (M' := M) rfl rfl ⟨K_275, trivial⟩ ?_
    refine hr_Gif h (fun _ h => ?_) (fun _ h => ?_)
    · refine hr_Grun mf_X11_findNeeds lb_X11_findNeeds_126 (P := True) (pc' := 47) (ls' := [some (.ref 275), none, some (.int x2), some (.int (x3 + 1)), some (.int x4), none]) (st' := []) (M' := M) rfl rfl trivial ?_
      refine hr_Gle (ls := [some (.ref 275), none, some (.int x2), some (.int (x3 + 1)), none, none]) (hr_le_s (hr_le_n (hr_le_s (hr_le_s (hr_le_n (hr_le_n hr_le_0)))))) ?_
      exact hk47 x2 (x3 + 1) M _ h
    · refine hr_Grun mf_X11_findNeeds lb_X11_findNeeds_66 (P := hr_K 275 = 10 ∧ True) (pc' := 75) (ls' := [some (.ref 275), none, some (.int x2), some (.int x3), some (.int x4), none]) (st' := [.int x4, .int x3, .ref 275, .ref 299, .int 1]) (M' := M) rfl rfl ⟨K_275, trivial⟩ ?_
      refine hr_Fb h (fun v4 M4 e4 h => ?_)
      refine hr_Gcv mf_X11_findNeeds mf_X11_mixed lb_X11_findNeeds_75 (b := 275) (as := [.int x3, .int x4]) (rest := [.ref 299, .int 1]) (st2 := [.int v4, .ref 299, .int 1]) (v := some (.int v4)) (M1 := M4) rfl rfl rfl rfl rfl rfl K_275 (g_X11_mixed x3 x4 _ _ e4) rfl rfl ?_
      refine hr_Fg h (fun hg5_0 h => ?_)
      refine hr_Grun mf_X11_findNeeds lb_X11_findNeeds_78 (P := (hr_K 299 = 12 ∧ vp_in v4 (hr_N 299)) ∧ True) (pc' := if x2 = 0 then 86 else 97) (ls' := [some (.ref 275), none, some (.int x2), some (.int x3), some (.int x4), some (.int (1 + (M4.1 299 v4.toNatClampNeg)))]) (st' := []) (M' := M4) rfl rfl ⟨⟨K_299, (inB_N N_299 hg5_0)⟩, trivial⟩ ?_
      refine hr_Gif h (fun _ h => ?_) (fun _ h => ?_)
      · refine hr_Fg h (fun hg6_0 h => ?_)
        refine hr_Grun mf_X11_findNeeds lb_X11_findNeeds_86 (P := hr_K 275 = 10 ∧ (hr_K 299 = 12 ∧ vp_in x3 (hr_N 299)) ∧ True) (pc' := if (M4.1 299 x3.toNatClampNeg) ≤ (1 + (M4.1 299 v4.toNatClampNeg)) then 101 else 97) (ls' := [some (.ref 275), none, some (.int x2), some (.int x3), some (.int x4), some (.int (1 + (M4.1 299 v4.toNatClampNeg)))]) (st' := []) (M' := M4) rfl rfl ⟨K_275, ⟨K_299, (inB_N N_299 hg6_0)⟩, trivial⟩ ?_
        refine hr_Gif h (fun _ h => ?_) (fun _ h => ?_)
        · refine hr_Grun mf_X11_findNeeds lb_X11_findNeeds_101 (P := True) (pc' := 102) (ls' := [some (.ref 275), none, some (.int x2), some (.int x3), some (.int x4), some (.int (1 + (M4.1 299 v4.toNatClampNeg)))]) (st' := [.int 0]) (M' := M4) rfl rfl trivial ?_
          refine hr_Gle (ls := [some (.ref 275), none, none, some (.int x3), some (.int x4), some (.int (1 + (M4.1 299 v4.toNatClampNeg)))]) (hr_le_s (hr_le_n (hr_le_n (hr_le_s (hr_le_s (hr_le_s hr_le_0)))))) ?_
          exact g_X11_findNeeds_102 a1 k39 k47 (fun x2 x3 x4 M => f_X11_findNeeds_57 a1 k39 k47 f x2 x3 x4 M) hk39 hk47 (fun x2 x3 x4 M r h => ih x2 x3 x4 M r h) x3 x4 (1 + (M4.1 299 v4.toNatClampNeg)) 0 M4 _ h
        · refine hr_Grun mf_X11_findNeeds lb_X11_findNeeds_97 (P := True) (pc' := 102) (ls' := [some (.ref 275), none, some (.int x2), some (.int x3), some (.int x4), some (.int (1 + (M4.1 299 v4.toNatClampNeg)))]) (st' := [.int 1]) (M' := M4) rfl rfl trivial ?_
          refine hr_Gle (ls := [some (.ref 275), none, none, some (.int x3), some (.int x4), some (.int (1 + (M4.1 299 v4.toNatClampNeg)))]) (hr_le_s (hr_le_n (hr_le_n (hr_le_s (hr_le_s (hr_le_s hr_le_0)))))) ?_
          exact g_X11_findNeeds_102 a1 k39 k47 (fun x2 x3 x4 M => f_X11_findNeeds_57 a1 k39 k47 f x2 x3 x4 M) hk39 hk47 (fun x2 x3 x4 M r h => ih x2 x3 x4 M r h) x3 x4 (1 + (M4.1 299 v4.toNatClampNeg)) 1 M4 _ h
      · refine hr_Grun mf_X11_findNeeds lb_X11_findNeeds_97 (P := True) (pc' := 102) (ls' := [some (.ref 275), none, some (.int x2), some (.int x3), some (.int x4), some (.int (1 + (M4.1 299 v4.toNatClampNeg)))]) (st' := [.int 1]) (M' := M4) rfl rfl trivial ?_
        refine hr_Gle (ls := [some (.ref 275), none, none, some (.int x3), some (.int x4), some (.int (1 + (M4.1 299 v4.toNatClampNeg)))]) (hr_le_s (hr_le_n (hr_le_n (hr_le_s (hr_le_s (hr_le_s hr_le_0)))))) ?_
        exact g_X11_findNeeds_102 a1 k39 k47 (fun x2 x3 x4 M => f_X11_findNeeds_57 a1 k39 k47 f x2 x3 x4 M) hk39 hk47 (fun x2 x3 x4 M r h => ih x2 x3 x4 M r h) x3 x4 (1 + (M4.1 299 v4.toNatClampNeg)) 1 M4 _ h
def f_X11_findNeeds_47 (a1 : Int32) (k39 : Int32 → PM → Option (Unit × PM)) : Nat → Int32 → Int32 → PM → Option (Unit × PM)
  | 0, _, _, _ => none
  | f + 1, x2, x3, M =>
    if 1000 ≤ x3 then
      k39 x2 M
    else
      f_X11_findNeeds_57 a1 k39 (fun x2 x3 M => f_X11_findNeeds_47 a1 k39 f x2 x3 M) FU x2 x3 0 M
theorem g_X11_findNeeds_47 (a1 : Int32)  (k39 : Int32 → PM → Option (Unit × PM)) (hk39 : ∀ (x2 : Int32) (M : PM) (r : Unit × PM), k39 x2 M = some r → hr_G 264 39 [some (.ref 275), none, some (.int x2), none, none, none] [] M (none, r.2)) : ∀ (f : Nat) (x2 : Int32) (x3 : Int32) (M : PM) (r : Unit × PM), f_X11_findNeeds_47 a1 k39 f x2 x3 M = some r → hr_G 264 47 [some (.ref 275), none, some (.int x2), some (.int x3), none, none] [] M (none, r.2) := by
  intro f
  induction f with
  | zero => intro x2 x3 M r h; cases h
  | succ f ih =>
    intro x2 x3 M r h
    rw [f_X11_findNeeds_47.eq_2] at h
    refine hr_Grun mf_X11_findNeeds lb_X11_findNeeds_47 (P := True) (pc' := if 1000 ≤ x3 then 132 else 54) (ls' := [some (.ref 275), none, some (.int x2), some (.int x3), none, none]) (st' := []) (M' := M) rfl rfl trivial ?_
    refine hr_Gif h (fun _ h => ?_) (fun _ h => ?_)
    · refine hr_Grun mf_X11_findNeeds lb_X11_findNeeds_132 (P := True) (pc' := 39) (ls' := [some (.ref 275), none, some (.int x2), some (.int x3), none, none]) (st' := []) (M' := M) rfl rfl trivial ?_
      refine hr_Gle (ls := [some (.ref 275), none, some (.int x2), none, none, none]) (hr_le_s (hr_le_n (hr_le_s (hr_le_n (hr_le_n (hr_le_n hr_le_0)))))) ?_
      exact hk39 x2 M _ h
    · refine hr_Grun mf_X11_findNeeds lb_X11_findNeeds_54 (P := True) (pc' := 57) (ls' := [some (.ref 275), none, some (.int x2), some (.int x3), some (.int 0), none]) (st' := []) (M' := M) rfl rfl trivial ?_
      exact g_X11_findNeeds_57 a1 k39 (fun x2 x3 M => f_X11_findNeeds_47 a1 k39 f x2 x3 M) hk39 (fun x2 x3 M r h => ih x2 x3 M r h) FU x2 x3 0 M _ h
def f_X11_findNeeds_39 (a1 : Int32) : Nat → Int32 → PM → Option (Unit × PM)
  | 0, _, _ => none
  | f + 1, x2, M =>
    if x2 = 0 then
      some ((), M)
    else
      f_X11_findNeeds_47 a1 (fun x2 M => f_X11_findNeeds_39 a1 f x2 M) FU 0 0 M
theorem g_X11_findNeeds_39 (a1 : Int32)  : ∀ (f : Nat) (x2 : Int32) (M : PM) (r : Unit × PM), f_X11_findNeeds_39 a1 f x2 M = some r → hr_G 264 39 [some (.ref 275), none, some (.int x2), none, none, none] [] M (none, r.2) := by
  intro f
  induction f with
  | zero => intro x2 M r h; cases h
  | succ f ih =>
    intro x2 M r h
    rw [f_X11_findNeeds_39.eq_2] at h
    refine hr_Grun mf_X11_findNeeds lb_X11_findNeeds_39 (P := True) (pc' := if x2 = 0 then 135 else 43) (ls' := [some (.ref 275), none, some (.int x2), none, none, none]) (st' := []) (M' := M) rfl rfl trivial ?_
    refine hr_Gif h (fun _ h => ?_) (fun _ h => ?_)
    · cases h
      exact hr_Gret mf_X11_findNeeds lb_X11_findNeeds_135 rfl rfl trivial
    · refine hr_Grun mf_X11_findNeeds lb_X11_findNeeds_43 (P := True) (pc' := 47) (ls' := [some (.ref 275), none, some (.int 0), some (.int 0), none, none]) (st' := []) (M' := M) rfl rfl trivial ?_
      exact g_X11_findNeeds_47 a1 (fun x2 M => f_X11_findNeeds_39 a1 f x2 M) (fun x2 M r h => ih x2 M r h) FU 0 0 M _ h
def f_X11_findNeeds_2 (a1 : Int32) : Nat → Int32 → PM → Option (Unit × PM)
  | 0, _, _ => none
  | f + 1, x2, M =>
    if 1000 ≤ x2 then
      f_X11_findNeeds_39 a1 FU 1 M
    else
      hr_bd (f_X11_isBorne x2 a1 M) (fun v4 M4 =>
      if v4 = 0 then
        if inB x2 1000 = true then 
        f_X11_findNeeds_2 a1 f (x2 + 1) (hr_si M4 299 x2.toNatClampNeg 1000000) else none
      else
        if inB x2 1000 = true then 
        f_X11_findNeeds_2 a1 f (x2 + 1) (hr_si M4 299 x2.toNatClampNeg 0) else none)
theorem g_X11_findNeeds_2 (a1 : Int32)  : ∀ (f : Nat) (x2 : Int32) (M : PM) (r : Unit × PM), f_X11_findNeeds_2 a1 f x2 M = some r → hr_G 264 2 [some (.ref 275), some (.int a1), some (.int x2), none, none, none] [] M (none, r.2) := by
  intro f
  induction f with
  | zero => intro x2 M r h; cases h
  | succ f ih =>
    intro x2 M r h
    rw [f_X11_findNeeds_2.eq_2] at h
    refine hr_Grun mf_X11_findNeeds lb_X11_findNeeds_2 (P := True) (pc' := if 1000 ≤ x2 then 37 else 9) (ls' := [some (.ref 275), some (.int a1), some (.int x2), none, none, none]) (st' := []) (M' := M) rfl rfl trivial ?_
    refine hr_Gif h (fun _ h => ?_) (fun _ h => ?_)
    · refine hr_Grun mf_X11_findNeeds lb_X11_findNeeds_37 (P := True) (pc' := 39) (ls' := [some (.ref 275), some (.int a1), some (.int 1), none, none, none]) (st' := []) (M' := M) rfl rfl trivial ?_
      refine hr_Gle (ls := [some (.ref 275), none, some (.int 1), none, none, none]) (hr_le_s (hr_le_n (hr_le_s (hr_le_n (hr_le_n (hr_le_n hr_le_0)))))) ?_
      exact g_X11_findNeeds_39 a1 FU 1 M _ h
    · refine hr_Grun mf_X11_findNeeds lb_X11_findNeeds_9 (P := hr_K 275 = 10 ∧ True) (pc' := 17) (ls' := [some (.ref 275), some (.int a1), some (.int x2), none, none, none]) (st' := [.int a1, .int x2, .ref 275, .int x2, .ref 299]) (M' := M) rfl rfl ⟨K_275, trivial⟩ ?_
      refine hr_Fb h (fun v4 M4 e4 h => ?_)
      refine hr_Gcv mf_X11_findNeeds mf_X11_isBorne lb_X11_findNeeds_17 (b := 275) (as := [.int x2, .int a1]) (rest := [.int x2, .ref 299]) (st2 := [.int v4, .int x2, .ref 299]) (v := some (.int v4)) (M1 := M4) rfl rfl rfl rfl rfl rfl K_275 (g_X11_isBorne x2 a1 _ _ e4) rfl rfl ?_
      refine hr_Grun mf_X11_findNeeds lb_X11_findNeeds_20 (P := True) (pc' := if v4 = 0 then 27 else 23) (ls' := [some (.ref 275), some (.int a1), some (.int x2), none, none, none]) (st' := [.int x2, .ref 299]) (M' := M4) rfl rfl trivial ?_
      refine hr_Gif h (fun _ h => ?_) (fun _ h => ?_)
      · refine hr_Grun mf_X11_findNeeds lb_X11_findNeeds_27 (P := True) (pc' := 30) (ls' := [some (.ref 275), some (.int a1), some (.int x2), none, none, none]) (st' := [.int 1000000, .int x2, .ref 299]) (M' := M4) rfl rfl trivial ?_
        refine hr_Fg h (fun hg7_0 h => ?_)
        refine hr_Grun mf_X11_findNeeds lb_X11_findNeeds_30 (P := ((hr_K 299 = 12 ∧ 299 < hr_n) ∧ vp_in x2 (hr_N 299)) ∧ True) (pc' := 2) (ls' := [some (.ref 275), some (.int a1), some (.int (x2 + 1)), none, none, none]) (st' := []) (M' := hr_si M4 299 x2.toNatClampNeg 1000000) rfl rfl ⟨⟨⟨K_299, L_299⟩, (inB_N N_299 hg7_0)⟩, trivial⟩ ?_
        exact ih (x2 + 1) (hr_si M4 299 x2.toNatClampNeg 1000000) _ h
      · refine hr_Grun mf_X11_findNeeds lb_X11_findNeeds_23 (P := True) (pc' := 30) (ls' := [some (.ref 275), some (.int a1), some (.int x2), none, none, none]) (st' := [.int 0, .int x2, .ref 299]) (M' := M4) rfl rfl trivial ?_
        refine hr_Fg h (fun hg9_0 h => ?_)
        refine hr_Grun mf_X11_findNeeds lb_X11_findNeeds_30 (P := ((hr_K 299 = 12 ∧ 299 < hr_n) ∧ vp_in x2 (hr_N 299)) ∧ True) (pc' := 2) (ls' := [some (.ref 275), some (.int a1), some (.int (x2 + 1)), none, none, none]) (st' := []) (M' := hr_si M4 299 x2.toNatClampNeg 0) rfl rfl ⟨⟨⟨K_299, L_299⟩, (inB_N N_299 hg9_0)⟩, trivial⟩ ?_
        exact ih (x2 + 1) (hr_si M4 299 x2.toNatClampNeg 0) _ h
def f_X11_findNeeds (a1 : Int32) (M : PM) : Option (Unit × PM) :=
  f_X11_findNeeds_2 a1 FU 0 M
theorem g_X11_findNeeds (a1 : Int32) : ∀ (M : PM) (r : Unit × PM), f_X11_findNeeds a1 M = some r → hr_G 264 0 [some (.ref 275), some (.int a1), none, none, none, none] [] M (none, r.2) := by
  intro M r h
  unfold f_X11_findNeeds at h
  refine hr_Grun mf_X11_findNeeds lb_X11_findNeeds_0 (P := True) (pc' := 2) (ls' := [some (.ref 275), some (.int a1), some (.int 0), none, none, none]) (st' := []) (M' := M) rfl rfl trivial ?_
  exact g_X11_findNeeds_2 a1 FU 0 M _ h
theorem mf_X11_colourOf : hr_mf 265 11 2 (some .int) 2 1 bk_X11_colourOf := ⟨rfl, rfl, rfl, rfl, rfl, rfl⟩
theorem lb_X11_colourOf_0 : bk_X11_colourOf.lookup 0 = some [(.bipush 100, 2), (.aload_n 0, 1), (.iload_n 1, 1), (.iconst 0, 1)] := rfl
theorem lb_X11_colourOf_5 : bk_X11_colourOf.lookup 5 = some [(.invokevirtual 285, 3)] := rfl
theorem lb_X11_colourOf_8 : bk_X11_colourOf.lookup 8 = some [(.imul, 1), (.bipush 10, 2), (.aload_n 0, 1), (.iload_n 1, 1), (.iconst 1, 1)] := rfl
theorem lb_X11_colourOf_14 : bk_X11_colourOf.lookup 14 = some [(.invokevirtual 285, 3)] := rfl
theorem lb_X11_colourOf_17 : bk_X11_colourOf.lookup 17 = some [(.imul, 1), (.iadd, 1), (.aload_n 0, 1), (.iload_n 1, 1), (.iconst 2, 1)] := rfl
theorem lb_X11_colourOf_22 : bk_X11_colourOf.lookup 22 = some [(.invokevirtual 285, 3)] := rfl
theorem lb_X11_colourOf_25 : bk_X11_colourOf.lookup 25 = some [(.iadd, 1)] := rfl
theorem lb_X11_colourOf_26 : bk_X11_colourOf.lookup 26 = some [(.ireturn, 1)] := rfl
def f_X11_colourOf (a1 : Int32) (M : PM) : Option (Int32 × PM) :=
  hr_bd (f_X11_part a1 0 M) (fun v2 M2 =>
  hr_bd (f_X11_part a1 1 M2) (fun v4 M4 =>
  hr_bd (f_X11_part a1 2 M4) (fun v6 M6 =>
  some ((((100 * v2) + (10 * v4)) + v6), M6))))
theorem g_X11_colourOf (a1 : Int32) : ∀ (M : PM) (r : Int32 × PM), f_X11_colourOf a1 M = some r → hr_G 265 0 [some (.ref 275), some (.int a1)] [] M (some (.int r.1), r.2) := by
  intro M r h
  unfold f_X11_colourOf at h
  refine hr_Grun mf_X11_colourOf lb_X11_colourOf_0 (P := True) (pc' := 5) (ls' := [some (.ref 275), some (.int a1)]) (st' := [.int 0, .int a1, .ref 275, .int 100]) (M' := M) rfl rfl trivial ?_
  refine hr_Fb h (fun v2 M2 e2 h => ?_)
  refine hr_Gcv mf_X11_colourOf mf_X11_part lb_X11_colourOf_5 (b := 275) (as := [.int a1, .int 0]) (rest := [.int 100]) (st2 := [.int v2, .int 100]) (v := some (.int v2)) (M1 := M2) rfl rfl rfl rfl rfl rfl K_275 (g_X11_part a1 0 _ _ e2) rfl rfl ?_
  refine hr_Grun mf_X11_colourOf lb_X11_colourOf_8 (P := True) (pc' := 14) (ls' := [some (.ref 275), some (.int a1)]) (st' := [.int 1, .int a1, .ref 275, .int 10, .int (100 * v2)]) (M' := M2) rfl rfl trivial ?_
  refine hr_Fb h (fun v4 M4 e4 h => ?_)
  refine hr_Gcv mf_X11_colourOf mf_X11_part lb_X11_colourOf_14 (b := 275) (as := [.int a1, .int 1]) (rest := [.int 10, .int (100 * v2)]) (st2 := [.int v4, .int 10, .int (100 * v2)]) (v := some (.int v4)) (M1 := M4) rfl rfl rfl rfl rfl rfl K_275 (g_X11_part a1 1 _ _ e4) rfl rfl ?_
  refine hr_Grun mf_X11_colourOf lb_X11_colourOf_17 (P := True) (pc' := 22) (ls' := [some (.ref 275), some (.int a1)]) (st' := [.int 2, .int a1, .ref 275, .int ((100 * v2) + (10 * v4))]) (M' := M4) rfl rfl trivial ?_
  refine hr_Fb h (fun v6 M6 e6 h => ?_)
  refine hr_Gcv mf_X11_colourOf mf_X11_part lb_X11_colourOf_22 (b := 275) (as := [.int a1, .int 2]) (rest := [.int ((100 * v2) + (10 * v4))]) (st2 := [.int v6, .int ((100 * v2) + (10 * v4))]) (v := some (.int v6)) (M1 := M6) rfl rfl rfl rfl rfl rfl K_275 (g_X11_part a1 2 _ _ e6) rfl rfl ?_
  refine hr_Grun mf_X11_colourOf lb_X11_colourOf_25 (P := True) (pc' := 26) (ls' := [some (.ref 275), some (.int a1)]) (st' := [.int (((100 * v2) + (10 * v4)) + v6)]) (M' := M6) rfl rfl trivial ?_
  cases h
  exact hr_Gret mf_X11_colourOf lb_X11_colourOf_26 rfl rfl trivial
theorem mf_X11_isBorneHue : hr_mf 266 11 1 (some .boolean) 4 2 bk_X11_isBorneHue := ⟨rfl, rfl, rfl, rfl, rfl, rfl⟩
theorem lb_X11_isBorneHue_0 : bk_X11_isBorneHue.lookup 0 = some [(.iconst 0, 1), (.istore_n 3, 1)] := rfl
theorem lb_X11_isBorneHue_2 : bk_X11_isBorneHue.lookup 2 = some [(.iload_n 3, 1), (.aload_n 0, 1), (.getfield 299, 3), (.if_icmp .ge 28, 3)] := rfl
theorem lb_X11_isBorneHue_10 : bk_X11_isBorneHue.lookup 10 = some [(.iload_n 2, 1), (.iload_n 3, 1)] := rfl
theorem lb_X11_isBorneHue_12 : bk_X11_isBorneHue.lookup 12 = some [(.invokestatic 104, 3)] := rfl
theorem lb_X11_isBorneHue_15 : bk_X11_isBorneHue.lookup 15 = some [(.ifCond .eq 14, 3)] := rfl
theorem lb_X11_isBorneHue_18 : bk_X11_isBorneHue.lookup 18 = some [(.aload_n 0, 1), (.iload_n 1, 1), (.iload_n 3, 1)] := rfl
theorem lb_X11_isBorneHue_21 : bk_X11_isBorneHue.lookup 21 = some [(.invokevirtual 314, 3)] := rfl
theorem lb_X11_isBorneHue_24 : bk_X11_isBorneHue.lookup 24 = some [(.ifCond .eq 5, 3)] := rfl
theorem lb_X11_isBorneHue_27 : bk_X11_isBorneHue.lookup 27 = some [(.iconst 0, 1)] := rfl
theorem lb_X11_isBorneHue_28 : bk_X11_isBorneHue.lookup 28 = some [(.ireturn, 1)] := rfl
theorem lb_X11_isBorneHue_29 : bk_X11_isBorneHue.lookup 29 = some [(.iinc 3 1, 3), (.goto (-30), 3)] := rfl
theorem lb_X11_isBorneHue_35 : bk_X11_isBorneHue.lookup 35 = some [(.iconst 1, 1)] := rfl
theorem lb_X11_isBorneHue_36 : bk_X11_isBorneHue.lookup 36 = some [(.ireturn, 1)] := rfl
def f_X11_isBorneHue_2 (a1 : Int32) (a2 : Int32) : Nat → Int32 → PM → Option (Int32 × PM)
  | 0, _, _ => none
  | f + 1, x3, M =>
    if (M.1 275 25) ≤ x3 then
      some (1, M)
    else
      hr_bd (f_X11_has a2 x3 M) (fun v4 M4 =>
      if v4 = 0 then
        f_X11_isBorneHue_2 a1 a2 f (x3 + 1) M4
      else
        hr_bd (f_X11_clash a1 x3 M4) (fun v8 M8 =>
        if v8 = 0 then
          f_X11_isBorneHue_2 a1 a2 f (x3 + 1) M8
        else
          some (0, M8)))
theorem g_X11_isBorneHue_2 (a1 : Int32) (a2 : Int32)  : ∀ (f : Nat) (x3 : Int32) (M : PM) (r : Int32 × PM), f_X11_isBorneHue_2 a1 a2 f x3 M = some r → hr_G 266 2 [some (.ref 275), some (.int a1), some (.int a2), some (.int x3)] [] M (some (.int r.1), r.2) := by
  intro f
  induction f with
  | zero => intro x3 M r h; cases h
  | succ f ih =>
    intro x3 M r h
    rw [f_X11_isBorneHue_2.eq_2] at h
    refine hr_Grun mf_X11_isBorneHue lb_X11_isBorneHue_2 (P := hr_K 275 = 10 ∧ True) (pc' := if (M.1 275 25) ≤ x3 then 35 else 10) (ls' := [some (.ref 275), some (.int a1), some (.int a2), some (.int x3)]) (st' := []) (M' := M) rfl rfl ⟨K_275, trivial⟩ ?_
    refine hr_Gif h (fun _ h => ?_) (fun _ h => ?_)
    · refine hr_Grun mf_X11_isBorneHue lb_X11_isBorneHue_35 (P := True) (pc' := 36) (ls' := [some (.ref 275), some (.int a1), some (.int a2), some (.int x3)]) (st' := [.int 1]) (M' := M) rfl rfl trivial ?_
      cases h
      exact hr_Gret mf_X11_isBorneHue lb_X11_isBorneHue_36 rfl rfl (Or.inr rfl)
    · refine hr_Grun mf_X11_isBorneHue lb_X11_isBorneHue_10 (P := True) (pc' := 12) (ls' := [some (.ref 275), some (.int a1), some (.int a2), some (.int x3)]) (st' := [.int x3, .int a2]) (M' := M) rfl rfl trivial ?_
      refine hr_Fb h (fun v4 M4 e4 h => ?_)
      refine hr_Gcs mf_X11_isBorneHue mf_X11_has lb_X11_isBorneHue_12 (as := [.int a2, .int x3]) (rest := []) (st2 := [.int v4]) (v := some (.int v4)) (M1 := M4) rfl rfl rfl rfl rfl rfl (g_X11_has a2 x3 _ _ e4) rfl rfl ?_
      refine hr_Grun mf_X11_isBorneHue lb_X11_isBorneHue_15 (P := True) (pc' := if v4 = 0 then 29 else 18) (ls' := [some (.ref 275), some (.int a1), some (.int a2), some (.int x3)]) (st' := []) (M' := M4) rfl rfl trivial ?_
      refine hr_Gif h (fun _ h => ?_) (fun _ h => ?_)
      · refine hr_Grun mf_X11_isBorneHue lb_X11_isBorneHue_29 (P := True) (pc' := 2) (ls' := [some (.ref 275), some (.int a1), some (.int a2), some (.int (x3 + 1))]) (st' := []) (M' := M4) rfl rfl trivial ?_
        exact ih (x3 + 1) M4 _ h
      · refine hr_Grun mf_X11_isBorneHue lb_X11_isBorneHue_18 (P := True) (pc' := 21) (ls' := [some (.ref 275), some (.int a1), some (.int a2), some (.int x3)]) (st' := [.int x3, .int a1, .ref 275]) (M' := M4) rfl rfl trivial ?_
        refine hr_Fb h (fun v8 M8 e8 h => ?_)
        refine hr_Gcv mf_X11_isBorneHue mf_X11_clash lb_X11_isBorneHue_21 (b := 275) (as := [.int a1, .int x3]) (rest := []) (st2 := [.int v8]) (v := some (.int v8)) (M1 := M8) rfl rfl rfl rfl rfl rfl K_275 (g_X11_clash a1 x3 _ _ e8) rfl rfl ?_
        refine hr_Grun mf_X11_isBorneHue lb_X11_isBorneHue_24 (P := True) (pc' := if v8 = 0 then 29 else 27) (ls' := [some (.ref 275), some (.int a1), some (.int a2), some (.int x3)]) (st' := []) (M' := M8) rfl rfl trivial ?_
        refine hr_Gif h (fun _ h => ?_) (fun _ h => ?_)
        · refine hr_Grun mf_X11_isBorneHue lb_X11_isBorneHue_29 (P := True) (pc' := 2) (ls' := [some (.ref 275), some (.int a1), some (.int a2), some (.int (x3 + 1))]) (st' := []) (M' := M8) rfl rfl trivial ?_
          exact ih (x3 + 1) M8 _ h
        · refine hr_Grun mf_X11_isBorneHue lb_X11_isBorneHue_27 (P := True) (pc' := 28) (ls' := [some (.ref 275), some (.int a1), some (.int a2), some (.int x3)]) (st' := [.int 0]) (M' := M8) rfl rfl trivial ?_
          cases h
          exact hr_Gret mf_X11_isBorneHue lb_X11_isBorneHue_28 rfl rfl (Or.inl rfl)
def f_X11_isBorneHue (a1 : Int32) (a2 : Int32) (M : PM) : Option (Int32 × PM) :=
  f_X11_isBorneHue_2 a1 a2 FU 0 M
theorem g_X11_isBorneHue (a1 : Int32) (a2 : Int32) : ∀ (M : PM) (r : Int32 × PM), f_X11_isBorneHue a1 a2 M = some r → hr_G 266 0 [some (.ref 275), some (.int a1), some (.int a2), none] [] M (some (.int r.1), r.2) := by
  intro M r h
  unfold f_X11_isBorneHue at h
  refine hr_Grun mf_X11_isBorneHue lb_X11_isBorneHue_0 (P := True) (pc' := 2) (ls' := [some (.ref 275), some (.int a1), some (.int a2), some (.int 0)]) (st' := []) (M' := M) rfl rfl trivial ?_
  exact g_X11_isBorneHue_2 a1 a2 FU 0 M _ h
theorem mf_X11_mix : hr_mf 267 11 6 (some .int) 9 4 bk_X11_mix := ⟨rfl, rfl, rfl, rfl, rfl, rfl⟩
theorem lb_X11_mix_0 : bk_X11_mix.lookup 0 = some [(.aload_n 0, 1), (.iconst 0, 1), (.putfield 100, 3), (.iload 4, 2), (.iconst 0, 1), (.iconst 2, 1)] := rfl
theorem lb_X11_mix_9 : bk_X11_mix.lookup 9 = some [(.invokestatic 112, 3)] := rfl
theorem lb_X11_mix_12 : bk_X11_mix.lookup 12 = some [(.ifCond .eq 19, 3)] := rfl
theorem lb_X11_mix_15 : bk_X11_mix.lookup 15 = some [(.aload_n 0, 1), (.iload_n 1, 1)] := rfl
theorem lb_X11_mix_17 : bk_X11_mix.lookup 17 = some [(.invokevirtual 326, 3)] := rfl
theorem lb_X11_mix_20 : bk_X11_mix.lookup 20 = some [(.ifCond .eq 11, 3)] := rfl
theorem lb_X11_mix_23 : bk_X11_mix.lookup 23 = some [(.aload_n 0, 1), (.iload_n 2, 1)] := rfl
theorem lb_X11_mix_25 : bk_X11_mix.lookup 25 = some [(.invokevirtual 329, 3)] := rfl
theorem lb_X11_mix_28 : bk_X11_mix.lookup 28 = some [(.ifCond .ne 6, 3)] := rfl
theorem lb_X11_mix_31 : bk_X11_mix.lookup 31 = some [(.bipush (-2), 2)] := rfl
theorem lb_X11_mix_33 : bk_X11_mix.lookup 33 = some [(.ireturn, 1)] := rfl
theorem lb_X11_mix_34 : bk_X11_mix.lookup 34 = some [(.aload_n 0, 1), (.iload_n 2, 1)] := rfl
theorem lb_X11_mix_36 : bk_X11_mix.lookup 36 = some [(.invokevirtual 472, 3)] := rfl
theorem lb_X11_mix_39 : bk_X11_mix.lookup 39 = some [(.istore 5, 2), (.aload_n 0, 1), (.iload_n 2, 1), (.iload_n 3, 1)] := rfl
theorem lb_X11_mix_44 : bk_X11_mix.lookup 44 = some [(.invokevirtual 475, 3)] := rfl
theorem lb_X11_mix_47 : bk_X11_mix.lookup 47 = some [(.ifCond .eq 25, 3)] := rfl
theorem lb_X11_mix_50 : bk_X11_mix.lookup 50 = some [(.iload 4, 2), (.ifCond .ne 7, 3)] := rfl
theorem lb_X11_mix_55 : bk_X11_mix.lookup 55 = some [(.iconst 0, 1), (.goto 15, 3)] := rfl
theorem lb_X11_mix_59 : bk_X11_mix.lookup 59 = some [(.iload 4, 2), (.iconst 1, 1), (.if_icmp .ne 7, 3)] := rfl
theorem lb_X11_mix_65 : bk_X11_mix.lookup 65 = some [(.iconst (-1), 1), (.goto 5, 3)] := rfl
theorem lb_X11_mix_69 : bk_X11_mix.lookup 69 = some [(.iload 5, 2)] := rfl
theorem lb_X11_mix_71 : bk_X11_mix.lookup 71 = some [(.ireturn, 1)] := rfl
theorem lb_X11_mix_72 : bk_X11_mix.lookup 72 = some [(.aload_n 0, 1), (.iload_n 3, 1)] := rfl
theorem lb_X11_mix_74 : bk_X11_mix.lookup 74 = some [(.invokevirtual 478, 3)] := rfl
theorem lb_X11_mix_77 : bk_X11_mix.lookup 77 = some [(.iconst 0, 1), (.istore 6, 2), (.iconst 1, 1), (.istore 7, 2)] := rfl
theorem lb_X11_mix_83 : bk_X11_mix.lookup 83 = some [(.iload 7, 2), (.aload_n 0, 1), (.getfield 299, 3), (.if_icmp .ge 47, 3)] := rfl
theorem lb_X11_mix_92 : bk_X11_mix.lookup 92 = some [(.aload_n 0, 1), (.getfield 81, 3), (.aload_n 0, 1), (.iload 5, 2), (.iload 7, 2)] := rfl
theorem lb_X11_mix_101 : bk_X11_mix.lookup 101 = some [(.invokevirtual 469, 3)] := rfl
theorem lb_X11_mix_104 : bk_X11_mix.lookup 104 = some [(.iaload, 1), (.aload_n 0, 1), (.getfield 81, 3), (.aload_n 0, 1), (.iload 5, 2), (.iload 6, 2)] := rfl
theorem lb_X11_mix_114 : bk_X11_mix.lookup 114 = some [(.invokevirtual 469, 3)] := rfl
theorem lb_X11_mix_117 : bk_X11_mix.lookup 117 = some [(.iaload, 1), (.if_icmp .ge 8, 3)] := rfl
theorem lb_X11_mix_121 : bk_X11_mix.lookup 121 = some [(.iload 7, 2), (.goto 5, 3)] := rfl
theorem lb_X11_mix_126 : bk_X11_mix.lookup 126 = some [(.iload 6, 2)] := rfl
theorem lb_X11_mix_128 : bk_X11_mix.lookup 128 = some [(.istore 6, 2), (.iinc 7 1, 3), (.goto (-50), 3)] := rfl
theorem lb_X11_mix_136 : bk_X11_mix.lookup 136 = some [(.aload_n 0, 1), (.iload 5, 2), (.iload 6, 2)] := rfl
theorem lb_X11_mix_141 : bk_X11_mix.lookup 141 = some [(.invokevirtual 469, 3)] := rfl
theorem lb_X11_mix_144 : bk_X11_mix.lookup 144 = some [(.istore 5, 2), (.iconst 1, 1), (.aload_n 0, 1), (.getfield 81, 3), (.iload 5, 2), (.iaload, 1), (.iadd, 1), (.istore 7, 2), (.iload 7, 2), (.bipush 99, 2), (.if_icmp .le 6, 3)] := rfl
theorem lb_X11_mix_164 : bk_X11_mix.lookup 164 = some [(.bipush (-2), 2)] := rfl
theorem lb_X11_mix_166 : bk_X11_mix.lookup 166 = some [(.ireturn, 1)] := rfl
theorem lb_X11_mix_167 : bk_X11_mix.lookup 167 = some [(.aload_n 0, 1), (.getfield 81, 3), (.iload 5, 2), (.iaload, 1), (.ifCond .le 50, 3)] := rfl
theorem lb_X11_mix_177 : bk_X11_mix.lookup 177 = some [(.iconst 0, 1), (.istore 8, 2)] := rfl
theorem lb_X11_mix_180 : bk_X11_mix.lookup 180 = some [(.aload_n 0, 1), (.getfield 81, 3), (.aload_n 0, 1), (.iload 5, 2), (.iload 8, 2)] := rfl
theorem lb_X11_mix_189 : bk_X11_mix.lookup 189 = some [(.invokevirtual 469, 3)] := rfl
theorem lb_X11_mix_192 : bk_X11_mix.lookup 192 = some [(.iaload, 1), (.aload_n 0, 1), (.getfield 81, 3), (.iload 5, 2), (.iaload, 1), (.iconst 1, 1), (.isub, 1), (.if_icmp .eq 9, 3)] := rfl
theorem lb_X11_mix_205 : bk_X11_mix.lookup 205 = some [(.iinc 8 1, 3), (.goto (-28), 3)] := rfl
theorem lb_X11_mix_211 : bk_X11_mix.lookup 211 = some [(.aload_n 0, 1), (.iload 5, 2), (.iload 8, 2)] := rfl
theorem lb_X11_mix_216 : bk_X11_mix.lookup 216 = some [(.invokevirtual 469, 3)] := rfl
theorem lb_X11_mix_219 : bk_X11_mix.lookup 219 = some [(.istore 5, 2), (.goto (-54), 3)] := rfl
theorem lb_X11_mix_224 : bk_X11_mix.lookup 224 = some [(.iload 4, 2), (.ifCond .ne 8, 3)] := rfl
theorem lb_X11_mix_229 : bk_X11_mix.lookup 229 = some [(.iload 7, 2), (.goto 16, 3)] := rfl
theorem lb_X11_mix_234 : bk_X11_mix.lookup 234 = some [(.iload 4, 2), (.iconst 1, 1), (.if_icmp .ne 8, 3)] := rfl
theorem lb_X11_mix_240 : bk_X11_mix.lookup 240 = some [(.iload 6, 2), (.goto 5, 3)] := rfl
theorem lb_X11_mix_245 : bk_X11_mix.lookup 245 = some [(.iload 5, 2)] := rfl
theorem lb_X11_mix_247 : bk_X11_mix.lookup 247 = some [(.ireturn, 1)] := rfl
def f_X11_mix_180 (a1 : Int32) (a2 : Int32) (a3 : Int32) (a4 : Int32) (k167 : Int32 → Int32 → Int32 → PM → Option (Int32 × PM)) : Nat → Int32 → Int32 → Int32 → Int32 → PM → Option (Int32 × PM)
  | 0, _, _, _, _, _ => none
  | f + 1, x5, x6, x7, x8, M =>
    hr_bd (f_X11_mixed x5 x8 M) (fun v2 M2 =>
    if inB v2 1000 = true then if inB x5 1000 = true then if (M2.1 299 v2.toNatClampNeg) = ((M2.1 299 x5.toNatClampNeg) - 1) then
      hr_bd (f_X11_mixed x5 x8 M2) (fun v5 M5 =>
      k167 v5 x6 x7 M5)
    else
      f_X11_mix_180 a1 a2 a3 a4 k167 f x5 x6 x7 (x8 + 1) M2
    else none else none)
theorem g_X11_mix_180 (a1 : Int32) (a2 : Int32) (a3 : Int32) (a4 : Int32)  (k167 : Int32 → Int32 → Int32 → PM → Option (Int32 × PM)) (hk167 : ∀ (x5 : Int32) (x6 : Int32) (x7 : Int32) (M : PM) (r : Int32 × PM), k167 x5 x6 x7 M = some r → hr_G 267 167 [some (.ref 275), none, none, none, some (.int a4), some (.int x5), some (.int x6), some (.int x7), none] [] M (some (.int r.1), r.2)) : ∀ (f : Nat) (x5 : Int32) (x6 : Int32) (x7 : Int32) (x8 : Int32) (M : PM) (r : Int32 × PM), f_X11_mix_180 a1 a2 a3 a4 k167 f x5 x6 x7 x8 M = some r → hr_G 267 180 [some (.ref 275), none, none, none, some (.int a4), some (.int x5), some (.int x6), some (.int x7), some (.int x8)] [] M (some (.int r.1), r.2) := by
  intro f
  induction f with
  | zero => intro x5 x6 x7 x8 M r h; cases h
  | succ f ih =>
    intro x5 x6 x7 x8 M r h
    rw [f_X11_mix_180.eq_2] at h
    refine hr_Grun mf_X11_mix lb_X11_mix_180 (P := hr_K 275 = 10 ∧ True) (pc' := 189) (ls' := [some (.ref 275), none, none, none, some (.int a4), some (.int x5), some (.int x6), some (.int x7), some (.int x8)]) (st' := [.int x8, .int x5, .ref 275, .ref 299]) (M' := M) rfl rfl ⟨K_275, trivial⟩ ?_
    refine hr_Fb h (fun v2 M2 e2 h => ?_)
    refine hr_Gcv mf_X11_mix mf_X11_mixed lb_X11_mix_189 (b := 275) (as := [.int x5, .int x8]) (rest := [.ref 299]) (st2 := [.int v2, .ref 299]) (v := some (.int v2)) (M1 := M2) rfl rfl rfl rfl rfl rfl K_275 (g_X11_mixed x5 x8 _ _ e2) rfl rfl ?_
    refine hr_Fg h (fun hg3_0 h => ?_)
    refine hr_Fg h (fun hg3_1 h => ?_)
    refine hr_Grun mf_X11_mix lb_X11_mix_192 (P := (hr_K 299 = 12 ∧ vp_in v2 (hr_N 299)) ∧ hr_K 275 = 10 ∧ (hr_K 299 = 12 ∧ vp_in x5 (hr_N 299)) ∧ True) (pc' := if (M2.1 299 v2.toNatClampNeg) = ((M2.1 299 x5.toNatClampNeg) - 1) then 211 else 205) (ls' := [some (.ref 275), none, none, none, some (.int a4), some (.int x5), some (.int x6), some (.int x7), some (.int x8)]) (st' := []) (M' := M2) rfl rfl ⟨⟨K_299, (inB_N N_299 hg3_0)⟩, K_275, ⟨K_299, (inB_N N_299 hg3_1)⟩, trivial⟩ ?_
    refine hr_Gif h (fun _ h => ?_) (fun _ h => ?_)
    · refine hr_Grun mf_X11_mix lb_X11_mix_211 (P := True) (pc' := 216) (ls' := [some (.ref 275), none, none, none, some (.int a4), some (.int x5), some (.int x6), some (.int x7), some (.int x8)]) (st' := [.int x8, .int x5, .ref 275]) (M' := M2) rfl rfl trivial ?_
      refine hr_Fb h (fun v5 M5 e5 h => ?_)
      refine hr_Gcv mf_X11_mix mf_X11_mixed lb_X11_mix_216 (b := 275) (as := [.int x5, .int x8]) (rest := []) (st2 := [.int v5]) (v := some (.int v5)) (M1 := M5) rfl rfl rfl rfl rfl rfl K_275 (g_X11_mixed x5 x8 _ _ e5) rfl rfl ?_
      refine hr_Grun mf_X11_mix lb_X11_mix_219 (P := True) (pc' := 167) (ls' := [some (.ref 275), none, none, none, some (.int a4), some (.int v5), some (.int x6), some (.int x7), some (.int x8)]) (st' := []) (M' := M5) rfl rfl trivial ?_
      refine hr_Gle (ls := [some (.ref 275), none, none, none, some (.int a4), some (.int v5), some (.int x6), some (.int x7), none]) (hr_le_s (hr_le_n (hr_le_n (hr_le_n (hr_le_s (hr_le_s (hr_le_s (hr_le_s (hr_le_n hr_le_0))))))))) ?_
      exact hk167 v5 x6 x7 M5 _ h
    · refine hr_Grun mf_X11_mix lb_X11_mix_205 (P := True) (pc' := 180) (ls' := [some (.ref 275), none, none, none, some (.int a4), some (.int x5), some (.int x6), some (.int x7), some (.int (x8 + 1))]) (st' := []) (M' := M2) rfl rfl trivial ?_
      exact ih x5 x6 x7 (x8 + 1) M2 _ h
def f_X11_mix_167 (a1 : Int32) (a2 : Int32) (a3 : Int32) (a4 : Int32) : Nat → Int32 → Int32 → Int32 → PM → Option (Int32 × PM)
  | 0, _, _, _, _ => none
  | f + 1, x5, x6, x7, M =>
    if inB x5 1000 = true then if (M.1 299 x5.toNatClampNeg) ≤ 0 then
      if a4 = 0 then
        some (x7, M)
      else
        if a4 = 1 then
          some (x6, M)
        else
          some (x5, M)
    else
      f_X11_mix_180 a1 a2 a3 a4 (fun x5 x6 x7 M => f_X11_mix_167 a1 a2 a3 a4 f x5 x6 x7 M) FU x5 x6 x7 0 M
    else none
theorem g_X11_mix_167 (a1 : Int32) (a2 : Int32) (a3 : Int32) (a4 : Int32)  : ∀ (f : Nat) (x5 : Int32) (x6 : Int32) (x7 : Int32) (M : PM) (r : Int32 × PM), f_X11_mix_167 a1 a2 a3 a4 f x5 x6 x7 M = some r → hr_G 267 167 [some (.ref 275), none, none, none, some (.int a4), some (.int x5), some (.int x6), some (.int x7), none] [] M (some (.int r.1), r.2) := by
  intro f
  induction f with
  | zero => intro x5 x6 x7 M r h; cases h
  | succ f ih =>
    intro x5 x6 x7 M r h
    rw [f_X11_mix_167.eq_2] at h
    refine hr_Fg h (fun hg1_0 h => ?_)
    refine hr_Grun mf_X11_mix lb_X11_mix_167 (P := hr_K 275 = 10 ∧ (hr_K 299 = 12 ∧ vp_in x5 (hr_N 299)) ∧ True) (pc' := if (M.1 299 x5.toNatClampNeg) ≤ 0 then 224 else 177) (ls' := [some (.ref 275), none, none, none, some (.int a4), some (.int x5), some (.int x6), some (.int x7), none]) (st' := []) (M' := M) rfl rfl ⟨K_275, ⟨K_299, (inB_N N_299 hg1_0)⟩, trivial⟩ ?_
    refine hr_Gif h (fun _ h => ?_) (fun _ h => ?_)
    · refine hr_Grun mf_X11_mix lb_X11_mix_224 (P := True) (pc' := if a4 = 0 then 229 else 234) (ls' := [some (.ref 275), none, none, none, some (.int a4), some (.int x5), some (.int x6), some (.int x7), none]) (st' := []) (M' := M) rfl rfl trivial ?_
      refine hr_Gif h (fun _ h => ?_) (fun _ h => ?_)
      · refine hr_Grun mf_X11_mix lb_X11_mix_229 (P := True) (pc' := 247) (ls' := [some (.ref 275), none, none, none, some (.int a4), some (.int x5), some (.int x6), some (.int x7), none]) (st' := [.int x7]) (M' := M) rfl rfl trivial ?_
        cases h
        exact hr_Gret mf_X11_mix lb_X11_mix_247 rfl rfl trivial
      · refine hr_Grun mf_X11_mix lb_X11_mix_234 (P := True) (pc' := if a4 = 1 then 240 else 245) (ls' := [some (.ref 275), none, none, none, some (.int a4), some (.int x5), some (.int x6), some (.int x7), none]) (st' := []) (M' := M) rfl rfl trivial ?_
        refine hr_Gif h (fun _ h => ?_) (fun _ h => ?_)
        · refine hr_Grun mf_X11_mix lb_X11_mix_240 (P := True) (pc' := 247) (ls' := [some (.ref 275), none, none, none, some (.int a4), some (.int x5), some (.int x6), some (.int x7), none]) (st' := [.int x6]) (M' := M) rfl rfl trivial ?_
          cases h
          exact hr_Gret mf_X11_mix lb_X11_mix_247 rfl rfl trivial
        · refine hr_Grun mf_X11_mix lb_X11_mix_245 (P := True) (pc' := 247) (ls' := [some (.ref 275), none, none, none, some (.int a4), some (.int x5), some (.int x6), some (.int x7), none]) (st' := [.int x5]) (M' := M) rfl rfl trivial ?_
          cases h
          exact hr_Gret mf_X11_mix lb_X11_mix_247 rfl rfl trivial
    · refine hr_Grun mf_X11_mix lb_X11_mix_177 (P := True) (pc' := 180) (ls' := [some (.ref 275), none, none, none, some (.int a4), some (.int x5), some (.int x6), some (.int x7), some (.int 0)]) (st' := []) (M' := M) rfl rfl trivial ?_
      exact g_X11_mix_180 a1 a2 a3 a4 (fun x5 x6 x7 M => f_X11_mix_167 a1 a2 a3 a4 f x5 x6 x7 M) (fun x5 x6 x7 M r h => ih x5 x6 x7 M r h) FU x5 x6 x7 0 M _ h
def f_X11_mix_83 (a1 : Int32) (a2 : Int32) (a3 : Int32) (a4 : Int32) : Nat → Int32 → Int32 → Int32 → PM → Option (Int32 × PM)
  | 0, _, _, _, _ => none
  | f + 1, x5, x6, x7, M =>
    if (M.1 275 25) ≤ x7 then
      hr_bd (f_X11_mixed x5 x6 M) (fun v3 M3 =>
      if inB v3 1000 = true then if (1 + (M3.1 299 v3.toNatClampNeg)) ≤ 99 then
        f_X11_mix_167 a1 a2 a3 a4 FU v3 x6 (1 + (M3.1 299 v3.toNatClampNeg)) M3
      else
        some ((-2), M3)
      else none)
    else
      hr_bd (f_X11_mixed x5 x7 M) (fun v7 M7 =>
      if inB v7 1000 = true then 
      hr_bd (f_X11_mixed x5 x6 M7) (fun v9 M9 =>
      if inB v9 1000 = true then if (M9.1 299 v9.toNatClampNeg) ≤ (M7.1 299 v7.toNatClampNeg) then
        f_X11_mix_83 a1 a2 a3 a4 f x5 x6 (x7 + 1) M9
      else
        f_X11_mix_83 a1 a2 a3 a4 f x5 x7 (x7 + 1) M9
      else none) else none)
theorem g_X11_mix_83 (a1 : Int32) (a2 : Int32) (a3 : Int32) (a4 : Int32)  : ∀ (f : Nat) (x5 : Int32) (x6 : Int32) (x7 : Int32) (M : PM) (r : Int32 × PM), f_X11_mix_83 a1 a2 a3 a4 f x5 x6 x7 M = some r → hr_G 267 83 [some (.ref 275), none, none, none, some (.int a4), some (.int x5), some (.int x6), some (.int x7), none] [] M (some (.int r.1), r.2) := by
  intro f
  induction f with
  | zero => intro x5 x6 x7 M r h; cases h
  | succ f ih =>
    intro x5 x6 x7 M r h
    rw [f_X11_mix_83.eq_2] at h
    refine hr_Grun mf_X11_mix lb_X11_mix_83 (P := hr_K 275 = 10 ∧ True) (pc' := if (M.1 275 25) ≤ x7 then 136 else 92) (ls' := [some (.ref 275), none, none, none, some (.int a4), some (.int x5), some (.int x6), some (.int x7), none]) (st' := []) (M' := M) rfl rfl ⟨K_275, trivial⟩ ?_
    refine hr_Gif h (fun _ h => ?_) (fun _ h => ?_)
    · refine hr_Grun mf_X11_mix lb_X11_mix_136 (P := True) (pc' := 141) (ls' := [some (.ref 275), none, none, none, some (.int a4), some (.int x5), some (.int x6), some (.int x7), none]) (st' := [.int x6, .int x5, .ref 275]) (M' := M) rfl rfl trivial ?_
      refine hr_Fb h (fun v3 M3 e3 h => ?_)
      refine hr_Gcv mf_X11_mix mf_X11_mixed lb_X11_mix_141 (b := 275) (as := [.int x5, .int x6]) (rest := []) (st2 := [.int v3]) (v := some (.int v3)) (M1 := M3) rfl rfl rfl rfl rfl rfl K_275 (g_X11_mixed x5 x6 _ _ e3) rfl rfl ?_
      refine hr_Fg h (fun hg4_0 h => ?_)
      refine hr_Grun mf_X11_mix lb_X11_mix_144 (P := hr_K 275 = 10 ∧ (hr_K 299 = 12 ∧ vp_in v3 (hr_N 299)) ∧ True) (pc' := if (1 + (M3.1 299 v3.toNatClampNeg)) ≤ 99 then 167 else 164) (ls' := [some (.ref 275), none, none, none, some (.int a4), some (.int v3), some (.int x6), some (.int (1 + (M3.1 299 v3.toNatClampNeg))), none]) (st' := []) (M' := M3) rfl rfl ⟨K_275, ⟨K_299, (inB_N N_299 hg4_0)⟩, trivial⟩ ?_
      refine hr_Gif h (fun _ h => ?_) (fun _ h => ?_)
      · exact g_X11_mix_167 a1 a2 a3 a4 FU v3 x6 (1 + (M3.1 299 v3.toNatClampNeg)) M3 _ h
      · refine hr_Grun mf_X11_mix lb_X11_mix_164 (P := True) (pc' := 166) (ls' := [some (.ref 275), none, none, none, some (.int a4), some (.int v3), some (.int x6), some (.int (1 + (M3.1 299 v3.toNatClampNeg))), none]) (st' := [.int (-2)]) (M' := M3) rfl rfl trivial ?_
        cases h
        exact hr_Gret mf_X11_mix lb_X11_mix_166 rfl rfl trivial
    · refine hr_Grun mf_X11_mix lb_X11_mix_92 (P := hr_K 275 = 10 ∧ True) (pc' := 101) (ls' := [some (.ref 275), none, none, none, some (.int a4), some (.int x5), some (.int x6), some (.int x7), none]) (st' := [.int x7, .int x5, .ref 275, .ref 299]) (M' := M) rfl rfl ⟨K_275, trivial⟩ ?_
      refine hr_Fb h (fun v7 M7 e7 h => ?_)
      refine hr_Gcv mf_X11_mix mf_X11_mixed lb_X11_mix_101 (b := 275) (as := [.int x5, .int x7]) (rest := [.ref 299]) (st2 := [.int v7, .ref 299]) (v := some (.int v7)) (M1 := M7) rfl rfl rfl rfl rfl rfl K_275 (g_X11_mixed x5 x7 _ _ e7) rfl rfl ?_
      refine hr_Fg h (fun hg8_0 h => ?_)
      refine hr_Grun mf_X11_mix lb_X11_mix_104 (P := (hr_K 299 = 12 ∧ vp_in v7 (hr_N 299)) ∧ hr_K 275 = 10 ∧ True) (pc' := 114) (ls' := [some (.ref 275), none, none, none, some (.int a4), some (.int x5), some (.int x6), some (.int x7), none]) (st' := [.int x6, .int x5, .ref 275, .ref 299, .int (M7.1 299 v7.toNatClampNeg)]) (M' := M7) rfl rfl ⟨⟨K_299, (inB_N N_299 hg8_0)⟩, K_275, trivial⟩ ?_
      refine hr_Fb h (fun v9 M9 e9 h => ?_)
      refine hr_Gcv mf_X11_mix mf_X11_mixed lb_X11_mix_114 (b := 275) (as := [.int x5, .int x6]) (rest := [.ref 299, .int (M7.1 299 v7.toNatClampNeg)]) (st2 := [.int v9, .ref 299, .int (M7.1 299 v7.toNatClampNeg)]) (v := some (.int v9)) (M1 := M9) rfl rfl rfl rfl rfl rfl K_275 (g_X11_mixed x5 x6 _ _ e9) rfl rfl ?_
      refine hr_Fg h (fun hg10_0 h => ?_)
      refine hr_Grun mf_X11_mix lb_X11_mix_117 (P := (hr_K 299 = 12 ∧ vp_in v9 (hr_N 299)) ∧ True) (pc' := if (M9.1 299 v9.toNatClampNeg) ≤ (M7.1 299 v7.toNatClampNeg) then 126 else 121) (ls' := [some (.ref 275), none, none, none, some (.int a4), some (.int x5), some (.int x6), some (.int x7), none]) (st' := []) (M' := M9) rfl rfl ⟨⟨K_299, (inB_N N_299 hg10_0)⟩, trivial⟩ ?_
      refine hr_Gif h (fun _ h => ?_) (fun _ h => ?_)
      · refine hr_Grun mf_X11_mix lb_X11_mix_126 (P := True) (pc' := 128) (ls' := [some (.ref 275), none, none, none, some (.int a4), some (.int x5), some (.int x6), some (.int x7), none]) (st' := [.int x6]) (M' := M9) rfl rfl trivial ?_
        refine hr_Grun mf_X11_mix lb_X11_mix_128 (P := True) (pc' := 83) (ls' := [some (.ref 275), none, none, none, some (.int a4), some (.int x5), some (.int x6), some (.int (x7 + 1)), none]) (st' := []) (M' := M9) rfl rfl trivial ?_
        exact ih x5 x6 (x7 + 1) M9 _ h
      · refine hr_Grun mf_X11_mix lb_X11_mix_121 (P := True) (pc' := 128) (ls' := [some (.ref 275), none, none, none, some (.int a4), some (.int x5), some (.int x6), some (.int x7), none]) (st' := [.int x7]) (M' := M9) rfl rfl trivial ?_
        refine hr_Grun mf_X11_mix lb_X11_mix_128 (P := True) (pc' := 83) (ls' := [some (.ref 275), none, none, none, some (.int a4), some (.int x5), some (.int x7), some (.int (x7 + 1)), none]) (st' := []) (M' := M9) rfl rfl trivial ?_
        exact ih x5 x7 (x7 + 1) M9 _ h
def f_X11_mix (a1 : Int32) (a2 : Int32) (a3 : Int32) (a4 : Int32) (M : PM) : Option (Int32 × PM) :=
  hr_bd (f_X11_in a4 0 2 (hr_si M 275 0 0)) (fun v2 M2 =>
  if v2 = 0 then
    some ((-2), M2)
  else
    hr_bd (f_X11_hand a1 M2) (fun v6 M6 =>
    if v6 = 0 then
      some ((-2), M6)
    else
      hr_bd (f_X11_isHue a2 M6) (fun v10 M10 =>
      if v10 = 0 then
        some ((-2), M10)
      else
        hr_bd (f_X11_colourOf a2 M10) (fun v14 M14 =>
        hr_bd (f_X11_isBorneHue a2 a3 M14) (fun v16 M16 =>
        if v16 = 0 then
          hr_bd (f_X11_findNeeds a3 M16) (fun v19 M19 =>
          f_X11_mix_83 a1 a2 a3 a4 FU v14 0 1 M19)
        else
          if a4 = 0 then
            some (0, M16)
          else
            if a4 = 1 then
              some ((-1), M16)
            else
              some (v14, M16))))))
theorem g_X11_mix (a1 : Int32) (a2 : Int32) (a3 : Int32) (a4 : Int32) : ∀ (M : PM) (r : Int32 × PM), f_X11_mix a1 a2 a3 a4 M = some r → hr_G 267 0 [some (.ref 275), some (.int a1), some (.int a2), some (.int a3), some (.int a4), none, none, none, none] [] M (some (.int r.1), r.2) := by
  intro M r h
  unfold f_X11_mix at h
  refine hr_Grun mf_X11_mix lb_X11_mix_0 (P := (hr_K 275 = 10 ∧ 275 < hr_n) ∧ True) (pc' := 9) (ls' := [some (.ref 275), some (.int a1), some (.int a2), some (.int a3), some (.int a4), none, none, none, none]) (st' := [.int 2, .int 0, .int a4]) (M' := hr_si M 275 0 0) rfl rfl ⟨⟨K_275, L_275⟩, trivial⟩ ?_
  refine hr_Fb h (fun v2 M2 e2 h => ?_)
  refine hr_Gcs mf_X11_mix mf_X11_in lb_X11_mix_9 (as := [.int a4, .int 0, .int 2]) (rest := []) (st2 := [.int v2]) (v := some (.int v2)) (M1 := M2) rfl rfl rfl rfl rfl rfl (g_X11_in a4 0 2 _ _ e2) rfl rfl ?_
  refine hr_Grun mf_X11_mix lb_X11_mix_12 (P := True) (pc' := if v2 = 0 then 31 else 15) (ls' := [some (.ref 275), some (.int a1), some (.int a2), some (.int a3), some (.int a4), none, none, none, none]) (st' := []) (M' := M2) rfl rfl trivial ?_
  refine hr_Gif h (fun _ h => ?_) (fun _ h => ?_)
  · refine hr_Grun mf_X11_mix lb_X11_mix_31 (P := True) (pc' := 33) (ls' := [some (.ref 275), some (.int a1), some (.int a2), some (.int a3), some (.int a4), none, none, none, none]) (st' := [.int (-2)]) (M' := M2) rfl rfl trivial ?_
    cases h
    exact hr_Gret mf_X11_mix lb_X11_mix_33 rfl rfl trivial
  · refine hr_Grun mf_X11_mix lb_X11_mix_15 (P := True) (pc' := 17) (ls' := [some (.ref 275), some (.int a1), some (.int a2), some (.int a3), some (.int a4), none, none, none, none]) (st' := [.int a1, .ref 275]) (M' := M2) rfl rfl trivial ?_
    refine hr_Fb h (fun v6 M6 e6 h => ?_)
    refine hr_Gcv mf_X11_mix mf_X11_hand lb_X11_mix_17 (b := 275) (as := [.int a1]) (rest := []) (st2 := [.int v6]) (v := some (.int v6)) (M1 := M6) rfl rfl rfl rfl rfl rfl K_275 (g_X11_hand a1 _ _ e6) rfl rfl ?_
    refine hr_Grun mf_X11_mix lb_X11_mix_20 (P := True) (pc' := if v6 = 0 then 31 else 23) (ls' := [some (.ref 275), some (.int a1), some (.int a2), some (.int a3), some (.int a4), none, none, none, none]) (st' := []) (M' := M6) rfl rfl trivial ?_
    refine hr_Gif h (fun _ h => ?_) (fun _ h => ?_)
    · refine hr_Grun mf_X11_mix lb_X11_mix_31 (P := True) (pc' := 33) (ls' := [some (.ref 275), some (.int a1), some (.int a2), some (.int a3), some (.int a4), none, none, none, none]) (st' := [.int (-2)]) (M' := M6) rfl rfl trivial ?_
      cases h
      exact hr_Gret mf_X11_mix lb_X11_mix_33 rfl rfl trivial
    · refine hr_Grun mf_X11_mix lb_X11_mix_23 (P := True) (pc' := 25) (ls' := [some (.ref 275), some (.int a1), some (.int a2), some (.int a3), some (.int a4), none, none, none, none]) (st' := [.int a2, .ref 275]) (M' := M6) rfl rfl trivial ?_
      refine hr_Fb h (fun v10 M10 e10 h => ?_)
      refine hr_Gcv mf_X11_mix mf_X11_isHue lb_X11_mix_25 (b := 275) (as := [.int a2]) (rest := []) (st2 := [.int v10]) (v := some (.int v10)) (M1 := M10) rfl rfl rfl rfl rfl rfl K_275 (g_X11_isHue a2 _ _ e10) rfl rfl ?_
      refine hr_Grun mf_X11_mix lb_X11_mix_28 (P := True) (pc' := if v10 = 0 then 31 else 34) (ls' := [some (.ref 275), some (.int a1), some (.int a2), some (.int a3), some (.int a4), none, none, none, none]) (st' := []) (M' := M10) rfl rfl trivial ?_
      refine hr_Gif h (fun _ h => ?_) (fun _ h => ?_)
      · refine hr_Grun mf_X11_mix lb_X11_mix_31 (P := True) (pc' := 33) (ls' := [some (.ref 275), some (.int a1), some (.int a2), some (.int a3), some (.int a4), none, none, none, none]) (st' := [.int (-2)]) (M' := M10) rfl rfl trivial ?_
        cases h
        exact hr_Gret mf_X11_mix lb_X11_mix_33 rfl rfl trivial
      · refine hr_Grun mf_X11_mix lb_X11_mix_34 (P := True) (pc' := 36) (ls' := [some (.ref 275), some (.int a1), some (.int a2), some (.int a3), some (.int a4), none, none, none, none]) (st' := [.int a2, .ref 275]) (M' := M10) rfl rfl trivial ?_
        refine hr_Fb h (fun v14 M14 e14 h => ?_)
        refine hr_Gcv mf_X11_mix mf_X11_colourOf lb_X11_mix_36 (b := 275) (as := [.int a2]) (rest := []) (st2 := [.int v14]) (v := some (.int v14)) (M1 := M14) rfl rfl rfl rfl rfl rfl K_275 (g_X11_colourOf a2 _ _ e14) rfl rfl ?_
        refine hr_Grun mf_X11_mix lb_X11_mix_39 (P := True) (pc' := 44) (ls' := [some (.ref 275), some (.int a1), some (.int a2), some (.int a3), some (.int a4), some (.int v14), none, none, none]) (st' := [.int a3, .int a2, .ref 275]) (M' := M14) rfl rfl trivial ?_
        refine hr_Fb h (fun v16 M16 e16 h => ?_)
        refine hr_Gcv mf_X11_mix mf_X11_isBorneHue lb_X11_mix_44 (b := 275) (as := [.int a2, .int a3]) (rest := []) (st2 := [.int v16]) (v := some (.int v16)) (M1 := M16) rfl rfl rfl rfl rfl rfl K_275 (g_X11_isBorneHue a2 a3 _ _ e16) rfl rfl ?_
        refine hr_Grun mf_X11_mix lb_X11_mix_47 (P := True) (pc' := if v16 = 0 then 72 else 50) (ls' := [some (.ref 275), some (.int a1), some (.int a2), some (.int a3), some (.int a4), some (.int v14), none, none, none]) (st' := []) (M' := M16) rfl rfl trivial ?_
        refine hr_Gif h (fun _ h => ?_) (fun _ h => ?_)
        · refine hr_Grun mf_X11_mix lb_X11_mix_72 (P := True) (pc' := 74) (ls' := [some (.ref 275), some (.int a1), some (.int a2), some (.int a3), some (.int a4), some (.int v14), none, none, none]) (st' := [.int a3, .ref 275]) (M' := M16) rfl rfl trivial ?_
          refine hr_Fb h (fun v19 M19 e19 h => ?_)
          refine hr_Gcv mf_X11_mix mf_X11_findNeeds lb_X11_mix_74 (b := 275) (as := [.int a3]) (rest := []) (st2 := []) (v := none) (M1 := M19) rfl rfl rfl rfl rfl rfl K_275 (g_X11_findNeeds a3 _ _ e19) rfl rfl ?_
          refine hr_Grun mf_X11_mix lb_X11_mix_77 (P := True) (pc' := 83) (ls' := [some (.ref 275), some (.int a1), some (.int a2), some (.int a3), some (.int a4), some (.int v14), some (.int 0), some (.int 1), none]) (st' := []) (M' := M19) rfl rfl trivial ?_
          refine hr_Gle (ls := [some (.ref 275), none, none, none, some (.int a4), some (.int v14), some (.int 0), some (.int 1), none]) (hr_le_s (hr_le_n (hr_le_n (hr_le_n (hr_le_s (hr_le_s (hr_le_s (hr_le_s (hr_le_n hr_le_0))))))))) ?_
          exact g_X11_mix_83 a1 a2 a3 a4 FU v14 0 1 M19 _ h
        · refine hr_Grun mf_X11_mix lb_X11_mix_50 (P := True) (pc' := if a4 = 0 then 55 else 59) (ls' := [some (.ref 275), some (.int a1), some (.int a2), some (.int a3), some (.int a4), some (.int v14), none, none, none]) (st' := []) (M' := M16) rfl rfl trivial ?_
          refine hr_Gif h (fun _ h => ?_) (fun _ h => ?_)
          · refine hr_Grun mf_X11_mix lb_X11_mix_55 (P := True) (pc' := 71) (ls' := [some (.ref 275), some (.int a1), some (.int a2), some (.int a3), some (.int a4), some (.int v14), none, none, none]) (st' := [.int 0]) (M' := M16) rfl rfl trivial ?_
            cases h
            exact hr_Gret mf_X11_mix lb_X11_mix_71 rfl rfl trivial
          · refine hr_Grun mf_X11_mix lb_X11_mix_59 (P := True) (pc' := if a4 = 1 then 65 else 69) (ls' := [some (.ref 275), some (.int a1), some (.int a2), some (.int a3), some (.int a4), some (.int v14), none, none, none]) (st' := []) (M' := M16) rfl rfl trivial ?_
            refine hr_Gif h (fun _ h => ?_) (fun _ h => ?_)
            · refine hr_Grun mf_X11_mix lb_X11_mix_65 (P := True) (pc' := 71) (ls' := [some (.ref 275), some (.int a1), some (.int a2), some (.int a3), some (.int a4), some (.int v14), none, none, none]) (st' := [.int (-1)]) (M' := M16) rfl rfl trivial ?_
              cases h
              exact hr_Gret mf_X11_mix lb_X11_mix_71 rfl rfl trivial
            · refine hr_Grun mf_X11_mix lb_X11_mix_69 (P := True) (pc' := 71) (ls' := [some (.ref 275), some (.int a1), some (.int a2), some (.int a3), some (.int a4), some (.int v14), none, none, none]) (st' := [.int v14]) (M' := M16) rfl rfl trivial ?_
              cases h
              exact hr_Gret mf_X11_mix lb_X11_mix_71 rfl rfl trivial
theorem mf_X11_leastOf : hr_mf 268 11 1 (some .int) 2 1 bk_X11_leastOf := ⟨rfl, rfl, rfl, rfl, rfl, rfl⟩
theorem lb_X11_leastOf_0 : bk_X11_leastOf.lookup 0 = some [(.iconst 0, 1), (.istore_n 1, 1)] := rfl
theorem lb_X11_leastOf_2 : bk_X11_leastOf.lookup 2 = some [(.iload_n 0, 1), (.iload_n 1, 1)] := rfl
theorem lb_X11_leastOf_4 : bk_X11_leastOf.lookup 4 = some [(.invokestatic 104, 3)] := rfl
theorem lb_X11_leastOf_7 : bk_X11_leastOf.lookup 7 = some [(.ifCond .ne 9, 3)] := rfl
theorem lb_X11_leastOf_10 : bk_X11_leastOf.lookup 10 = some [(.iinc 1 1, 3), (.goto (-11), 3)] := rfl
theorem lb_X11_leastOf_16 : bk_X11_leastOf.lookup 16 = some [(.iload_n 1, 1)] := rfl
theorem lb_X11_leastOf_17 : bk_X11_leastOf.lookup 17 = some [(.ireturn, 1)] := rfl
def f_X11_leastOf_2 (a0 : Int32) : Nat → Int32 → PM → Option (Int32 × PM)
  | 0, _, _ => none
  | f + 1, x1, M =>
    hr_bd (f_X11_has a0 x1 M) (fun v2 M2 =>
    if v2 = 0 then
      f_X11_leastOf_2 a0 f (x1 + 1) M2
    else
      some (x1, M2))
theorem g_X11_leastOf_2 (a0 : Int32)  : ∀ (f : Nat) (x1 : Int32) (M : PM) (r : Int32 × PM), f_X11_leastOf_2 a0 f x1 M = some r → hr_G 268 2 [some (.int a0), some (.int x1)] [] M (some (.int r.1), r.2) := by
  intro f
  induction f with
  | zero => intro x1 M r h; cases h
  | succ f ih =>
    intro x1 M r h
    rw [f_X11_leastOf_2.eq_2] at h
    refine hr_Grun mf_X11_leastOf lb_X11_leastOf_2 (P := True) (pc' := 4) (ls' := [some (.int a0), some (.int x1)]) (st' := [.int x1, .int a0]) (M' := M) rfl rfl trivial ?_
    refine hr_Fb h (fun v2 M2 e2 h => ?_)
    refine hr_Gcs mf_X11_leastOf mf_X11_has lb_X11_leastOf_4 (as := [.int a0, .int x1]) (rest := []) (st2 := [.int v2]) (v := some (.int v2)) (M1 := M2) rfl rfl rfl rfl rfl rfl (g_X11_has a0 x1 _ _ e2) rfl rfl ?_
    refine hr_Grun mf_X11_leastOf lb_X11_leastOf_7 (P := True) (pc' := if v2 = 0 then 10 else 16) (ls' := [some (.int a0), some (.int x1)]) (st' := []) (M' := M2) rfl rfl trivial ?_
    refine hr_Gif h (fun _ h => ?_) (fun _ h => ?_)
    · refine hr_Grun mf_X11_leastOf lb_X11_leastOf_10 (P := True) (pc' := 2) (ls' := [some (.int a0), some (.int (x1 + 1))]) (st' := []) (M' := M2) rfl rfl trivial ?_
      exact ih (x1 + 1) M2 _ h
    · refine hr_Grun mf_X11_leastOf lb_X11_leastOf_16 (P := True) (pc' := 17) (ls' := [some (.int a0), some (.int x1)]) (st' := [.int x1]) (M' := M2) rfl rfl trivial ?_
      cases h
      exact hr_Gret mf_X11_leastOf lb_X11_leastOf_17 rfl rfl trivial
def f_X11_leastOf (a0 : Int32) (M : PM) : Option (Int32 × PM) :=
  f_X11_leastOf_2 a0 FU 0 M
theorem g_X11_leastOf (a0 : Int32) : ∀ (M : PM) (r : Int32 × PM), f_X11_leastOf a0 M = some r → hr_G 268 0 [some (.int a0), none] [] M (some (.int r.1), r.2) := by
  intro M r h
  unfold f_X11_leastOf at h
  refine hr_Grun mf_X11_leastOf lb_X11_leastOf_0 (P := True) (pc' := 2) (ls' := [some (.int a0), some (.int 0)]) (st' := []) (M' := M) rfl rfl trivial ?_
  exact g_X11_leastOf_2 a0 FU 0 M _ h
theorem mf_X11_findCouples : hr_mf 269 11 2 none 5 0 bk_X11_findCouples := ⟨rfl, rfl, rfl, rfl, rfl, rfl⟩
theorem lb_X11_findCouples_0 : bk_X11_findCouples.lookup 0 = some [(.aload_n 0, 1), (.getfield 84, 3), (.iconst 0, 1), (.iconst 0, 1), (.iastore, 1), (.iconst 1, 1), (.istore_n 1, 1)] := rfl
theorem lb_X11_findCouples_9 : bk_X11_findCouples.lookup 9 = some [(.iload_n 1, 1), (.iconst 1, 1), (.aload_n 0, 1), (.getfield 299, 3), (.ishl, 1), (.if_icmp .ge 112, 3)] := rfl
theorem lb_X11_findCouples_19 : bk_X11_findCouples.lookup 19 = some [(.iload_n 1, 1)] := rfl
theorem lb_X11_findCouples_20 : bk_X11_findCouples.lookup 20 = some [(.invokestatic 481, 3)] := rfl
theorem lb_X11_findCouples_23 : bk_X11_findCouples.lookup 23 = some [(.istore_n 2, 1), (.iload_n 1, 1), (.iconst 1, 1), (.iload_n 2, 1), (.ishl, 1), (.iconst (-1), 1), (.ixor, 1), (.iand, 1), (.istore_n 3, 1), (.aload_n 0, 1), (.getfield 84, 3), (.iload_n 1, 1), (.aload_n 0, 1), (.getfield 84, 3), (.iload_n 3, 1), (.iaload, 1), (.iastore, 1), (.iload_n 2, 1), (.iconst 1, 1), (.iadd, 1), (.istore 4, 2)] := rfl
theorem lb_X11_findCouples_49 : bk_X11_findCouples.lookup 49 = some [(.iload 4, 2), (.aload_n 0, 1), (.getfield 299, 3), (.if_icmp .ge 67, 3)] := rfl
theorem lb_X11_findCouples_58 : bk_X11_findCouples.lookup 58 = some [(.aload_n 0, 1), (.getfield 84, 3), (.iload_n 1, 1), (.iload_n 3, 1), (.iload 4, 2)] := rfl
theorem lb_X11_findCouples_66 : bk_X11_findCouples.lookup 66 = some [(.invokestatic 104, 3)] := rfl
theorem lb_X11_findCouples_69 : bk_X11_findCouples.lookup 69 = some [(.ifCond .eq 40, 3)] := rfl
theorem lb_X11_findCouples_72 : bk_X11_findCouples.lookup 72 = some [(.aload_n 0, 1), (.iload_n 2, 1), (.iload 4, 2)] := rfl
theorem lb_X11_findCouples_76 : bk_X11_findCouples.lookup 76 = some [(.invokevirtual 314, 3)] := rfl
theorem lb_X11_findCouples_79 : bk_X11_findCouples.lookup 79 = some [(.ifCond .ne 30, 3)] := rfl
theorem lb_X11_findCouples_82 : bk_X11_findCouples.lookup 82 = some [(.aload_n 0, 1), (.getfield 84, 3), (.iload_n 1, 1), (.iaload, 1), (.iconst 1, 1), (.aload_n 0, 1), (.getfield 84, 3), (.iload_n 3, 1), (.iconst 1, 1), (.iload 4, 2), (.ishl, 1), (.iconst (-1), 1), (.ixor, 1), (.iand, 1), (.iaload, 1), (.iadd, 1)] := rfl
theorem lb_X11_findCouples_103 : bk_X11_findCouples.lookup 103 = some [(.invokestatic 181, 3)] := rfl
theorem lb_X11_findCouples_106 : bk_X11_findCouples.lookup 106 = some [(.goto 9, 3)] := rfl
theorem lb_X11_findCouples_109 : bk_X11_findCouples.lookup 109 = some [(.aload_n 0, 1), (.getfield 84, 3), (.iload_n 1, 1), (.iaload, 1)] := rfl
theorem lb_X11_findCouples_115 : bk_X11_findCouples.lookup 115 = some [(.iastore, 1), (.iinc 4 1, 3), (.goto (-70), 3)] := rfl
theorem lb_X11_findCouples_122 : bk_X11_findCouples.lookup 122 = some [(.iinc 1 1, 3), (.goto (-116), 3)] := rfl
theorem lb_X11_findCouples_128 : bk_X11_findCouples.lookup 128 = some [(.return_, 1)] := rfl
def f_X11_findCouples_49  (k9 : Int32 → PM → Option (Unit × PM)) : Nat → Int32 → Int32 → Int32 → Int32 → PM → Option (Unit × PM)
  | 0, _, _, _, _, _ => none
  | f + 1, x1, x2, x3, x4, M =>
    if (M.1 275 25) ≤ x4 then
      k9 (x1 + 1) M
    else
      hr_bd (f_X11_has x3 x4 M) (fun v4 M4 =>
      if v4 = 0 then
        if inB x1 1024 = true then 
        if inB x1 1024 = true then 
        f_X11_findCouples_49 k9 f x1 x2 x3 (x4 + 1) (hr_si M4 300 x1.toNatClampNeg (M4.1 300 x1.toNatClampNeg)) else none else none
      else
        hr_bd (f_X11_clash x2 x4 M4) (fun v9 M9 =>
        if v9 = 0 then
          if inB x1 1024 = true then if inB (x3 &&& ((jl 1 x4) ^^^ (-1))) 1024 = true then 
          hr_bd (f_X11_greater (M9.1 300 x1.toNatClampNeg) (1 + (M9.1 300 (x3 &&& ((jl 1 x4) ^^^ (-1))).toNatClampNeg)) M9) (fun v12 M12 =>
          if inB x1 1024 = true then 
          f_X11_findCouples_49 k9 f x1 x2 x3 (x4 + 1) (hr_si M12 300 x1.toNatClampNeg v12) else none) else none else none
        else
          if inB x1 1024 = true then 
          if inB x1 1024 = true then 
          f_X11_findCouples_49 k9 f x1 x2 x3 (x4 + 1) (hr_si M9 300 x1.toNatClampNeg (M9.1 300 x1.toNatClampNeg)) else none else none))
theorem g_X11_findCouples_49   (k9 : Int32 → PM → Option (Unit × PM)) (hk9 : ∀ (x1 : Int32) (M : PM) (r : Unit × PM), k9 x1 M = some r → hr_G 269 9 [some (.ref 275), some (.int x1), none, none, none] [] M (none, r.2)) : ∀ (f : Nat) (x1 : Int32) (x2 : Int32) (x3 : Int32) (x4 : Int32) (M : PM) (r : Unit × PM), f_X11_findCouples_49 k9 f x1 x2 x3 x4 M = some r → hr_G 269 49 [some (.ref 275), some (.int x1), some (.int x2), some (.int x3), some (.int x4)] [] M (none, r.2) := by
  intro f
  induction f with
  | zero => intro x1 x2 x3 x4 M r h; cases h
  | succ f ih =>
    intro x1 x2 x3 x4 M r h
    rw [f_X11_findCouples_49.eq_2] at h
    refine hr_Grun mf_X11_findCouples lb_X11_findCouples_49 (P := hr_K 275 = 10 ∧ True) (pc' := if (M.1 275 25) ≤ x4 then 122 else 58) (ls' := [some (.ref 275), some (.int x1), some (.int x2), some (.int x3), some (.int x4)]) (st' := []) (M' := M) rfl rfl ⟨K_275, trivial⟩ ?_
    refine hr_Gif h (fun _ h => ?_) (fun _ h => ?_)
    · refine hr_Grun mf_X11_findCouples lb_X11_findCouples_122 (P := True) (pc' := 9) (ls' := [some (.ref 275), some (.int (x1 + 1)), some (.int x2), some (.int x3), some (.int x4)]) (st' := []) (M' := M) rfl rfl trivial ?_
      refine hr_Gle (ls := [some (.ref 275), some (.int (x1 + 1)), none, none, none]) (hr_le_s (hr_le_s (hr_le_n (hr_le_n (hr_le_n hr_le_0))))) ?_
      exact hk9 (x1 + 1) M _ h
    · refine hr_Grun mf_X11_findCouples lb_X11_findCouples_58 (P := hr_K 275 = 10 ∧ True) (pc' := 66) (ls' := [some (.ref 275), some (.int x1), some (.int x2), some (.int x3), some (.int x4)]) (st' := [.int x4, .int x3, .int x1, .ref 300]) (M' := M) rfl rfl ⟨K_275, trivial⟩ ?_
      refine hr_Fb h (fun v4 M4 e4 h => ?_)
      refine hr_Gcs mf_X11_findCouples mf_X11_has lb_X11_findCouples_66 (as := [.int x3, .int x4]) (rest := [.int x1, .ref 300]) (st2 := [.int v4, .int x1, .ref 300]) (v := some (.int v4)) (M1 := M4) rfl rfl rfl rfl rfl rfl (g_X11_has x3 x4 _ _ e4) rfl rfl ?_
      refine hr_Grun mf_X11_findCouples lb_X11_findCouples_69 (P := True) (pc' := if v4 = 0 then 109 else 72) (ls' := [some (.ref 275), some (.int x1), some (.int x2), some (.int x3), some (.int x4)]) (st' := [.int x1, .ref 300]) (M' := M4) rfl rfl trivial ?_
      refine hr_Gif h (fun _ h => ?_) (fun _ h => ?_)
      · refine hr_Fg h (fun hg6_0 h => ?_)
        refine hr_Grun mf_X11_findCouples lb_X11_findCouples_109 (P := hr_K 275 = 10 ∧ (hr_K 300 = 12 ∧ vp_in x1 (hr_N 300)) ∧ True) (pc' := 115) (ls' := [some (.ref 275), some (.int x1), some (.int x2), some (.int x3), some (.int x4)]) (st' := [.int (M4.1 300 x1.toNatClampNeg), .int x1, .ref 300]) (M' := M4) rfl rfl ⟨K_275, ⟨K_300, (inB_N N_300 hg6_0)⟩, trivial⟩ ?_
        refine hr_Fg h (fun hg7_0 h => ?_)
        refine hr_Grun mf_X11_findCouples lb_X11_findCouples_115 (P := ((hr_K 300 = 12 ∧ 300 < hr_n) ∧ vp_in x1 (hr_N 300)) ∧ True) (pc' := 49) (ls' := [some (.ref 275), some (.int x1), some (.int x2), some (.int x3), some (.int (x4 + 1))]) (st' := []) (M' := hr_si M4 300 x1.toNatClampNeg (M4.1 300 x1.toNatClampNeg)) rfl rfl ⟨⟨⟨K_300, L_300⟩, (inB_N N_300 hg7_0)⟩, trivial⟩ ?_
        exact ih x1 x2 x3 (x4 + 1) (hr_si M4 300 x1.toNatClampNeg (M4.1 300 x1.toNatClampNeg)) _ h
      · refine hr_Grun mf_X11_findCouples lb_X11_findCouples_72 (P := True) (pc' := 76) (ls' := [some (.ref 275), some (.int x1), some (.int x2), some (.int x3), some (.int x4)]) (st' := [.int x4, .int x2, .ref 275, .int x1, .ref 300]) (M' := M4) rfl rfl trivial ?_
        refine hr_Fb h (fun v9 M9 e9 h => ?_)
        refine hr_Gcv mf_X11_findCouples mf_X11_clash lb_X11_findCouples_76 (b := 275) (as := [.int x2, .int x4]) (rest := [.int x1, .ref 300]) (st2 := [.int v9, .int x1, .ref 300]) (v := some (.int v9)) (M1 := M9) rfl rfl rfl rfl rfl rfl K_275 (g_X11_clash x2 x4 _ _ e9) rfl rfl ?_
        refine hr_Grun mf_X11_findCouples lb_X11_findCouples_79 (P := True) (pc' := if v9 = 0 then 82 else 109) (ls' := [some (.ref 275), some (.int x1), some (.int x2), some (.int x3), some (.int x4)]) (st' := [.int x1, .ref 300]) (M' := M9) rfl rfl trivial ?_
        refine hr_Gif h (fun _ h => ?_) (fun _ h => ?_)
        · refine hr_Fg h (fun hg11_0 h => ?_)
          refine hr_Fg h (fun hg11_1 h => ?_)
          refine hr_Grun mf_X11_findCouples lb_X11_findCouples_82 (P := hr_K 275 = 10 ∧ (hr_K 300 = 12 ∧ vp_in x1 (hr_N 300)) ∧ hr_K 275 = 10 ∧ (hr_K 300 = 12 ∧ vp_in (x3 &&& ((jl 1 x4) ^^^ (-1))) (hr_N 300)) ∧ True) (pc' := 103) (ls' := [some (.ref 275), some (.int x1), some (.int x2), some (.int x3), some (.int x4)]) (st' := [.int (1 + (M9.1 300 (x3 &&& ((jl 1 x4) ^^^ (-1))).toNatClampNeg)), .int (M9.1 300 x1.toNatClampNeg), .int x1, .ref 300]) (M' := M9) rfl rfl ⟨K_275, ⟨K_300, (inB_N N_300 hg11_0)⟩, K_275, ⟨K_300, (inB_N N_300 hg11_1)⟩, trivial⟩ ?_
          refine hr_Fb h (fun v12 M12 e12 h => ?_)
          refine hr_Gcs mf_X11_findCouples mf_X11_greater lb_X11_findCouples_103 (as := [.int (M9.1 300 x1.toNatClampNeg), .int (1 + (M9.1 300 (x3 &&& ((jl 1 x4) ^^^ (-1))).toNatClampNeg))]) (rest := [.int x1, .ref 300]) (st2 := [.int v12, .int x1, .ref 300]) (v := some (.int v12)) (M1 := M12) rfl rfl rfl rfl rfl rfl (g_X11_greater (M9.1 300 x1.toNatClampNeg) (1 + (M9.1 300 (x3 &&& ((jl 1 x4) ^^^ (-1))).toNatClampNeg)) _ _ e12) rfl rfl ?_
          refine hr_Grun mf_X11_findCouples lb_X11_findCouples_106 (P := True) (pc' := 115) (ls' := [some (.ref 275), some (.int x1), some (.int x2), some (.int x3), some (.int x4)]) (st' := [.int v12, .int x1, .ref 300]) (M' := M12) rfl rfl trivial ?_
          refine hr_Fg h (fun hg14_0 h => ?_)
          refine hr_Grun mf_X11_findCouples lb_X11_findCouples_115 (P := ((hr_K 300 = 12 ∧ 300 < hr_n) ∧ vp_in x1 (hr_N 300)) ∧ True) (pc' := 49) (ls' := [some (.ref 275), some (.int x1), some (.int x2), some (.int x3), some (.int (x4 + 1))]) (st' := []) (M' := hr_si M12 300 x1.toNatClampNeg v12) rfl rfl ⟨⟨⟨K_300, L_300⟩, (inB_N N_300 hg14_0)⟩, trivial⟩ ?_
          exact ih x1 x2 x3 (x4 + 1) (hr_si M12 300 x1.toNatClampNeg v12) _ h
        · refine hr_Fg h (fun hg15_0 h => ?_)
          refine hr_Grun mf_X11_findCouples lb_X11_findCouples_109 (P := hr_K 275 = 10 ∧ (hr_K 300 = 12 ∧ vp_in x1 (hr_N 300)) ∧ True) (pc' := 115) (ls' := [some (.ref 275), some (.int x1), some (.int x2), some (.int x3), some (.int x4)]) (st' := [.int (M9.1 300 x1.toNatClampNeg), .int x1, .ref 300]) (M' := M9) rfl rfl ⟨K_275, ⟨K_300, (inB_N N_300 hg15_0)⟩, trivial⟩ ?_
          refine hr_Fg h (fun hg16_0 h => ?_)
          refine hr_Grun mf_X11_findCouples lb_X11_findCouples_115 (P := ((hr_K 300 = 12 ∧ 300 < hr_n) ∧ vp_in x1 (hr_N 300)) ∧ True) (pc' := 49) (ls' := [some (.ref 275), some (.int x1), some (.int x2), some (.int x3), some (.int (x4 + 1))]) (st' := []) (M' := hr_si M9 300 x1.toNatClampNeg (M9.1 300 x1.toNatClampNeg)) rfl rfl ⟨⟨⟨K_300, L_300⟩, (inB_N N_300 hg16_0)⟩, trivial⟩ ?_
          exact ih x1 x2 x3 (x4 + 1) (hr_si M9 300 x1.toNatClampNeg (M9.1 300 x1.toNatClampNeg)) _ h
def f_X11_findCouples_9  : Nat → Int32 → PM → Option (Unit × PM)
  | 0, _, _ => none
  | f + 1, x1, M =>
    if (jl 1 (M.1 275 25)) ≤ x1 then
      some ((), M)
    else
      hr_bd (f_X11_leastOf x1 M) (fun v3 M3 =>
      if inB (x1 &&& ((jl 1 v3) ^^^ (-1))) 1024 = true then if inB x1 1024 = true then 
      f_X11_findCouples_49 (fun x1 M => f_X11_findCouples_9 f x1 M) FU x1 v3 (x1 &&& ((jl 1 v3) ^^^ (-1))) (v3 + 1) (hr_si M3 300 x1.toNatClampNeg (M3.1 300 (x1 &&& ((jl 1 v3) ^^^ (-1))).toNatClampNeg)) else none else none)
theorem g_X11_findCouples_9   : ∀ (f : Nat) (x1 : Int32) (M : PM) (r : Unit × PM), f_X11_findCouples_9 f x1 M = some r → hr_G 269 9 [some (.ref 275), some (.int x1), none, none, none] [] M (none, r.2) := by
  intro f
  induction f with
  | zero => intro x1 M r h; cases h
  | succ f ih =>
    intro x1 M r h
    rw [f_X11_findCouples_9.eq_2] at h
    refine hr_Grun mf_X11_findCouples lb_X11_findCouples_9 (P := hr_K 275 = 10 ∧ True) (pc' := if (jl 1 (M.1 275 25)) ≤ x1 then 128 else 19) (ls' := [some (.ref 275), some (.int x1), none, none, none]) (st' := []) (M' := M) rfl rfl ⟨K_275, trivial⟩ ?_
    refine hr_Gif h (fun _ h => ?_) (fun _ h => ?_)
    · cases h
      exact hr_Gret mf_X11_findCouples lb_X11_findCouples_128 rfl rfl trivial
    · refine hr_Grun mf_X11_findCouples lb_X11_findCouples_19 (P := True) (pc' := 20) (ls' := [some (.ref 275), some (.int x1), none, none, none]) (st' := [.int x1]) (M' := M) rfl rfl trivial ?_
      refine hr_Fb h (fun v3 M3 e3 h => ?_)
      refine hr_Gcs mf_X11_findCouples mf_X11_leastOf lb_X11_findCouples_20 (as := [.int x1]) (rest := []) (st2 := [.int v3]) (v := some (.int v3)) (M1 := M3) rfl rfl rfl rfl rfl rfl (g_X11_leastOf x1 _ _ e3) rfl rfl ?_
      refine hr_Fg h (fun hg4_0 h => ?_)
      refine hr_Fg h (fun hg4_1 h => ?_)
      refine hr_Grun mf_X11_findCouples lb_X11_findCouples_23 (P := hr_K 275 = 10 ∧ hr_K 275 = 10 ∧ (hr_K 300 = 12 ∧ vp_in (x1 &&& ((jl 1 v3) ^^^ (-1))) (hr_N 300)) ∧ ((hr_K 300 = 12 ∧ 300 < hr_n) ∧ vp_in x1 (hr_N 300)) ∧ True) (pc' := 49) (ls' := [some (.ref 275), some (.int x1), some (.int v3), some (.int (x1 &&& ((jl 1 v3) ^^^ (-1)))), some (.int (v3 + 1))]) (st' := []) (M' := hr_si M3 300 x1.toNatClampNeg (M3.1 300 (x1 &&& ((jl 1 v3) ^^^ (-1))).toNatClampNeg)) rfl rfl ⟨K_275, K_275, ⟨K_300, (inB_N N_300 hg4_0)⟩, ⟨⟨K_300, L_300⟩, (inB_N N_300 hg4_1)⟩, trivial⟩ ?_
      exact g_X11_findCouples_49 (fun x1 M => f_X11_findCouples_9 f x1 M) (fun x1 M r h => ih x1 M r h) FU x1 v3 (x1 &&& ((jl 1 v3) ^^^ (-1))) (v3 + 1) (hr_si M3 300 x1.toNatClampNeg (M3.1 300 (x1 &&& ((jl 1 v3) ^^^ (-1))).toNatClampNeg)) _ h
def f_X11_findCouples (M : PM) : Option (Unit × PM) :=
  if inB 0 1024 = true then 
  f_X11_findCouples_9 FU 1 (hr_si M 300 (0 : Int32).toNatClampNeg 0) else none
theorem g_X11_findCouples  : ∀ (M : PM) (r : Unit × PM), f_X11_findCouples M = some r → hr_G 269 0 [some (.ref 275), none, none, none, none] [] M (none, r.2) := by
  intro M r h
  unfold f_X11_findCouples at h
  refine hr_Fg h (fun hg1_0 h => ?_)
  refine hr_Grun mf_X11_findCouples lb_X11_findCouples_0 (P := hr_K 275 = 10 ∧ ((hr_K 300 = 12 ∧ 300 < hr_n) ∧ vp_in 0 (hr_N 300)) ∧ True) (pc' := 9) (ls' := [some (.ref 275), some (.int 1), none, none, none]) (st' := []) (M' := hr_si M 300 (0 : Int32).toNatClampNeg 0) rfl rfl ⟨K_275, ⟨⟨K_300, L_300⟩, (inB_N N_300 hg1_0)⟩, trivial⟩ ?_
  exact g_X11_findCouples_9 FU 1 (hr_si M 300 (0 : Int32).toNatClampNeg 0) _ h
theorem mf_X11_allyOf : hr_mf 270 11 2 (some .int) 7 1 bk_X11_allyOf := ⟨rfl, rfl, rfl, rfl, rfl, rfl⟩
theorem lb_X11_allyOf_0 : bk_X11_allyOf.lookup 0 = some [(.iconst 1, 1), (.aload_n 0, 1), (.getfield 299, 3), (.ishl, 1), (.iconst 1, 1), (.isub, 1), (.istore_n 2, 1)] := rfl
theorem lb_X11_allyOf_9 : bk_X11_allyOf.lookup 9 = some [(.iload_n 2, 1), (.ifCond .eq 141, 3)] := rfl
theorem lb_X11_allyOf_13 : bk_X11_allyOf.lookup 13 = some [(.iload_n 2, 1)] := rfl
theorem lb_X11_allyOf_14 : bk_X11_allyOf.lookup 14 = some [(.invokestatic 481, 3)] := rfl
theorem lb_X11_allyOf_17 : bk_X11_allyOf.lookup 17 = some [(.istore_n 3, 1), (.iload_n 2, 1), (.iconst 1, 1), (.iload_n 3, 1), (.ishl, 1), (.iconst (-1), 1), (.ixor, 1), (.iand, 1), (.istore 4, 2), (.iconst (-1), 1), (.istore 5, 2), (.aload_n 0, 1), (.getfield 299, 3), (.iconst 1, 1), (.isub, 1), (.istore 6, 2)] := rfl
theorem lb_X11_allyOf_38 : bk_X11_allyOf.lookup 38 = some [(.iload 6, 2), (.iload_n 3, 1), (.if_icmp .le 63, 3)] := rfl
theorem lb_X11_allyOf_44 : bk_X11_allyOf.lookup 44 = some [(.iload 4, 2), (.iload 6, 2)] := rfl
theorem lb_X11_allyOf_48 : bk_X11_allyOf.lookup 48 = some [(.invokestatic 104, 3)] := rfl
theorem lb_X11_allyOf_51 : bk_X11_allyOf.lookup 51 = some [(.ifCond .eq 43, 3)] := rfl
theorem lb_X11_allyOf_54 : bk_X11_allyOf.lookup 54 = some [(.aload_n 0, 1), (.iload_n 3, 1), (.iload 6, 2)] := rfl
theorem lb_X11_allyOf_58 : bk_X11_allyOf.lookup 58 = some [(.invokevirtual 314, 3)] := rfl
theorem lb_X11_allyOf_61 : bk_X11_allyOf.lookup 61 = some [(.ifCond .ne 33, 3)] := rfl
theorem lb_X11_allyOf_64 : bk_X11_allyOf.lookup 64 = some [(.iconst 1, 1), (.aload_n 0, 1), (.getfield 84, 3), (.iload 4, 2), (.iconst 1, 1), (.iload 6, 2), (.ishl, 1), (.iconst (-1), 1), (.ixor, 1), (.iand, 1), (.iaload, 1), (.iadd, 1), (.aload_n 0, 1), (.getfield 84, 3), (.iload_n 2, 1), (.iaload, 1), (.if_icmp .ne 8, 3)] := rfl
theorem lb_X11_allyOf_89 : bk_X11_allyOf.lookup 89 = some [(.iload 6, 2), (.goto 5, 3)] := rfl
theorem lb_X11_allyOf_94 : bk_X11_allyOf.lookup 94 = some [(.iload 5, 2)] := rfl
theorem lb_X11_allyOf_96 : bk_X11_allyOf.lookup 96 = some [(.istore 5, 2), (.iinc 6 (-1), 3), (.goto (-63), 3)] := rfl
theorem lb_X11_allyOf_104 : bk_X11_allyOf.lookup 104 = some [(.iload_n 3, 1), (.iload_n 1, 1), (.if_icmp .eq 9, 3)] := rfl
theorem lb_X11_allyOf_109 : bk_X11_allyOf.lookup 109 = some [(.iload 5, 2), (.iload_n 1, 1), (.if_icmp .ne 15, 3)] := rfl
theorem lb_X11_allyOf_115 : bk_X11_allyOf.lookup 115 = some [(.iload_n 3, 1), (.iload_n 1, 1), (.if_icmp .ne 8, 3)] := rfl
theorem lb_X11_allyOf_120 : bk_X11_allyOf.lookup 120 = some [(.iload 5, 2), (.goto 4, 3)] := rfl
theorem lb_X11_allyOf_125 : bk_X11_allyOf.lookup 125 = some [(.iload_n 3, 1)] := rfl
theorem lb_X11_allyOf_126 : bk_X11_allyOf.lookup 126 = some [(.ireturn, 1)] := rfl
theorem lb_X11_allyOf_127 : bk_X11_allyOf.lookup 127 = some [(.iload 5, 2), (.iconst (-1), 1), (.if_icmp .ne 8, 3)] := rfl
theorem lb_X11_allyOf_133 : bk_X11_allyOf.lookup 133 = some [(.iload 4, 2), (.goto 12, 3)] := rfl
theorem lb_X11_allyOf_138 : bk_X11_allyOf.lookup 138 = some [(.iload 4, 2), (.iconst 1, 1), (.iload 5, 2), (.ishl, 1), (.iconst (-1), 1), (.ixor, 1), (.iand, 1)] := rfl
theorem lb_X11_allyOf_147 : bk_X11_allyOf.lookup 147 = some [(.istore_n 2, 1), (.goto (-139), 3)] := rfl
theorem lb_X11_allyOf_151 : bk_X11_allyOf.lookup 151 = some [(.iconst (-1), 1)] := rfl
theorem lb_X11_allyOf_152 : bk_X11_allyOf.lookup 152 = some [(.ireturn, 1)] := rfl
def f_X11_allyOf_115 (a1 : Int32) (x3 : Int32) (x5 : Int32) (M : PM) : Option (Int32 × PM) :=
  if x3 = a1 then
    some (x5, M)
  else
    some (x3, M)
theorem g_X11_allyOf_115 (a1 : Int32)  : ∀ (x3 : Int32) (x5 : Int32) (M : PM) (r : Int32 × PM), f_X11_allyOf_115 a1 x3 x5 M = some r → hr_G 270 115 [none, some (.int a1), none, some (.int x3), none, some (.int x5), none] [] M (some (.int r.1), r.2) := by
  intro x3 x5 M r h
  unfold f_X11_allyOf_115 at h
  refine hr_Grun mf_X11_allyOf lb_X11_allyOf_115 (P := True) (pc' := if x3 = a1 then 120 else 125) (ls' := [none, some (.int a1), none, some (.int x3), none, some (.int x5), none]) (st' := []) (M' := M) rfl rfl trivial ?_
  refine hr_Gif h (fun _ h => ?_) (fun _ h => ?_)
  · refine hr_Grun mf_X11_allyOf lb_X11_allyOf_120 (P := True) (pc' := 126) (ls' := [none, some (.int a1), none, some (.int x3), none, some (.int x5), none]) (st' := [.int x5]) (M' := M) rfl rfl trivial ?_
    cases h
    exact hr_Gret mf_X11_allyOf lb_X11_allyOf_126 rfl rfl trivial
  · refine hr_Grun mf_X11_allyOf lb_X11_allyOf_125 (P := True) (pc' := 126) (ls' := [none, some (.int a1), none, some (.int x3), none, some (.int x5), none]) (st' := [.int x3]) (M' := M) rfl rfl trivial ?_
    cases h
    exact hr_Gret mf_X11_allyOf lb_X11_allyOf_126 rfl rfl trivial
def f_X11_allyOf_38 (a1 : Int32) (k9 : Int32 → PM → Option (Int32 × PM)) : Nat → Int32 → Int32 → Int32 → Int32 → Int32 → PM → Option (Int32 × PM)
  | 0, _, _, _, _, _, _ => none
  | f + 1, x2, x3, x4, x5, x6, M =>
    if x6 ≤ x3 then
      if x3 = a1 then
        f_X11_allyOf_115 a1 x3 x5 M
      else
        if x5 = a1 then
          f_X11_allyOf_115 a1 x3 x5 M
        else
          if x5 = (-1) then
            k9 x4 M
          else
            k9 (x4 &&& ((jl 1 x5) ^^^ (-1))) M
    else
      hr_bd (f_X11_has x4 x6 M) (fun v10 M10 =>
      if v10 = 0 then
        f_X11_allyOf_38 a1 k9 f x2 x3 x4 x5 (x6 + (-1)) M10
      else
        hr_bd (f_X11_clash x3 x6 M10) (fun v15 M15 =>
        if v15 = 0 then
          if inB (x4 &&& ((jl 1 x6) ^^^ (-1))) 1024 = true then if inB x2 1024 = true then if (1 + (M15.1 300 (x4 &&& ((jl 1 x6) ^^^ (-1))).toNatClampNeg)) = (M15.1 300 x2.toNatClampNeg) then
            f_X11_allyOf_38 a1 k9 f x2 x3 x4 x6 (x6 + (-1)) M15
          else
            f_X11_allyOf_38 a1 k9 f x2 x3 x4 x5 (x6 + (-1)) M15
          else none else none
        else
          f_X11_allyOf_38 a1 k9 f x2 x3 x4 x5 (x6 + (-1)) M15))
theorem g_X11_allyOf_38 (a1 : Int32)  (k9 : Int32 → PM → Option (Int32 × PM)) (hk9 : ∀ (x2 : Int32) (M : PM) (r : Int32 × PM), k9 x2 M = some r → hr_G 270 9 [some (.ref 275), some (.int a1), some (.int x2), none, none, none, none] [] M (some (.int r.1), r.2)) : ∀ (f : Nat) (x2 : Int32) (x3 : Int32) (x4 : Int32) (x5 : Int32) (x6 : Int32) (M : PM) (r : Int32 × PM), f_X11_allyOf_38 a1 k9 f x2 x3 x4 x5 x6 M = some r → hr_G 270 38 [some (.ref 275), some (.int a1), some (.int x2), some (.int x3), some (.int x4), some (.int x5), some (.int x6)] [] M (some (.int r.1), r.2) := by
  intro f
  induction f with
  | zero => intro x2 x3 x4 x5 x6 M r h; cases h
  | succ f ih =>
    intro x2 x3 x4 x5 x6 M r h
    rw [f_X11_allyOf_38.eq_2] at h
    refine hr_Grun mf_X11_allyOf lb_X11_allyOf_38 (P := True) (pc' := if x6 ≤ x3 then 104 else 44) (ls' := [some (.ref 275), some (.int a1), some (.int x2), some (.int x3), some (.int x4), some (.int x5), some (.int x6)]) (st' := []) (M' := M) rfl rfl trivial ?_
    refine hr_Gif h (fun _ h => ?_) (fun _ h => ?_)
    · refine hr_Grun mf_X11_allyOf lb_X11_allyOf_104 (P := True) (pc' := if x3 = a1 then 115 else 109) (ls' := [some (.ref 275), some (.int a1), some (.int x2), some (.int x3), some (.int x4), some (.int x5), some (.int x6)]) (st' := []) (M' := M) rfl rfl trivial ?_
      refine hr_Gif h (fun _ h => ?_) (fun _ h => ?_)
      · refine hr_Gle (ls := [none, some (.int a1), none, some (.int x3), none, some (.int x5), none]) (hr_le_n (hr_le_s (hr_le_n (hr_le_s (hr_le_n (hr_le_s (hr_le_n hr_le_0))))))) ?_
        exact g_X11_allyOf_115 a1 x3 x5 M _ h
      · refine hr_Grun mf_X11_allyOf lb_X11_allyOf_109 (P := True) (pc' := if x5 = a1 then 115 else 127) (ls' := [some (.ref 275), some (.int a1), some (.int x2), some (.int x3), some (.int x4), some (.int x5), some (.int x6)]) (st' := []) (M' := M) rfl rfl trivial ?_
        refine hr_Gif h (fun _ h => ?_) (fun _ h => ?_)
        · refine hr_Gle (ls := [none, some (.int a1), none, some (.int x3), none, some (.int x5), none]) (hr_le_n (hr_le_s (hr_le_n (hr_le_s (hr_le_n (hr_le_s (hr_le_n hr_le_0))))))) ?_
          exact g_X11_allyOf_115 a1 x3 x5 M _ h
        · refine hr_Grun mf_X11_allyOf lb_X11_allyOf_127 (P := True) (pc' := if x5 = (-1) then 133 else 138) (ls' := [some (.ref 275), some (.int a1), some (.int x2), some (.int x3), some (.int x4), some (.int x5), some (.int x6)]) (st' := []) (M' := M) rfl rfl trivial ?_
          refine hr_Gif h (fun _ h => ?_) (fun _ h => ?_)
          · refine hr_Grun mf_X11_allyOf lb_X11_allyOf_133 (P := True) (pc' := 147) (ls' := [some (.ref 275), some (.int a1), some (.int x2), some (.int x3), some (.int x4), some (.int x5), some (.int x6)]) (st' := [.int x4]) (M' := M) rfl rfl trivial ?_
            refine hr_Grun mf_X11_allyOf lb_X11_allyOf_147 (P := True) (pc' := 9) (ls' := [some (.ref 275), some (.int a1), some (.int x4), some (.int x3), some (.int x4), some (.int x5), some (.int x6)]) (st' := []) (M' := M) rfl rfl trivial ?_
            refine hr_Gle (ls := [some (.ref 275), some (.int a1), some (.int x4), none, none, none, none]) (hr_le_s (hr_le_s (hr_le_s (hr_le_n (hr_le_n (hr_le_n (hr_le_n hr_le_0))))))) ?_
            exact hk9 x4 M _ h
          · refine hr_Grun mf_X11_allyOf lb_X11_allyOf_138 (P := True) (pc' := 147) (ls' := [some (.ref 275), some (.int a1), some (.int x2), some (.int x3), some (.int x4), some (.int x5), some (.int x6)]) (st' := [.int (x4 &&& ((jl 1 x5) ^^^ (-1)))]) (M' := M) rfl rfl trivial ?_
            refine hr_Grun mf_X11_allyOf lb_X11_allyOf_147 (P := True) (pc' := 9) (ls' := [some (.ref 275), some (.int a1), some (.int (x4 &&& ((jl 1 x5) ^^^ (-1)))), some (.int x3), some (.int x4), some (.int x5), some (.int x6)]) (st' := []) (M' := M) rfl rfl trivial ?_
            refine hr_Gle (ls := [some (.ref 275), some (.int a1), some (.int (x4 &&& ((jl 1 x5) ^^^ (-1)))), none, none, none, none]) (hr_le_s (hr_le_s (hr_le_s (hr_le_n (hr_le_n (hr_le_n (hr_le_n hr_le_0))))))) ?_
            exact hk9 (x4 &&& ((jl 1 x5) ^^^ (-1))) M _ h
    · refine hr_Grun mf_X11_allyOf lb_X11_allyOf_44 (P := True) (pc' := 48) (ls' := [some (.ref 275), some (.int a1), some (.int x2), some (.int x3), some (.int x4), some (.int x5), some (.int x6)]) (st' := [.int x6, .int x4]) (M' := M) rfl rfl trivial ?_
      refine hr_Fb h (fun v10 M10 e10 h => ?_)
      refine hr_Gcs mf_X11_allyOf mf_X11_has lb_X11_allyOf_48 (as := [.int x4, .int x6]) (rest := []) (st2 := [.int v10]) (v := some (.int v10)) (M1 := M10) rfl rfl rfl rfl rfl rfl (g_X11_has x4 x6 _ _ e10) rfl rfl ?_
      refine hr_Grun mf_X11_allyOf lb_X11_allyOf_51 (P := True) (pc' := if v10 = 0 then 94 else 54) (ls' := [some (.ref 275), some (.int a1), some (.int x2), some (.int x3), some (.int x4), some (.int x5), some (.int x6)]) (st' := []) (M' := M10) rfl rfl trivial ?_
      refine hr_Gif h (fun _ h => ?_) (fun _ h => ?_)
      · refine hr_Grun mf_X11_allyOf lb_X11_allyOf_94 (P := True) (pc' := 96) (ls' := [some (.ref 275), some (.int a1), some (.int x2), some (.int x3), some (.int x4), some (.int x5), some (.int x6)]) (st' := [.int x5]) (M' := M10) rfl rfl trivial ?_
        refine hr_Grun mf_X11_allyOf lb_X11_allyOf_96 (P := True) (pc' := 38) (ls' := [some (.ref 275), some (.int a1), some (.int x2), some (.int x3), some (.int x4), some (.int x5), some (.int (x6 + (-1)))]) (st' := []) (M' := M10) rfl rfl trivial ?_
        exact ih x2 x3 x4 x5 (x6 + (-1)) M10 _ h
      · refine hr_Grun mf_X11_allyOf lb_X11_allyOf_54 (P := True) (pc' := 58) (ls' := [some (.ref 275), some (.int a1), some (.int x2), some (.int x3), some (.int x4), some (.int x5), some (.int x6)]) (st' := [.int x6, .int x3, .ref 275]) (M' := M10) rfl rfl trivial ?_
        refine hr_Fb h (fun v15 M15 e15 h => ?_)
        refine hr_Gcv mf_X11_allyOf mf_X11_clash lb_X11_allyOf_58 (b := 275) (as := [.int x3, .int x6]) (rest := []) (st2 := [.int v15]) (v := some (.int v15)) (M1 := M15) rfl rfl rfl rfl rfl rfl K_275 (g_X11_clash x3 x6 _ _ e15) rfl rfl ?_
        refine hr_Grun mf_X11_allyOf lb_X11_allyOf_61 (P := True) (pc' := if v15 = 0 then 64 else 94) (ls' := [some (.ref 275), some (.int a1), some (.int x2), some (.int x3), some (.int x4), some (.int x5), some (.int x6)]) (st' := []) (M' := M15) rfl rfl trivial ?_
        refine hr_Gif h (fun _ h => ?_) (fun _ h => ?_)
        · refine hr_Fg h (fun hg17_0 h => ?_)
          refine hr_Fg h (fun hg17_1 h => ?_)
          refine hr_Grun mf_X11_allyOf lb_X11_allyOf_64 (P := hr_K 275 = 10 ∧ (hr_K 300 = 12 ∧ vp_in (x4 &&& ((jl 1 x6) ^^^ (-1))) (hr_N 300)) ∧ hr_K 275 = 10 ∧ (hr_K 300 = 12 ∧ vp_in x2 (hr_N 300)) ∧ True) (pc' := if (1 + (M15.1 300 (x4 &&& ((jl 1 x6) ^^^ (-1))).toNatClampNeg)) = (M15.1 300 x2.toNatClampNeg) then 89 else 94) (ls' := [some (.ref 275), some (.int a1), some (.int x2), some (.int x3), some (.int x4), some (.int x5), some (.int x6)]) (st' := []) (M' := M15) rfl rfl ⟨K_275, ⟨K_300, (inB_N N_300 hg17_0)⟩, K_275, ⟨K_300, (inB_N N_300 hg17_1)⟩, trivial⟩ ?_
          refine hr_Gif h (fun _ h => ?_) (fun _ h => ?_)
          · refine hr_Grun mf_X11_allyOf lb_X11_allyOf_89 (P := True) (pc' := 96) (ls' := [some (.ref 275), some (.int a1), some (.int x2), some (.int x3), some (.int x4), some (.int x5), some (.int x6)]) (st' := [.int x6]) (M' := M15) rfl rfl trivial ?_
            refine hr_Grun mf_X11_allyOf lb_X11_allyOf_96 (P := True) (pc' := 38) (ls' := [some (.ref 275), some (.int a1), some (.int x2), some (.int x3), some (.int x4), some (.int x6), some (.int (x6 + (-1)))]) (st' := []) (M' := M15) rfl rfl trivial ?_
            exact ih x2 x3 x4 x6 (x6 + (-1)) M15 _ h
          · refine hr_Grun mf_X11_allyOf lb_X11_allyOf_94 (P := True) (pc' := 96) (ls' := [some (.ref 275), some (.int a1), some (.int x2), some (.int x3), some (.int x4), some (.int x5), some (.int x6)]) (st' := [.int x5]) (M' := M15) rfl rfl trivial ?_
            refine hr_Grun mf_X11_allyOf lb_X11_allyOf_96 (P := True) (pc' := 38) (ls' := [some (.ref 275), some (.int a1), some (.int x2), some (.int x3), some (.int x4), some (.int x5), some (.int (x6 + (-1)))]) (st' := []) (M' := M15) rfl rfl trivial ?_
            exact ih x2 x3 x4 x5 (x6 + (-1)) M15 _ h
        · refine hr_Grun mf_X11_allyOf lb_X11_allyOf_94 (P := True) (pc' := 96) (ls' := [some (.ref 275), some (.int a1), some (.int x2), some (.int x3), some (.int x4), some (.int x5), some (.int x6)]) (st' := [.int x5]) (M' := M15) rfl rfl trivial ?_
          refine hr_Grun mf_X11_allyOf lb_X11_allyOf_96 (P := True) (pc' := 38) (ls' := [some (.ref 275), some (.int a1), some (.int x2), some (.int x3), some (.int x4), some (.int x5), some (.int (x6 + (-1)))]) (st' := []) (M' := M15) rfl rfl trivial ?_
          exact ih x2 x3 x4 x5 (x6 + (-1)) M15 _ h
def f_X11_allyOf_9 (a1 : Int32) : Nat → Int32 → PM → Option (Int32 × PM)
  | 0, _, _ => none
  | f + 1, x2, M =>
    if x2 = 0 then
      some ((-1), M)
    else
      hr_bd (f_X11_leastOf x2 M) (fun v4 M4 =>
      f_X11_allyOf_38 a1 (fun x2 M => f_X11_allyOf_9 a1 f x2 M) FU x2 v4 (x2 &&& ((jl 1 v4) ^^^ (-1))) (-1) ((M4.1 275 25) - 1) M4)
theorem g_X11_allyOf_9 (a1 : Int32)  : ∀ (f : Nat) (x2 : Int32) (M : PM) (r : Int32 × PM), f_X11_allyOf_9 a1 f x2 M = some r → hr_G 270 9 [some (.ref 275), some (.int a1), some (.int x2), none, none, none, none] [] M (some (.int r.1), r.2) := by
  intro f
  induction f with
  | zero => intro x2 M r h; cases h
  | succ f ih =>
    intro x2 M r h
    rw [f_X11_allyOf_9.eq_2] at h
    refine hr_Grun mf_X11_allyOf lb_X11_allyOf_9 (P := True) (pc' := if x2 = 0 then 151 else 13) (ls' := [some (.ref 275), some (.int a1), some (.int x2), none, none, none, none]) (st' := []) (M' := M) rfl rfl trivial ?_
    refine hr_Gif h (fun _ h => ?_) (fun _ h => ?_)
    · refine hr_Grun mf_X11_allyOf lb_X11_allyOf_151 (P := True) (pc' := 152) (ls' := [some (.ref 275), some (.int a1), some (.int x2), none, none, none, none]) (st' := [.int (-1)]) (M' := M) rfl rfl trivial ?_
      cases h
      exact hr_Gret mf_X11_allyOf lb_X11_allyOf_152 rfl rfl trivial
    · refine hr_Grun mf_X11_allyOf lb_X11_allyOf_13 (P := True) (pc' := 14) (ls' := [some (.ref 275), some (.int a1), some (.int x2), none, none, none, none]) (st' := [.int x2]) (M' := M) rfl rfl trivial ?_
      refine hr_Fb h (fun v4 M4 e4 h => ?_)
      refine hr_Gcs mf_X11_allyOf mf_X11_leastOf lb_X11_allyOf_14 (as := [.int x2]) (rest := []) (st2 := [.int v4]) (v := some (.int v4)) (M1 := M4) rfl rfl rfl rfl rfl rfl (g_X11_leastOf x2 _ _ e4) rfl rfl ?_
      refine hr_Grun mf_X11_allyOf lb_X11_allyOf_17 (P := hr_K 275 = 10 ∧ True) (pc' := 38) (ls' := [some (.ref 275), some (.int a1), some (.int x2), some (.int v4), some (.int (x2 &&& ((jl 1 v4) ^^^ (-1)))), some (.int (-1)), some (.int ((M4.1 275 25) - 1))]) (st' := []) (M' := M4) rfl rfl ⟨K_275, trivial⟩ ?_
      exact g_X11_allyOf_38 a1 (fun x2 M => f_X11_allyOf_9 a1 f x2 M) (fun x2 M r h => ih x2 M r h) FU x2 v4 (x2 &&& ((jl 1 v4) ^^^ (-1))) (-1) ((M4.1 275 25) - 1) M4 _ h
def f_X11_allyOf (a1 : Int32) (M : PM) : Option (Int32 × PM) :=
  f_X11_allyOf_9 a1 FU ((jl 1 (M.1 275 25)) - 1) M
theorem g_X11_allyOf (a1 : Int32) : ∀ (M : PM) (r : Int32 × PM), f_X11_allyOf a1 M = some r → hr_G 270 0 [some (.ref 275), some (.int a1), none, none, none, none, none] [] M (some (.int r.1), r.2) := by
  intro M r h
  unfold f_X11_allyOf at h
  refine hr_Grun mf_X11_allyOf lb_X11_allyOf_0 (P := hr_K 275 = 10 ∧ True) (pc' := 9) (ls' := [some (.ref 275), some (.int a1), some (.int ((jl 1 (M.1 275 25)) - 1)), none, none, none, none]) (st' := []) (M' := M) rfl rfl ⟨K_275, trivial⟩ ?_
  exact g_X11_allyOf_9 a1 FU ((jl 1 (M.1 275 25)) - 1) M _ h
theorem mf_X11_flags : hr_mf 271 11 4 (some .int) 3 2 bk_X11_flags := ⟨rfl, rfl, rfl, rfl, rfl, rfl⟩
theorem lb_X11_flags_0 : bk_X11_flags.lookup 0 = some [(.aload_n 0, 1), (.iconst 0, 1), (.putfield 100, 3), (.aload_n 0, 1), (.iload_n 1, 1)] := rfl
theorem lb_X11_flags_7 : bk_X11_flags.lookup 7 = some [(.invokevirtual 326, 3)] := rfl
theorem lb_X11_flags_10 : bk_X11_flags.lookup 10 = some [(.ifCond .eq 16, 3)] := rfl
theorem lb_X11_flags_13 : bk_X11_flags.lookup 13 = some [(.iload_n 2, 1), (.iconst (-1), 1), (.if_icmp .eq 14, 3)] := rfl
theorem lb_X11_flags_18 : bk_X11_flags.lookup 18 = some [(.aload_n 0, 1), (.iload_n 2, 1)] := rfl
theorem lb_X11_flags_20 : bk_X11_flags.lookup 20 = some [(.invokevirtual 329, 3)] := rfl
theorem lb_X11_flags_23 : bk_X11_flags.lookup 23 = some [(.ifCond .ne 6, 3)] := rfl
theorem lb_X11_flags_26 : bk_X11_flags.lookup 26 = some [(.bipush (-2), 2)] := rfl
theorem lb_X11_flags_28 : bk_X11_flags.lookup 28 = some [(.ireturn, 1)] := rfl
theorem lb_X11_flags_29 : bk_X11_flags.lookup 29 = some [(.aload_n 0, 1)] := rfl
theorem lb_X11_flags_30 : bk_X11_flags.lookup 30 = some [(.invokevirtual 484, 3)] := rfl
theorem lb_X11_flags_33 : bk_X11_flags.lookup 33 = some [(.iload_n 2, 1), (.iconst (-1), 1), (.if_icmp .ne 19, 3)] := rfl
theorem lb_X11_flags_38 : bk_X11_flags.lookup 38 = some [(.aload_n 0, 1), (.getfield 84, 3), (.iconst 1, 1), (.aload_n 0, 1), (.getfield 299, 3), (.ishl, 1), (.iconst 1, 1), (.isub, 1), (.iaload, 1), (.goto 8, 3)] := rfl
theorem lb_X11_flags_54 : bk_X11_flags.lookup 54 = some [(.aload_n 0, 1), (.iload_n 2, 1)] := rfl
theorem lb_X11_flags_56 : bk_X11_flags.lookup 56 = some [(.invokevirtual 487, 3)] := rfl
theorem lb_X11_flags_59 : bk_X11_flags.lookup 59 = some [(.ireturn, 1)] := rfl
def f_X11_flags_29 (a1 : Int32) (a2 : Int32) (M : PM) : Option (Int32 × PM) :=
  hr_bd (f_X11_findCouples M) (fun v2 M2 =>
  if a2 = (-1) then
    if inB ((jl 1 (M2.1 275 25)) - 1) 1024 = true then 
    some ((M2.1 300 ((jl 1 (M2.1 275 25)) - 1).toNatClampNeg), M2) else none
  else
    hr_bd (f_X11_allyOf a2 M2) (fun v6 M6 =>
    some (v6, M6)))
theorem g_X11_flags_29 (a1 : Int32) (a2 : Int32)  : ∀ (M : PM) (r : Int32 × PM), f_X11_flags_29 a1 a2 M = some r → hr_G 271 29 [some (.ref 275), none, some (.int a2)] [] M (some (.int r.1), r.2) := by
  intro M r h
  unfold f_X11_flags_29 at h
  refine hr_Grun mf_X11_flags lb_X11_flags_29 (P := True) (pc' := 30) (ls' := [some (.ref 275), none, some (.int a2)]) (st' := [.ref 275]) (M' := M) rfl rfl trivial ?_
  refine hr_Fb h (fun v2 M2 e2 h => ?_)
  refine hr_Gcv mf_X11_flags mf_X11_findCouples lb_X11_flags_30 (b := 275) (as := []) (rest := []) (st2 := []) (v := none) (M1 := M2) rfl rfl rfl rfl rfl rfl K_275 (g_X11_findCouples  _ _ e2) rfl rfl ?_
  refine hr_Grun mf_X11_flags lb_X11_flags_33 (P := True) (pc' := if a2 = (-1) then 38 else 54) (ls' := [some (.ref 275), none, some (.int a2)]) (st' := []) (M' := M2) rfl rfl trivial ?_
  refine hr_Gif h (fun _ h => ?_) (fun _ h => ?_)
  · refine hr_Fg h (fun hg4_0 h => ?_)
    refine hr_Grun mf_X11_flags lb_X11_flags_38 (P := hr_K 275 = 10 ∧ hr_K 275 = 10 ∧ (hr_K 300 = 12 ∧ vp_in ((jl 1 (M2.1 275 25)) - 1) (hr_N 300)) ∧ True) (pc' := 59) (ls' := [some (.ref 275), none, some (.int a2)]) (st' := [.int (M2.1 300 ((jl 1 (M2.1 275 25)) - 1).toNatClampNeg)]) (M' := M2) rfl rfl ⟨K_275, K_275, ⟨K_300, (inB_N N_300 hg4_0)⟩, trivial⟩ ?_
    cases h
    exact hr_Gret mf_X11_flags lb_X11_flags_59 rfl rfl trivial
  · refine hr_Grun mf_X11_flags lb_X11_flags_54 (P := True) (pc' := 56) (ls' := [some (.ref 275), none, some (.int a2)]) (st' := [.int a2, .ref 275]) (M' := M2) rfl rfl trivial ?_
    refine hr_Fb h (fun v6 M6 e6 h => ?_)
    refine hr_Gcv mf_X11_flags mf_X11_allyOf lb_X11_flags_56 (b := 275) (as := [.int a2]) (rest := []) (st2 := [.int v6]) (v := some (.int v6)) (M1 := M6) rfl rfl rfl rfl rfl rfl K_275 (g_X11_allyOf a2 _ _ e6) rfl rfl ?_
    cases h
    exact hr_Gret mf_X11_flags lb_X11_flags_59 rfl rfl trivial
def f_X11_flags (a1 : Int32) (a2 : Int32) (M : PM) : Option (Int32 × PM) :=
  hr_bd (f_X11_hand a1 (hr_si M 275 0 0)) (fun v2 M2 =>
  if v2 = 0 then
    some ((-2), M2)
  else
    if a2 = (-1) then
      f_X11_flags_29 a1 a2 M2
    else
      hr_bd (f_X11_isHue a2 M2) (fun v7 M7 =>
      if v7 = 0 then
        some ((-2), M7)
      else
        f_X11_flags_29 a1 a2 M7))
theorem g_X11_flags (a1 : Int32) (a2 : Int32) : ∀ (M : PM) (r : Int32 × PM), f_X11_flags a1 a2 M = some r → hr_G 271 0 [some (.ref 275), some (.int a1), some (.int a2)] [] M (some (.int r.1), r.2) := by
  intro M r h
  unfold f_X11_flags at h
  refine hr_Grun mf_X11_flags lb_X11_flags_0 (P := (hr_K 275 = 10 ∧ 275 < hr_n) ∧ True) (pc' := 7) (ls' := [some (.ref 275), some (.int a1), some (.int a2)]) (st' := [.int a1, .ref 275]) (M' := hr_si M 275 0 0) rfl rfl ⟨⟨K_275, L_275⟩, trivial⟩ ?_
  refine hr_Fb h (fun v2 M2 e2 h => ?_)
  refine hr_Gcv mf_X11_flags mf_X11_hand lb_X11_flags_7 (b := 275) (as := [.int a1]) (rest := []) (st2 := [.int v2]) (v := some (.int v2)) (M1 := M2) rfl rfl rfl rfl rfl rfl K_275 (g_X11_hand a1 _ _ e2) rfl rfl ?_
  refine hr_Grun mf_X11_flags lb_X11_flags_10 (P := True) (pc' := if v2 = 0 then 26 else 13) (ls' := [some (.ref 275), some (.int a1), some (.int a2)]) (st' := []) (M' := M2) rfl rfl trivial ?_
  refine hr_Gif h (fun _ h => ?_) (fun _ h => ?_)
  · refine hr_Grun mf_X11_flags lb_X11_flags_26 (P := True) (pc' := 28) (ls' := [some (.ref 275), some (.int a1), some (.int a2)]) (st' := [.int (-2)]) (M' := M2) rfl rfl trivial ?_
    cases h
    exact hr_Gret mf_X11_flags lb_X11_flags_28 rfl rfl trivial
  · refine hr_Grun mf_X11_flags lb_X11_flags_13 (P := True) (pc' := if a2 = (-1) then 29 else 18) (ls' := [some (.ref 275), some (.int a1), some (.int a2)]) (st' := []) (M' := M2) rfl rfl trivial ?_
    refine hr_Gif h (fun _ h => ?_) (fun _ h => ?_)
    · refine hr_Gle (ls := [some (.ref 275), none, some (.int a2)]) (hr_le_s (hr_le_n (hr_le_s hr_le_0))) ?_
      exact g_X11_flags_29 a1 a2 M2 _ h
    · refine hr_Grun mf_X11_flags lb_X11_flags_18 (P := True) (pc' := 20) (ls' := [some (.ref 275), some (.int a1), some (.int a2)]) (st' := [.int a2, .ref 275]) (M' := M2) rfl rfl trivial ?_
      refine hr_Fb h (fun v7 M7 e7 h => ?_)
      refine hr_Gcv mf_X11_flags mf_X11_isHue lb_X11_flags_20 (b := 275) (as := [.int a2]) (rest := []) (st2 := [.int v7]) (v := some (.int v7)) (M1 := M7) rfl rfl rfl rfl rfl rfl K_275 (g_X11_isHue a2 _ _ e7) rfl rfl ?_
      refine hr_Grun mf_X11_flags lb_X11_flags_23 (P := True) (pc' := if v7 = 0 then 26 else 29) (ls' := [some (.ref 275), some (.int a1), some (.int a2)]) (st' := []) (M' := M7) rfl rfl trivial ?_
      refine hr_Gif h (fun _ h => ?_) (fun _ h => ?_)
      · refine hr_Grun mf_X11_flags lb_X11_flags_26 (P := True) (pc' := 28) (ls' := [some (.ref 275), some (.int a1), some (.int a2)]) (st' := [.int (-2)]) (M' := M7) rfl rfl trivial ?_
        cases h
        exact hr_Gret mf_X11_flags lb_X11_flags_28 rfl rfl trivial
      · refine hr_Gle (ls := [some (.ref 275), none, some (.int a2)]) (hr_le_s (hr_le_n (hr_le_s hr_le_0))) ?_
        exact g_X11_flags_29 a1 a2 M7 _ h
theorem mf_X11_gainOf : hr_mf 272 11 1 (some .int) 4 3 bk_X11_gainOf := ⟨rfl, rfl, rfl, rfl, rfl, rfl⟩
theorem lb_X11_gainOf_0 : bk_X11_gainOf.lookup 0 = some [(.aload_n 0, 1), (.bipush 50, 2), (.bipush 10, 2), (.iload_n 1, 1), (.imul, 1), (.iadd, 1), (.iload_n 2, 1), (.iadd, 1)] := rfl
theorem lb_X11_gainOf_10 : bk_X11_gainOf.lookup 10 = some [(.invokevirtual 281, 3)] := rfl
theorem lb_X11_gainOf_13 : bk_X11_gainOf.lookup 13 = some [(.iconst 3, 1), (.aload_n 0, 1), (.getfield 47, 3), (.bipush 10, 2), (.iload_n 2, 1), (.imul, 1), (.iload_n 3, 1), (.iadd, 1), (.iaload, 1), (.imul, 1), (.isub, 1)] := rfl
theorem lb_X11_gainOf_27 : bk_X11_gainOf.lookup 27 = some [(.ireturn, 1)] := rfl
def f_X11_gainOf (a1 : Int32) (a2 : Int32) (a3 : Int32) (M : PM) : Option (Int32 × PM) :=
  hr_bd (f_X11_of ((50 + (10 * a1)) + a2) M) (fun v2 M2 =>
  if inB ((10 * a2) + a3) 100 = true then 
  some ((v2 - (3 * (M2.1 288 ((10 * a2) + a3).toNatClampNeg))), M2) else none)
theorem g_X11_gainOf (a1 : Int32) (a2 : Int32) (a3 : Int32) : ∀ (M : PM) (r : Int32 × PM), f_X11_gainOf a1 a2 a3 M = some r → hr_G 272 0 [some (.ref 275), some (.int a1), some (.int a2), some (.int a3)] [] M (some (.int r.1), r.2) := by
  intro M r h
  unfold f_X11_gainOf at h
  refine hr_Grun mf_X11_gainOf lb_X11_gainOf_0 (P := True) (pc' := 10) (ls' := [some (.ref 275), some (.int a1), some (.int a2), some (.int a3)]) (st' := [.int ((50 + (10 * a1)) + a2), .ref 275]) (M' := M) rfl rfl trivial ?_
  refine hr_Fb h (fun v2 M2 e2 h => ?_)
  refine hr_Gcv mf_X11_gainOf mf_X11_of lb_X11_gainOf_10 (b := 275) (as := [.int ((50 + (10 * a1)) + a2)]) (rest := []) (st2 := [.int v2]) (v := some (.int v2)) (M1 := M2) rfl rfl rfl rfl rfl rfl K_275 (g_X11_of ((50 + (10 * a1)) + a2) _ _ e2) rfl rfl ?_
  refine hr_Fg h (fun hg3_0 h => ?_)
  refine hr_Grun mf_X11_gainOf lb_X11_gainOf_13 (P := hr_K 275 = 10 ∧ (hr_K 288 = 12 ∧ vp_in ((10 * a2) + a3) (hr_N 288)) ∧ True) (pc' := 27) (ls' := [some (.ref 275), some (.int a1), some (.int a2), some (.int a3)]) (st' := [.int (v2 - (3 * (M2.1 288 ((10 * a2) + a3).toNatClampNeg)))]) (M' := M2) rfl rfl ⟨K_275, ⟨K_288, (inB_N N_288 hg3_0)⟩, trivial⟩ ?_
  cases h
  exact hr_Gret mf_X11_gainOf lb_X11_gainOf_27 rfl rfl trivial
theorem mf_X11_isCouple : hr_mf 273 11 2 (some .boolean) 2 1 bk_X11_isCouple := ⟨rfl, rfl, rfl, rfl, rfl, rfl⟩
theorem lb_X11_isCouple_0 : bk_X11_isCouple.lookup 0 = some [(.iload_n 1, 1), (.iconst 0, 1), (.bipush 99, 2)] := rfl
theorem lb_X11_isCouple_4 : bk_X11_isCouple.lookup 4 = some [(.invokestatic 112, 3)] := rfl
theorem lb_X11_isCouple_7 : bk_X11_isCouple.lookup 7 = some [(.ifCond .eq 29, 3)] := rfl
theorem lb_X11_isCouple_10 : bk_X11_isCouple.lookup 10 = some [(.aload_n 0, 1), (.iload_n 1, 1), (.bipush 10, 2), (.idiv, 1)] := rfl
theorem lb_X11_isCouple_15 : bk_X11_isCouple.lookup 15 = some [(.invokevirtual 329, 3)] := rfl
theorem lb_X11_isCouple_18 : bk_X11_isCouple.lookup 18 = some [(.ifCond .eq 18, 3)] := rfl
theorem lb_X11_isCouple_21 : bk_X11_isCouple.lookup 21 = some [(.aload_n 0, 1), (.iload_n 1, 1), (.bipush 10, 2), (.irem, 1)] := rfl
theorem lb_X11_isCouple_26 : bk_X11_isCouple.lookup 26 = some [(.invokevirtual 329, 3)] := rfl
theorem lb_X11_isCouple_29 : bk_X11_isCouple.lookup 29 = some [(.ifCond .eq 7, 3)] := rfl
theorem lb_X11_isCouple_32 : bk_X11_isCouple.lookup 32 = some [(.iconst 1, 1), (.goto 4, 3)] := rfl
theorem lb_X11_isCouple_36 : bk_X11_isCouple.lookup 36 = some [(.iconst 0, 1)] := rfl
theorem lb_X11_isCouple_37 : bk_X11_isCouple.lookup 37 = some [(.ireturn, 1)] := rfl
def f_X11_isCouple (a1 : Int32) (M : PM) : Option (Int32 × PM) :=
  hr_bd (f_X11_in a1 0 99 M) (fun v2 M2 =>
  if v2 = 0 then
    some (0, M2)
  else
    hr_bd (f_X11_isHue (a1 / 10) M2) (fun v6 M6 =>
    if v6 = 0 then
      some (0, M6)
    else
      hr_bd (f_X11_isHue (jr a1 10) M6) (fun v10 M10 =>
      if v10 = 0 then
        some (0, M10)
      else
        some (1, M10))))
theorem g_X11_isCouple (a1 : Int32) : ∀ (M : PM) (r : Int32 × PM), f_X11_isCouple a1 M = some r → hr_G 273 0 [some (.ref 275), some (.int a1)] [] M (some (.int r.1), r.2) := by
  intro M r h
  unfold f_X11_isCouple at h
  refine hr_Grun mf_X11_isCouple lb_X11_isCouple_0 (P := True) (pc' := 4) (ls' := [some (.ref 275), some (.int a1)]) (st' := [.int 99, .int 0, .int a1]) (M' := M) rfl rfl trivial ?_
  refine hr_Fb h (fun v2 M2 e2 h => ?_)
  refine hr_Gcs mf_X11_isCouple mf_X11_in lb_X11_isCouple_4 (as := [.int a1, .int 0, .int 99]) (rest := []) (st2 := [.int v2]) (v := some (.int v2)) (M1 := M2) rfl rfl rfl rfl rfl rfl (g_X11_in a1 0 99 _ _ e2) rfl rfl ?_
  refine hr_Grun mf_X11_isCouple lb_X11_isCouple_7 (P := True) (pc' := if v2 = 0 then 36 else 10) (ls' := [some (.ref 275), some (.int a1)]) (st' := []) (M' := M2) rfl rfl trivial ?_
  refine hr_Gif h (fun _ h => ?_) (fun _ h => ?_)
  · refine hr_Grun mf_X11_isCouple lb_X11_isCouple_36 (P := True) (pc' := 37) (ls' := [some (.ref 275), some (.int a1)]) (st' := [.int 0]) (M' := M2) rfl rfl trivial ?_
    cases h
    exact hr_Gret mf_X11_isCouple lb_X11_isCouple_37 rfl rfl (Or.inl rfl)
  · refine hr_Grun mf_X11_isCouple lb_X11_isCouple_10 (P := ¬ (10 : Int32) = 0 ∧ True) (pc' := 15) (ls' := [some (.ref 275), some (.int a1)]) (st' := [.int (a1 / 10), .ref 275]) (M' := M2) rfl rfl ⟨(by decide), trivial⟩ ?_
    refine hr_Fb h (fun v6 M6 e6 h => ?_)
    refine hr_Gcv mf_X11_isCouple mf_X11_isHue lb_X11_isCouple_15 (b := 275) (as := [.int (a1 / 10)]) (rest := []) (st2 := [.int v6]) (v := some (.int v6)) (M1 := M6) rfl rfl rfl rfl rfl rfl K_275 (g_X11_isHue (a1 / 10) _ _ e6) rfl rfl ?_
    refine hr_Grun mf_X11_isCouple lb_X11_isCouple_18 (P := True) (pc' := if v6 = 0 then 36 else 21) (ls' := [some (.ref 275), some (.int a1)]) (st' := []) (M' := M6) rfl rfl trivial ?_
    refine hr_Gif h (fun _ h => ?_) (fun _ h => ?_)
    · refine hr_Grun mf_X11_isCouple lb_X11_isCouple_36 (P := True) (pc' := 37) (ls' := [some (.ref 275), some (.int a1)]) (st' := [.int 0]) (M' := M6) rfl rfl trivial ?_
      cases h
      exact hr_Gret mf_X11_isCouple lb_X11_isCouple_37 rfl rfl (Or.inl rfl)
    · refine hr_Grun mf_X11_isCouple lb_X11_isCouple_21 (P := ¬ (10 : Int32) = 0 ∧ True) (pc' := 26) (ls' := [some (.ref 275), some (.int a1)]) (st' := [.int (jr a1 10), .ref 275]) (M' := M6) rfl rfl ⟨(by decide), trivial⟩ ?_
      refine hr_Fb h (fun v10 M10 e10 h => ?_)
      refine hr_Gcv mf_X11_isCouple mf_X11_isHue lb_X11_isCouple_26 (b := 275) (as := [.int (jr a1 10)]) (rest := []) (st2 := [.int v10]) (v := some (.int v10)) (M1 := M10) rfl rfl rfl rfl rfl rfl K_275 (g_X11_isHue (jr a1 10) _ _ e10) rfl rfl ?_
      refine hr_Grun mf_X11_isCouple lb_X11_isCouple_29 (P := True) (pc' := if v10 = 0 then 36 else 32) (ls' := [some (.ref 275), some (.int a1)]) (st' := []) (M' := M10) rfl rfl trivial ?_
      refine hr_Gif h (fun _ h => ?_) (fun _ h => ?_)
      · refine hr_Grun mf_X11_isCouple lb_X11_isCouple_36 (P := True) (pc' := 37) (ls' := [some (.ref 275), some (.int a1)]) (st' := [.int 0]) (M' := M10) rfl rfl trivial ?_
        cases h
        exact hr_Gret mf_X11_isCouple lb_X11_isCouple_37 rfl rfl (Or.inl rfl)
      · refine hr_Grun mf_X11_isCouple lb_X11_isCouple_32 (P := True) (pc' := 37) (ls' := [some (.ref 275), some (.int a1)]) (st' := [.int 1]) (M' := M10) rfl rfl trivial ?_
        cases h
        exact hr_Gret mf_X11_isCouple lb_X11_isCouple_37 rfl rfl (Or.inr rfl)
