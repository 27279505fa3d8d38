theorem mf_X11_clash : hr_mf 209 11 0 (some .boolean) 3 2 bk_X11_clash := ⟨rfl, rfl, rfl, rfl, rfl, rfl⟩
theorem lb_X11_clash_0 : bk_X11_clash.lookup 0 = some [(.aload_n 0, 1), (.getfield 47, 3), (.bipush 10, 2), (.iload_n 1, 1), (.imul, 1), (.iload_n 2, 1), (.iadd, 1), (.iaload, 1), (.ifCond .le 7, 3)] := rfl
theorem lb_X11_clash_14 : bk_X11_clash.lookup 14 = some [(.iconst 1, 1), (.goto 4, 3)] := rfl
theorem lb_X11_clash_18 : bk_X11_clash.lookup 18 = some [(.iconst 0, 1)] := rfl
theorem lb_X11_clash_19 : bk_X11_clash.lookup 19 = some [(.ireturn, 1)] := rfl
def f_X11_clash (a1 : Int32) (a2 : Int32) (M : PM) : Option (Int32 × PM) :=
  if inB ((10 * a1) + a2) 100 = true then if (M.1 288 ((10 * a1) + a2).toNatClampNeg) ≤ 0 then
    some (0, M)
  else
    some (1, M)
  else none
theorem g_X11_clash (a1 : Int32) (a2 : Int32) : ∀ (M : PM) (r : Int32 × PM), f_X11_clash a1 a2 M = some r → hr_G 209 0 [some (.ref 275), some (.int a1), some (.int a2)] [] M (some (.int r.1), r.2) := by
  intro M r h
  unfold f_X11_clash at h
  refine hr_Fg h (fun hg1_0 h => ?_)
  refine hr_Grun mf_X11_clash lb_X11_clash_0 (P := hr_K 275 = 10 ∧ (hr_K 288 = 12 ∧ vp_in ((10 * a1) + a2) (hr_N 288)) ∧ True) (pc' := if (M.1 288 ((10 * a1) + a2).toNatClampNeg) ≤ 0 then 18 else 14) (ls' := [some (.ref 275), some (.int a1), some (.int a2)]) (st' := []) (M' := M) rfl rfl ⟨K_275, ⟨K_288, (inB_N N_288 hg1_0)⟩, trivial⟩ ?_
  refine hr_Gif h (fun _ h => ?_) (fun _ h => ?_)
  · refine hr_Grun mf_X11_clash lb_X11_clash_18 (P := True) (pc' := 19) (ls' := [some (.ref 275), some (.int a1), some (.int a2)]) (st' := [.int 0]) (M' := M) rfl rfl trivial ?_
    cases h
    exact hr_Gret mf_X11_clash lb_X11_clash_19 rfl rfl (Or.inl rfl)
  · refine hr_Grun mf_X11_clash lb_X11_clash_14 (P := True) (pc' := 19) (ls' := [some (.ref 275), some (.int a1), some (.int a2)]) (st' := [.int 1]) (M' := M) rfl rfl trivial ?_
    cases h
    exact hr_Gret mf_X11_clash lb_X11_clash_19 rfl rfl (Or.inr rfl)
theorem mf_X11_clashes : hr_mf 212 11 1 (some .int) 4 1 bk_X11_clashes := ⟨rfl, rfl, rfl, rfl, rfl, rfl⟩
theorem lb_X11_clashes_0 : bk_X11_clashes.lookup 0 = some [(.iconst 0, 1), (.istore_n 2, 1), (.iconst 0, 1), (.istore_n 3, 1)] := rfl
theorem lb_X11_clashes_4 : bk_X11_clashes.lookup 4 = some [(.iload_n 3, 1), (.aload_n 0, 1), (.getfield 299, 3), (.if_icmp .ge 26, 3)] := rfl
theorem lb_X11_clashes_12 : bk_X11_clashes.lookup 12 = some [(.iload_n 2, 1), (.aload_n 0, 1), (.iload_n 1, 1), (.iload_n 3, 1)] := rfl
theorem lb_X11_clashes_16 : bk_X11_clashes.lookup 16 = some [(.invokevirtual 314, 3)] := rfl
theorem lb_X11_clashes_19 : bk_X11_clashes.lookup 19 = some [(.ifCond .eq 7, 3)] := rfl
theorem lb_X11_clashes_22 : bk_X11_clashes.lookup 22 = some [(.iconst 1, 1), (.goto 4, 3)] := rfl
theorem lb_X11_clashes_26 : bk_X11_clashes.lookup 26 = some [(.iconst 0, 1)] := rfl
theorem lb_X11_clashes_27 : bk_X11_clashes.lookup 27 = some [(.iadd, 1), (.istore_n 2, 1), (.iinc 3 1, 3), (.goto (-28), 3)] := rfl
theorem lb_X11_clashes_35 : bk_X11_clashes.lookup 35 = some [(.iload_n 2, 1)] := rfl
theorem lb_X11_clashes_36 : bk_X11_clashes.lookup 36 = some [(.ireturn, 1)] := rfl
def f_X11_clashes_4 (a1 : Int32) : Nat → Int32 → Int32 → PM → Option (Int32 × PM)
  | 0, _, _, _ => none
  | f + 1, x2, x3, M =>
    if (M.1 275 25) ≤ x3 then
      some (x2, M)
    else
      hr_bd (f_X11_clash a1 x3 M) (fun v4 M4 =>
      if v4 = 0 then
        f_X11_clashes_4 a1 f (x2 + 0) (x3 + 1) M4
      else
        f_X11_clashes_4 a1 f (x2 + 1) (x3 + 1) M4)
theorem g_X11_clashes_4 (a1 : Int32)  : ∀ (f : Nat) (x2 : Int32) (x3 : Int32) (M : PM) (r : Int32 × PM), f_X11_clashes_4 a1 f x2 x3 M = some r → hr_G 212 4 [some (.ref 275), some (.int a1), some (.int x2), some (.int x3)] [] M (some (.int r.1), r.2) := by
  intro f
  induction f with
  | zero => intro x2 x3 M r h; cases h
  | succ f ih =>
    intro x2 x3 M r h
    rw [f_X11_clashes_4.eq_2] at h
    refine hr_Grun mf_X11_clashes lb_X11_clashes_4 (P := hr_K 275 = 10 ∧ True) (pc' := if (M.1 275 25) ≤ x3 then 35 else 12) (ls' := [some (.ref 275), some (.int a1), some (.int x2), some (.int x3)]) (st' := []) (M' := M) rfl rfl ⟨K_275, trivial⟩ ?_
    refine hr_Gif h (fun _ h => ?_) (fun _ h => ?_)
    · refine hr_Grun mf_X11_clashes lb_X11_clashes_35 (P := True) (pc' := 36) (ls' := [some (.ref 275), some (.int a1), some (.int x2), some (.int x3)]) (st' := [.int x2]) (M' := M) rfl rfl trivial ?_
      cases h
      exact hr_Gret mf_X11_clashes lb_X11_clashes_36 rfl rfl trivial
    · refine hr_Grun mf_X11_clashes lb_X11_clashes_12 (P := True) (pc' := 16) (ls' := [some (.ref 275), some (.int a1), some (.int x2), some (.int x3)]) (st' := [.int x3, .int a1, .ref 275, .int x2]) (M' := M) rfl rfl trivial ?_
      refine hr_Fb h (fun v4 M4 e4 h => ?_)
      refine hr_Gcv mf_X11_clashes mf_X11_clash lb_X11_clashes_16 (b := 275) (as := [.int a1, .int x3]) (rest := [.int x2]) (st2 := [.int v4, .int x2]) (v := some (.int v4)) (M1 := M4) rfl rfl rfl rfl rfl rfl K_275 (g_X11_clash a1 x3 _ _ e4) rfl rfl ?_
      refine hr_Grun mf_X11_clashes lb_X11_clashes_19 (P := True) (pc' := if v4 = 0 then 26 else 22) (ls' := [some (.ref 275), some (.int a1), some (.int x2), some (.int x3)]) (st' := [.int x2]) (M' := M4) rfl rfl trivial ?_
      refine hr_Gif h (fun _ h => ?_) (fun _ h => ?_)
      · refine hr_Grun mf_X11_clashes lb_X11_clashes_26 (P := True) (pc' := 27) (ls' := [some (.ref 275), some (.int a1), some (.int x2), some (.int x3)]) (st' := [.int 0, .int x2]) (M' := M4) rfl rfl trivial ?_
        refine hr_Grun mf_X11_clashes lb_X11_clashes_27 (P := True) (pc' := 4) (ls' := [some (.ref 275), some (.int a1), some (.int (x2 + 0)), some (.int (x3 + 1))]) (st' := []) (M' := M4) rfl rfl trivial ?_
        exact ih (x2 + 0) (x3 + 1) M4 _ h
      · refine hr_Grun mf_X11_clashes lb_X11_clashes_22 (P := True) (pc' := 27) (ls' := [some (.ref 275), some (.int a1), some (.int x2), some (.int x3)]) (st' := [.int 1, .int x2]) (M' := M4) rfl rfl trivial ?_
        refine hr_Grun mf_X11_clashes lb_X11_clashes_27 (P := True) (pc' := 4) (ls' := [some (.ref 275), some (.int a1), some (.int (x2 + 1)), some (.int (x3 + 1))]) (st' := []) (M' := M4) rfl rfl trivial ?_
        exact ih (x2 + 1) (x3 + 1) M4 _ h
def f_X11_clashes (a1 : Int32) (M : PM) : Option (Int32 × PM) :=
  f_X11_clashes_4 a1 FU 0 0 M
theorem g_X11_clashes (a1 : Int32) : ∀ (M : PM) (r : Int32 × PM), f_X11_clashes a1 M = some r → hr_G 212 0 [some (.ref 275), some (.int a1), none, none] [] M (some (.int r.1), r.2) := by
  intro M r h
  unfold f_X11_clashes at h
  refine hr_Grun mf_X11_clashes lb_X11_clashes_0 (P := True) (pc' := 4) (ls' := [some (.ref 275), some (.int a1), some (.int 0), some (.int 0)]) (st' := []) (M' := M) rfl rfl trivial ?_
  exact g_X11_clashes_4 a1 FU 0 0 M _ h
theorem mf_X11_meek : hr_mf 213 11 2 (some .int) 3 0 bk_X11_meek := ⟨rfl, rfl, rfl, rfl, rfl, rfl⟩
theorem lb_X11_meek_0 : bk_X11_meek.lookup 0 = some [(.iconst 0, 1), (.istore_n 1, 1), (.iconst 0, 1), (.istore_n 2, 1)] := rfl
theorem lb_X11_meek_4 : bk_X11_meek.lookup 4 = some [(.iload_n 2, 1), (.aload_n 0, 1), (.getfield 299, 3), (.if_icmp .ge 27, 3)] := rfl
theorem lb_X11_meek_12 : bk_X11_meek.lookup 12 = some [(.iload_n 1, 1), (.aload_n 0, 1), (.iload_n 2, 1)] := rfl
theorem lb_X11_meek_15 : bk_X11_meek.lookup 15 = some [(.invokevirtual 317, 3)] := rfl
theorem lb_X11_meek_18 : bk_X11_meek.lookup 18 = some [(.ifCond .ne 9, 3)] := rfl
theorem lb_X11_meek_21 : bk_X11_meek.lookup 21 = some [(.iconst 1, 1), (.iload_n 2, 1), (.ishl, 1), (.goto 4, 3)] := rfl
theorem lb_X11_meek_27 : bk_X11_meek.lookup 27 = some [(.iconst 0, 1)] := rfl
theorem lb_X11_meek_28 : bk_X11_meek.lookup 28 = some [(.ior, 1), (.istore_n 1, 1), (.iinc 2 1, 3), (.goto (-29), 3)] := rfl
theorem lb_X11_meek_36 : bk_X11_meek.lookup 36 = some [(.iload_n 1, 1)] := rfl
theorem lb_X11_meek_37 : bk_X11_meek.lookup 37 = some [(.ireturn, 1)] := rfl
def f_X11_meek_4  : Nat → Int32 → Int32 → PM → Option (Int32 × PM)
  | 0, _, _, _ => none
  | f + 1, x1, x2, M =>
    if (M.1 275 25) ≤ x2 then
      some (x1, M)
    else
      hr_bd (f_X11_clashes x2 M) (fun v4 M4 =>
      if v4 = 0 then
        f_X11_meek_4 f (x1 ||| (jl 1 x2)) (x2 + 1) M4
      else
        f_X11_meek_4 f (x1 ||| 0) (x2 + 1) M4)
theorem g_X11_meek_4   : ∀ (f : Nat) (x1 : Int32) (x2 : Int32) (M : PM) (r : Int32 × PM), f_X11_meek_4 f x1 x2 M = some r → hr_G 213 4 [some (.ref 275), some (.int x1), some (.int x2)] [] M (some (.int r.1), r.2) := by
  intro f
  induction f with
  | zero => intro x1 x2 M r h; cases h
  | succ f ih =>
    intro x1 x2 M r h
    rw [f_X11_meek_4.eq_2] at h
    refine hr_Grun mf_X11_meek lb_X11_meek_4 (P := hr_K 275 = 10 ∧ True) (pc' := if (M.1 275 25) ≤ x2 then 36 else 12) (ls' := [some (.ref 275), some (.int x1), some (.int x2)]) (st' := []) (M' := M) rfl rfl ⟨K_275, trivial⟩ ?_
    refine hr_Gif h (fun _ h => ?_) (fun _ h => ?_)
    · refine hr_Grun mf_X11_meek lb_X11_meek_36 (P := True) (pc' := 37) (ls' := [some (.ref 275), some (.int x1), some (.int x2)]) (st' := [.int x1]) (M' := M) rfl rfl trivial ?_
      cases h
      exact hr_Gret mf_X11_meek lb_X11_meek_37 rfl rfl trivial
    · refine hr_Grun mf_X11_meek lb_X11_meek_12 (P := True) (pc' := 15) (ls' := [some (.ref 275), some (.int x1), some (.int x2)]) (st' := [.int x2, .ref 275, .int x1]) (M' := M) rfl rfl trivial ?_
      refine hr_Fb h (fun v4 M4 e4 h => ?_)
      refine hr_Gcv mf_X11_meek mf_X11_clashes lb_X11_meek_15 (b := 275) (as := [.int x2]) (rest := [.int x1]) (st2 := [.int v4, .int x1]) (v := some (.int v4)) (M1 := M4) rfl rfl rfl rfl rfl rfl K_275 (g_X11_clashes x2 _ _ e4) rfl rfl ?_
      refine hr_Grun mf_X11_meek lb_X11_meek_18 (P := True) (pc' := if v4 = 0 then 21 else 27) (ls' := [some (.ref 275), some (.int x1), some (.int x2)]) (st' := [.int x1]) (M' := M4) rfl rfl trivial ?_
      refine hr_Gif h (fun _ h => ?_) (fun _ h => ?_)
      · refine hr_Grun mf_X11_meek lb_X11_meek_21 (P := True) (pc' := 28) (ls' := [some (.ref 275), some (.int x1), some (.int x2)]) (st' := [.int (jl 1 x2), .int x1]) (M' := M4) rfl rfl trivial ?_
        refine hr_Grun mf_X11_meek lb_X11_meek_28 (P := True) (pc' := 4) (ls' := [some (.ref 275), some (.int (x1 ||| (jl 1 x2))), some (.int (x2 + 1))]) (st' := []) (M' := M4) rfl rfl trivial ?_
        exact ih (x1 ||| (jl 1 x2)) (x2 + 1) M4 _ h
      · refine hr_Grun mf_X11_meek lb_X11_meek_27 (P := True) (pc' := 28) (ls' := [some (.ref 275), some (.int x1), some (.int x2)]) (st' := [.int 0, .int x1]) (M' := M4) rfl rfl trivial ?_
        refine hr_Grun mf_X11_meek lb_X11_meek_28 (P := True) (pc' := 4) (ls' := [some (.ref 275), some (.int (x1 ||| 0)), some (.int (x2 + 1))]) (st' := []) (M' := M4) rfl rfl trivial ?_
        exact ih (x1 ||| 0) (x2 + 1) M4 _ h
def f_X11_meek (M : PM) : Option (Int32 × PM) :=
  f_X11_meek_4 FU 0 0 M
theorem g_X11_meek  : ∀ (M : PM) (r : Int32 × PM), f_X11_meek M = some r → hr_G 213 0 [some (.ref 275), none, none] [] M (some (.int r.1), r.2) := by
  intro M r h
  unfold f_X11_meek at h
  refine hr_Grun mf_X11_meek lb_X11_meek_0 (P := True) (pc' := 4) (ls' := [some (.ref 275), some (.int 0), some (.int 0)]) (st' := []) (M' := M) rfl rfl trivial ?_
  exact g_X11_meek_4 FU 0 0 M _ h
theorem mf_X11_see : hr_mf 174 11 0 (some .int) 1 0 bk_X11_see := ⟨rfl, rfl, rfl, rfl, rfl, rfl⟩
theorem lb_X11_see_0 : bk_X11_see.lookup 0 = some [(.aload_n 0, 1), (.getfield 120, 3), (.aload_n 0, 1), (.getfield 123, 3), (.if_icmp .ge 19, 3)] := rfl
theorem lb_X11_see_11 : bk_X11_see.lookup 11 = some [(.aload_n 0, 1), (.getfield 7, 3), (.aload_n 0, 1), (.getfield 120, 3), (.baload, 1), (.sipush 255, 3), (.iand, 1), (.goto 4, 3)] := rfl
theorem lb_X11_see_27 : bk_X11_see.lookup 27 = some [(.iconst (-1), 1)] := rfl
theorem lb_X11_see_28 : bk_X11_see.lookup 28 = some [(.ireturn, 1)] := rfl
def f_X11_see (M : PM) : Option (Int32 × PM) :=
  if (M.1 275 12) ≤ (M.1 275 11) then
    some ((-1), M)
  else
    if inB (M.1 275 11) 2400 = true then 
    some (((M.1 276 (M.1 275 11).toNatClampNeg) &&& 255), M) else none
theorem g_X11_see  : ∀ (M : PM) (r : Int32 × PM), f_X11_see M = some r → hr_G 174 0 [some (.ref 275)] [] M (some (.int r.1), r.2) := by
  intro M r h
  unfold f_X11_see at h
  refine hr_Grun mf_X11_see lb_X11_see_0 (P := hr_K 275 = 10 ∧ hr_K 275 = 10 ∧ True) (pc' := if (M.1 275 12) ≤ (M.1 275 11) then 27 else 11) (ls' := [some (.ref 275)]) (st' := []) (M' := M) rfl rfl ⟨K_275, K_275, trivial⟩ ?_
  refine hr_Gif h (fun _ h => ?_) (fun _ h => ?_)
  · refine hr_Grun mf_X11_see lb_X11_see_27 (P := True) (pc' := 28) (ls' := [some (.ref 275)]) (st' := [.int (-1)]) (M' := M) rfl rfl trivial ?_
    cases h
    exact hr_Gret mf_X11_see lb_X11_see_28 rfl rfl trivial
  · refine hr_Fg h (fun hg3_0 h => ?_)
    refine hr_Grun mf_X11_see lb_X11_see_11 (P := hr_K 275 = 10 ∧ hr_K 275 = 10 ∧ ((hr_K 276 = 11 ∨ hr_K 276 = 14) ∧ vp_in (M.1 275 11) (hr_N 276)) ∧ True) (pc' := 28) (ls' := [some (.ref 275)]) (st' := [.int ((M.1 276 (M.1 275 11).toNatClampNeg) &&& 255)]) (M' := M) rfl rfl ⟨K_275, K_275, ⟨Or.inl K_276, (inB_N N_276 hg3_0)⟩, trivial⟩ ?_
    cases h
    exact hr_Gret mf_X11_see lb_X11_see_28 rfl rfl trivial
theorem mf_X11_in : hr_mf 162 11 0 (some .boolean) 3 3 bk_X11_in := ⟨rfl, rfl, rfl, rfl, rfl, rfl⟩
theorem lb_X11_in_0 : bk_X11_in.lookup 0 = some [(.iload_n 0, 1), (.iload_n 1, 1), (.if_icmp .lt 12, 3)] := rfl
theorem lb_X11_in_5 : bk_X11_in.lookup 5 = some [(.iload_n 0, 1), (.iload_n 2, 1), (.if_icmp .gt 7, 3)] := rfl
theorem lb_X11_in_10 : bk_X11_in.lookup 10 = some [(.iconst 1, 1), (.goto 4, 3)] := rfl
theorem lb_X11_in_14 : bk_X11_in.lookup 14 = some [(.iconst 0, 1)] := rfl
theorem lb_X11_in_15 : bk_X11_in.lookup 15 = some [(.ireturn, 1)] := rfl
def f_X11_in (a0 : Int32) (a1 : Int32) (a2 : Int32) (M : PM) : Option (Int32 × PM) :=
  if a0 < a1 then
    some (0, M)
  else
    if a2 < a0 then
      some (0, M)
    else
      some (1, M)
theorem g_X11_in (a0 : Int32) (a1 : Int32) (a2 : Int32) : ∀ (M : PM) (r : Int32 × PM), f_X11_in a0 a1 a2 M = some r → hr_G 162 0 [some (.int a0), some (.int a1), some (.int a2)] [] M (some (.int r.1), r.2) := by
  intro M r h
  unfold f_X11_in at h
  refine hr_Grun mf_X11_in lb_X11_in_0 (P := True) (pc' := if a0 < a1 then 14 else 5) (ls' := [some (.int a0), some (.int a1), some (.int a2)]) (st' := []) (M' := M) rfl rfl trivial ?_
  refine hr_Gif h (fun _ h => ?_) (fun _ h => ?_)
  · refine hr_Grun mf_X11_in lb_X11_in_14 (P := True) (pc' := 15) (ls' := [some (.int a0), some (.int a1), some (.int a2)]) (st' := [.int 0]) (M' := M) rfl rfl trivial ?_
    cases h
    exact hr_Gret mf_X11_in lb_X11_in_15 rfl rfl (Or.inl rfl)
  · refine hr_Grun mf_X11_in lb_X11_in_5 (P := True) (pc' := if a2 < a0 then 14 else 10) (ls' := [some (.int a0), some (.int a1), some (.int a2)]) (st' := []) (M' := M) rfl rfl trivial ?_
    refine hr_Gif h (fun _ h => ?_) (fun _ h => ?_)
    · refine hr_Grun mf_X11_in lb_X11_in_14 (P := True) (pc' := 15) (ls' := [some (.int a0), some (.int a1), some (.int a2)]) (st' := [.int 0]) (M' := M) rfl rfl trivial ?_
      cases h
      exact hr_Gret mf_X11_in lb_X11_in_15 rfl rfl (Or.inl rfl)
    · refine hr_Grun mf_X11_in lb_X11_in_10 (P := True) (pc' := 15) (ls' := [some (.int a0), some (.int a1), some (.int a2)]) (st' := [.int 1]) (M' := M) rfl rfl trivial ?_
      cases h
      exact hr_Gret mf_X11_in lb_X11_in_15 rfl rfl (Or.inr rfl)
theorem mf_X11_token : hr_mf 175 11 1 none 3 0 bk_X11_token := ⟨rfl, rfl, rfl, rfl, rfl, rfl⟩
theorem lb_X11_token_0 : bk_X11_token.lookup 0 = some [(.aload_n 0, 1)] := rfl
theorem lb_X11_token_1 : bk_X11_token.lookup 1 = some [(.invokevirtual 126, 3)] := rfl
theorem lb_X11_token_4 : bk_X11_token.lookup 4 = some [(.bipush 10, 2), (.if_icmp .eq 12, 3)] := rfl
theorem lb_X11_token_9 : bk_X11_token.lookup 9 = some [(.aload_n 0, 1)] := rfl
theorem lb_X11_token_10 : bk_X11_token.lookup 10 = some [(.invokevirtual 126, 3)] := rfl
theorem lb_X11_token_13 : bk_X11_token.lookup 13 = some [(.bipush 32, 2), (.if_icmp .ne 16, 3)] := rfl
theorem lb_X11_token_18 : bk_X11_token.lookup 18 = some [(.aload_n 0, 1), (.dup, 1), (.getfield 120, 3), (.iconst 1, 1), (.iadd, 1), (.putfield 120, 3), (.goto (-28), 3)] := rfl
theorem lb_X11_token_31 : bk_X11_token.lookup 31 = some [(.aload_n 0, 1), (.aload_n 0, 1), (.getfield 120, 3), (.putfield 130, 3), (.aload_n 0, 1)] := rfl
theorem lb_X11_token_40 : bk_X11_token.lookup 40 = some [(.invokevirtual 126, 3)] := rfl
theorem lb_X11_token_43 : bk_X11_token.lookup 43 = some [(.istore_n 1, 1), (.aload_n 0, 1), (.lconst 0, 1), (.putfield 133, 3), (.iconst 0, 1), (.istore_n 2, 1), (.iload_n 1, 1), (.ifCond .ge 11, 3)] := rfl
theorem lb_X11_token_55 : bk_X11_token.lookup 55 = some [(.aload_n 0, 1), (.iconst 0, 1), (.putfield 137, 3), (.goto 206, 3)] := rfl
theorem lb_X11_token_63 : bk_X11_token.lookup 63 = some [(.iload_n 1, 1), (.bipush 97, 2), (.bipush 122, 2)] := rfl
theorem lb_X11_token_68 : bk_X11_token.lookup 68 = some [(.invokestatic 112, 3)] := rfl
theorem lb_X11_token_71 : bk_X11_token.lookup 71 = some [(.ifCond .eq 76, 3)] := rfl
theorem lb_X11_token_74 : bk_X11_token.lookup 74 = some [(.aload_n 0, 1)] := rfl
theorem lb_X11_token_75 : bk_X11_token.lookup 75 = some [(.invokevirtual 126, 3)] := rfl
theorem lb_X11_token_78 : bk_X11_token.lookup 78 = some [(.bipush 97, 2), (.bipush 122, 2)] := rfl
theorem lb_X11_token_82 : bk_X11_token.lookup 82 = some [(.invokestatic 112, 3)] := rfl
theorem lb_X11_token_85 : bk_X11_token.lookup 85 = some [(.ifCond .eq 36, 3)] := rfl
theorem lb_X11_token_88 : bk_X11_token.lookup 88 = some [(.aload_n 0, 1), (.aload_n 0, 1), (.getfield 133, 3), (.bipush 8, 2), (.lshl, 1), (.aload_n 0, 1)] := rfl
theorem lb_X11_token_97 : bk_X11_token.lookup 97 = some [(.invokevirtual 126, 3)] := rfl
theorem lb_X11_token_100 : bk_X11_token.lookup 100 = some [(.i2l, 1), (.lor, 1), (.putfield 133, 3), (.aload_n 0, 1), (.dup, 1), (.getfield 120, 3), (.iconst 1, 1), (.iadd, 1), (.putfield 120, 3), (.iinc 2 1, 3), (.goto (-44), 3)] := rfl
theorem lb_X11_token_121 : bk_X11_token.lookup 121 = some [(.aload_n 0, 1), (.iload_n 2, 1), (.bipush 8, 2), (.if_icmp .le 7, 3)] := rfl
theorem lb_X11_token_128 : bk_X11_token.lookup 128 = some [(.lconst 0, 1), (.goto 7, 3)] := rfl
theorem lb_X11_token_132 : bk_X11_token.lookup 132 = some [(.aload_n 0, 1), (.getfield 133, 3)] := rfl
theorem lb_X11_token_136 : bk_X11_token.lookup 136 = some [(.putfield 133, 3), (.aload_n 0, 1), (.iconst 2, 1), (.putfield 137, 3), (.goto 122, 3)] := rfl
theorem lb_X11_token_147 : bk_X11_token.lookup 147 = some [(.iload_n 1, 1), (.bipush 48, 2), (.bipush 57, 2)] := rfl
theorem lb_X11_token_152 : bk_X11_token.lookup 152 = some [(.invokestatic 112, 3)] := rfl
theorem lb_X11_token_155 : bk_X11_token.lookup 155 = some [(.ifCond .eq 86, 3)] := rfl
theorem lb_X11_token_158 : bk_X11_token.lookup 158 = some [(.aload_n 0, 1), (.iconst 0, 1), (.putfield 140, 3)] := rfl
theorem lb_X11_token_163 : bk_X11_token.lookup 163 = some [(.aload_n 0, 1)] := rfl
theorem lb_X11_token_164 : bk_X11_token.lookup 164 = some [(.invokevirtual 126, 3)] := rfl
theorem lb_X11_token_167 : bk_X11_token.lookup 167 = some [(.bipush 48, 2), (.bipush 57, 2)] := rfl
theorem lb_X11_token_171 : bk_X11_token.lookup 171 = some [(.invokestatic 112, 3)] := rfl
theorem lb_X11_token_174 : bk_X11_token.lookup 174 = some [(.ifCond .eq 50, 3)] := rfl
theorem lb_X11_token_177 : bk_X11_token.lookup 177 = some [(.aload_n 0, 1), (.iload_n 2, 1), (.iconst 2, 1), (.if_icmp .ge 21, 3)] := rfl
theorem lb_X11_token_183 : bk_X11_token.lookup 183 = some [(.bipush 10, 2), (.aload_n 0, 1), (.getfield 140, 3), (.imul, 1), (.aload_n 0, 1)] := rfl
theorem lb_X11_token_191 : bk_X11_token.lookup 191 = some [(.invokevirtual 126, 3)] := rfl
theorem lb_X11_token_194 : bk_X11_token.lookup 194 = some [(.iadd, 1), (.bipush 48, 2), (.isub, 1), (.goto 7, 3)] := rfl
theorem lb_X11_token_201 : bk_X11_token.lookup 201 = some [(.aload_n 0, 1), (.getfield 140, 3)] := rfl
theorem lb_X11_token_205 : bk_X11_token.lookup 205 = some [(.putfield 140, 3), (.aload_n 0, 1), (.dup, 1), (.getfield 120, 3), (.iconst 1, 1), (.iadd, 1), (.putfield 120, 3), (.iinc 2 1, 3), (.goto (-58), 3)] := rfl
theorem lb_X11_token_224 : bk_X11_token.lookup 224 = some [(.aload_n 0, 1), (.iload_n 2, 1), (.iconst 2, 1), (.if_icmp .le 7, 3)] := rfl
theorem lb_X11_token_230 : bk_X11_token.lookup 230 = some [(.iconst 1, 1), (.goto 4, 3)] := rfl
theorem lb_X11_token_234 : bk_X11_token.lookup 234 = some [(.iconst 3, 1)] := rfl
theorem lb_X11_token_235 : bk_X11_token.lookup 235 = some [(.putfield 137, 3), (.goto 28, 3)] := rfl
theorem lb_X11_token_241 : bk_X11_token.lookup 241 = some [(.aload_n 0, 1), (.dup, 1), (.getfield 120, 3), (.iconst 1, 1), (.iadd, 1), (.putfield 120, 3), (.aload_n 0, 1), (.iload_n 1, 1), (.bipush 59, 2), (.if_icmp .ne 7, 3)] := rfl
theorem lb_X11_token_258 : bk_X11_token.lookup 258 = some [(.iconst 4, 1), (.goto 4, 3)] := rfl
theorem lb_X11_token_262 : bk_X11_token.lookup 262 = some [(.iconst 1, 1)] := rfl
theorem lb_X11_token_263 : bk_X11_token.lookup 263 = some [(.putfield 137, 3)] := rfl
theorem lb_X11_token_266 : bk_X11_token.lookup 266 = some [(.return_, 1)] := rfl
def f_X11_token_163  : Nat → Int32 → PM → Option (Unit × PM)
  | 0, _, _ => none
  | f + 1, x2, M =>
    hr_bd (f_X11_see M) (fun v2 M2 =>
    hr_bd (f_X11_in v2 48 57 M2) (fun v4 M4 =>
    if v4 = 0 then
      if x2 ≤ 2 then
        some ((), hr_si M4 275 14 3)
      else
        some ((), hr_si M4 275 14 1)
    else
      if 2 ≤ x2 then
        f_X11_token_163 f (x2 + 1) (hr_si (hr_si M4 275 15 (M4.1 275 15)) 275 11 (((hr_si M4 275 15 (M4.1 275 15)).1 275 11) + 1))
      else
        hr_bd (f_X11_see M4) (fun v15 M15 =>
        f_X11_token_163 f (x2 + 1) (hr_si (hr_si M15 275 15 (((10 * (M4.1 275 15)) + v15) - 48)) 275 11 (((hr_si M15 275 15 (((10 * (M4.1 275 15)) + v15) - 48)).1 275 11) + 1)))))
theorem g_X11_token_163   : ∀ (f : Nat) (x2 : Int32) (M : PM) (r : Unit × PM), f_X11_token_163 f x2 M = some r → hr_G 175 163 [some (.ref 275), none, some (.int x2)] [] M (none, r.2) := by
  intro f
  induction f with
  | zero => intro x2 M r h; cases h
  | succ f ih =>
    intro x2 M r h
    rw [f_X11_token_163.eq_2] at h
    refine hr_Grun mf_X11_token lb_X11_token_163 (P := True) (pc' := 164) (ls' := [some (.ref 275), none, some (.int x2)]) (st' := [.ref 275]) (M' := M) rfl rfl trivial ?_
    refine hr_Fb h (fun v2 M2 e2 h => ?_)
    refine hr_Gcv mf_X11_token mf_X11_see lb_X11_token_164 (b := 275) (as := []) (rest := []) (st2 := [.int v2]) (v := some (.int v2)) (M1 := M2) rfl rfl rfl rfl rfl rfl K_275 (g_X11_see  _ _ e2) rfl rfl ?_
    refine hr_Grun mf_X11_token lb_X11_token_167 (P := True) (pc' := 171) (ls' := [some (.ref 275), none, some (.int x2)]) (st' := [.int 57, .int 48, .int v2]) (M' := M2) rfl rfl trivial ?_
    refine hr_Fb h (fun v4 M4 e4 h => ?_)
    refine hr_Gcs mf_X11_token mf_X11_in lb_X11_token_171 (as := [.int v2, .int 48, .int 57]) (rest := []) (st2 := [.int v4]) (v := some (.int v4)) (M1 := M4) rfl rfl rfl rfl rfl rfl (g_X11_in v2 48 57 _ _ e4) rfl rfl ?_
    refine hr_Grun mf_X11_token lb_X11_token_174 (P := True) (pc' := if v4 = 0 then 224 else 177) (ls' := [some (.ref 275), none, some (.int x2)]) (st' := []) (M' := M4) rfl rfl trivial ?_
    refine hr_Gif h (fun _ h => ?_) (fun _ h => ?_)
    · refine hr_Grun mf_X11_token lb_X11_token_224 (P := True) (pc' := if x2 ≤ 2 then 234 else 230) (ls' := [some (.ref 275), none, some (.int x2)]) (st' := [.ref 275]) (M' := M4) rfl rfl trivial ?_
      refine hr_Gif h (fun _ h => ?_) (fun _ h => ?_)
      · refine hr_Grun mf_X11_token lb_X11_token_234 (P := True) (pc' := 235) (ls' := [some (.ref 275), none, some (.int x2)]) (st' := [.int 3, .ref 275]) (M' := M4) rfl rfl trivial ?_
        refine hr_Grun mf_X11_token lb_X11_token_235 (P := (hr_K 275 = 10 ∧ 275 < hr_n) ∧ True) (pc' := 266) (ls' := [some (.ref 275), none, some (.int x2)]) (st' := []) (M' := hr_si M4 275 14 3) rfl rfl ⟨⟨K_275, L_275⟩, trivial⟩ ?_
        cases h
        exact hr_Gret mf_X11_token lb_X11_token_266 rfl rfl trivial
      · refine hr_Grun mf_X11_token lb_X11_token_230 (P := True) (pc' := 235) (ls' := [some (.ref 275), none, some (.int x2)]) (st' := [.int 1, .ref 275]) (M' := M4) rfl rfl trivial ?_
        refine hr_Grun mf_X11_token lb_X11_token_235 (P := (hr_K 275 = 10 ∧ 275 < hr_n) ∧ True) (pc' := 266) (ls' := [some (.ref 275), none, some (.int x2)]) (st' := []) (M' := hr_si M4 275 14 1) rfl rfl ⟨⟨K_275, L_275⟩, trivial⟩ ?_
        cases h
        exact hr_Gret mf_X11_token lb_X11_token_266 rfl rfl trivial
    · refine hr_Grun mf_X11_token lb_X11_token_177 (P := True) (pc' := if 2 ≤ x2 then 201 else 183) (ls' := [some (.ref 275), none, some (.int x2)]) (st' := [.ref 275]) (M' := M4) rfl rfl trivial ?_
      refine hr_Gif h (fun _ h => ?_) (fun _ h => ?_)
      · refine hr_Grun mf_X11_token lb_X11_token_201 (P := hr_K 275 = 10 ∧ True) (pc' := 205) (ls' := [some (.ref 275), none, some (.int x2)]) (st' := [.int (M4.1 275 15), .ref 275]) (M' := M4) rfl rfl ⟨K_275, trivial⟩ ?_
        refine hr_Grun mf_X11_token lb_X11_token_205 (P := (hr_K 275 = 10 ∧ 275 < hr_n) ∧ hr_K 275 = 10 ∧ (hr_K 275 = 10 ∧ 275 < hr_n) ∧ True) (pc' := 163) (ls' := [some (.ref 275), none, some (.int (x2 + 1))]) (st' := []) (M' := hr_si (hr_si M4 275 15 (M4.1 275 15)) 275 11 (((hr_si M4 275 15 (M4.1 275 15)).1 275 11) + 1)) rfl rfl ⟨⟨K_275, L_275⟩, K_275, ⟨K_275, L_275⟩, trivial⟩ ?_
        exact ih (x2 + 1) (hr_si (hr_si M4 275 15 (M4.1 275 15)) 275 11 (((hr_si M4 275 15 (M4.1 275 15)).1 275 11) + 1)) _ h
      · refine hr_Grun mf_X11_token lb_X11_token_183 (P := hr_K 275 = 10 ∧ True) (pc' := 191) (ls' := [some (.ref 275), none, some (.int x2)]) (st' := [.ref 275, .int (10 * (M4.1 275 15)), .ref 275]) (M' := M4) rfl rfl ⟨K_275, trivial⟩ ?_
        refine hr_Fb h (fun v15 M15 e15 h => ?_)
        refine hr_Gcv mf_X11_token mf_X11_see lb_X11_token_191 (b := 275) (as := []) (rest := [.int (10 * (M4.1 275 15)), .ref 275]) (st2 := [.int v15, .int (10 * (M4.1 275 15)), .ref 275]) (v := some (.int v15)) (M1 := M15) rfl rfl rfl rfl rfl rfl K_275 (g_X11_see  _ _ e15) rfl rfl ?_
        refine hr_Grun mf_X11_token lb_X11_token_194 (P := True) (pc' := 205) (ls' := [some (.ref 275), none, some (.int x2)]) (st' := [.int (((10 * (M4.1 275 15)) + v15) - 48), .ref 275]) (M' := M15) rfl rfl trivial ?_
        refine hr_Grun mf_X11_token lb_X11_token_205 (P := (hr_K 275 = 10 ∧ 275 < hr_n) ∧ hr_K 275 = 10 ∧ (hr_K 275 = 10 ∧ 275 < hr_n) ∧ True) (pc' := 163) (ls' := [some (.ref 275), none, some (.int (x2 + 1))]) (st' := []) (M' := hr_si (hr_si M15 275 15 (((10 * (M4.1 275 15)) + v15) - 48)) 275 11 (((hr_si M15 275 15 (((10 * (M4.1 275 15)) + v15) - 48)).1 275 11) + 1)) rfl rfl ⟨⟨K_275, L_275⟩, K_275, ⟨K_275, L_275⟩, trivial⟩ ?_
        exact ih (x2 + 1) (hr_si (hr_si M15 275 15 (((10 * (M4.1 275 15)) + v15) - 48)) 275 11 (((hr_si M15 275 15 (((10 * (M4.1 275 15)) + v15) - 48)).1 275 11) + 1)) _ h
def f_X11_token_74  : Nat → Int32 → PM → Option (Unit × PM)
  | 0, _, _ => none
  | f + 1, x2, M =>
    hr_bd (f_X11_see M) (fun v2 M2 =>
    hr_bd (f_X11_in v2 97 122 M2) (fun v4 M4 =>
    if v4 = 0 then
      if x2 ≤ 8 then
        some ((), hr_si (hr_sl M4 275 16 (M4.2.1 275 16)) 275 14 2)
      else
        some ((), hr_si (hr_sl M4 275 16 0) 275 14 2)
    else
      hr_bd (f_X11_see M4) (fun v12 M12 =>
      f_X11_token_74 f (x2 + 1) (hr_si (hr_sl M12 275 16 ((jL (M4.2.1 275 16) 8) ||| v12.toInt64)) 275 11 (((hr_sl M12 275 16 ((jL (M4.2.1 275 16) 8) ||| v12.toInt64)).1 275 11) + 1)))))
theorem g_X11_token_74   : ∀ (f : Nat) (x2 : Int32) (M : PM) (r : Unit × PM), f_X11_token_74 f x2 M = some r → hr_G 175 74 [some (.ref 275), none, some (.int x2)] [] M (none, r.2) := by
  intro f
  induction f with
  | zero => intro x2 M r h; cases h
  | succ f ih =>
    intro x2 M r h
    rw [f_X11_token_74.eq_2] at h
    refine hr_Grun mf_X11_token lb_X11_token_74 (P := True) (pc' := 75) (ls' := [some (.ref 275), none, some (.int x2)]) (st' := [.ref 275]) (M' := M) rfl rfl trivial ?_
    refine hr_Fb h (fun v2 M2 e2 h => ?_)
    refine hr_Gcv mf_X11_token mf_X11_see lb_X11_token_75 (b := 275) (as := []) (rest := []) (st2 := [.int v2]) (v := some (.int v2)) (M1 := M2) rfl rfl rfl rfl rfl rfl K_275 (g_X11_see  _ _ e2) rfl rfl ?_
    refine hr_Grun mf_X11_token lb_X11_token_78 (P := True) (pc' := 82) (ls' := [some (.ref 275), none, some (.int x2)]) (st' := [.int 122, .int 97, .int v2]) (M' := M2) rfl rfl trivial ?_
    refine hr_Fb h (fun v4 M4 e4 h => ?_)
    refine hr_Gcs mf_X11_token mf_X11_in lb_X11_token_82 (as := [.int v2, .int 97, .int 122]) (rest := []) (st2 := [.int v4]) (v := some (.int v4)) (M1 := M4) rfl rfl rfl rfl rfl rfl (g_X11_in v2 97 122 _ _ e4) rfl rfl ?_
    refine hr_Grun mf_X11_token lb_X11_token_85 (P := True) (pc' := if v4 = 0 then 121 else 88) (ls' := [some (.ref 275), none, some (.int x2)]) (st' := []) (M' := M4) rfl rfl trivial ?_
    refine hr_Gif h (fun _ h => ?_) (fun _ h => ?_)
    · refine hr_Grun mf_X11_token lb_X11_token_121 (P := True) (pc' := if x2 ≤ 8 then 132 else 128) (ls' := [some (.ref 275), none, some (.int x2)]) (st' := [.ref 275]) (M' := M4) rfl rfl trivial ?_
      refine hr_Gif h (fun _ h => ?_) (fun _ h => ?_)
      · refine hr_Grun mf_X11_token lb_X11_token_132 (P := hr_K 275 = 10 ∧ True) (pc' := 136) (ls' := [some (.ref 275), none, some (.int x2)]) (st' := [.long (M4.2.1 275 16), .ref 275]) (M' := M4) rfl rfl ⟨K_275, trivial⟩ ?_
        refine hr_Grun mf_X11_token lb_X11_token_136 (P := (hr_K 275 = 10 ∧ 275 < hr_n) ∧ (hr_K 275 = 10 ∧ 275 < hr_n) ∧ True) (pc' := 266) (ls' := [some (.ref 275), none, some (.int x2)]) (st' := []) (M' := hr_si (hr_sl M4 275 16 (M4.2.1 275 16)) 275 14 2) rfl rfl ⟨⟨K_275, L_275⟩, ⟨K_275, L_275⟩, trivial⟩ ?_
        cases h
        exact hr_Gret mf_X11_token lb_X11_token_266 rfl rfl trivial
      · refine hr_Grun mf_X11_token lb_X11_token_128 (P := True) (pc' := 136) (ls' := [some (.ref 275), none, some (.int x2)]) (st' := [.long 0, .ref 275]) (M' := M4) rfl rfl trivial ?_
        refine hr_Grun mf_X11_token lb_X11_token_136 (P := (hr_K 275 = 10 ∧ 275 < hr_n) ∧ (hr_K 275 = 10 ∧ 275 < hr_n) ∧ True) (pc' := 266) (ls' := [some (.ref 275), none, some (.int x2)]) (st' := []) (M' := hr_si (hr_sl M4 275 16 0) 275 14 2) rfl rfl ⟨⟨K_275, L_275⟩, ⟨K_275, L_275⟩, trivial⟩ ?_
        cases h
        exact hr_Gret mf_X11_token lb_X11_token_266 rfl rfl trivial
    · refine hr_Grun mf_X11_token lb_X11_token_88 (P := hr_K 275 = 10 ∧ True) (pc' := 97) (ls' := [some (.ref 275), none, some (.int x2)]) (st' := [.ref 275, .long (jL (M4.2.1 275 16) 8), .ref 275]) (M' := M4) rfl rfl ⟨K_275, trivial⟩ ?_
      refine hr_Fb h (fun v12 M12 e12 h => ?_)
      refine hr_Gcv mf_X11_token mf_X11_see lb_X11_token_97 (b := 275) (as := []) (rest := [.long (jL (M4.2.1 275 16) 8), .ref 275]) (st2 := [.int v12, .long (jL (M4.2.1 275 16) 8), .ref 275]) (v := some (.int v12)) (M1 := M12) rfl rfl rfl rfl rfl rfl K_275 (g_X11_see  _ _ e12) rfl rfl ?_
      refine hr_Grun mf_X11_token lb_X11_token_100 (P := (hr_K 275 = 10 ∧ 275 < hr_n) ∧ hr_K 275 = 10 ∧ (hr_K 275 = 10 ∧ 275 < hr_n) ∧ True) (pc' := 74) (ls' := [some (.ref 275), none, some (.int (x2 + 1))]) (st' := []) (M' := hr_si (hr_sl M12 275 16 ((jL (M4.2.1 275 16) 8) ||| v12.toInt64)) 275 11 (((hr_sl M12 275 16 ((jL (M4.2.1 275 16) 8) ||| v12.toInt64)).1 275 11) + 1)) rfl rfl ⟨⟨K_275, L_275⟩, K_275, ⟨K_275, L_275⟩, trivial⟩ ?_
      exact ih (x2 + 1) (hr_si (hr_sl M12 275 16 ((jL (M4.2.1 275 16) 8) ||| v12.toInt64)) 275 11 (((hr_sl M12 275 16 ((jL (M4.2.1 275 16) 8) ||| v12.toInt64)).1 275 11) + 1)) _ h
def f_X11_token_0  : Nat → PM → Option (Unit × PM)
  | 0, _ => none
  | f + 1, M =>
    hr_bd (f_X11_see M) (fun v2 M2 =>
    if v2 = 10 then
      f_X11_token_0 f (hr_si M2 275 11 ((M2.1 275 11) + 1))
    else
      hr_bd (f_X11_see M2) (fun v6 M6 =>
      if v6 = 32 then
        f_X11_token_0 f (hr_si M6 275 11 ((M6.1 275 11) + 1))
      else
        hr_bd (f_X11_see (hr_si M6 275 13 (M6.1 275 11))) (fun v10 M10 =>
        if 0 ≤ v10 then
          hr_bd (f_X11_in v10 97 122 (hr_sl M10 275 16 0)) (fun v13 M13 =>
          if v13 = 0 then
            hr_bd (f_X11_in v10 48 57 M13) (fun v16 M16 =>
            if v16 = 0 then
              if v10 = 59 then
                some ((), hr_si (hr_si M16 275 11 ((M16.1 275 11) + 1)) 275 14 4)
              else
                some ((), hr_si (hr_si M16 275 11 ((M16.1 275 11) + 1)) 275 14 1)
            else
              f_X11_token_163 FU 0 (hr_si M16 275 15 0))
          else
            f_X11_token_74 FU 0 M13)
        else
          some ((), hr_si (hr_sl M10 275 16 0) 275 14 0))))
theorem g_X11_token_0   : ∀ (f : Nat) (M : PM) (r : Unit × PM), f_X11_token_0 f M = some r → hr_G 175 0 [some (.ref 275), none, none] [] M (none, r.2) := by
  intro f
  induction f with
  | zero => intro M r h; cases h
  | succ f ih =>
    intro M r h
    rw [f_X11_token_0.eq_2] at h
    refine hr_Grun mf_X11_token lb_X11_token_0 (P := True) (pc' := 1) (ls' := [some (.ref 275), none, none]) (st' := [.ref 275]) (M' := M) rfl rfl trivial ?_
    refine hr_Fb h (fun v2 M2 e2 h => ?_)
    refine hr_Gcv mf_X11_token mf_X11_see lb_X11_token_1 (b := 275) (as := []) (rest := []) (st2 := [.int v2]) (v := some (.int v2)) (M1 := M2) rfl rfl rfl rfl rfl rfl K_275 (g_X11_see  _ _ e2) rfl rfl ?_
    refine hr_Grun mf_X11_token lb_X11_token_4 (P := True) (pc' := if v2 = 10 then 18 else 9) (ls' := [some (.ref 275), none, none]) (st' := []) (M' := M2) rfl rfl trivial ?_
    refine hr_Gif h (fun _ h => ?_) (fun _ h => ?_)
    · refine hr_Grun mf_X11_token lb_X11_token_18 (P := hr_K 275 = 10 ∧ (hr_K 275 = 10 ∧ 275 < hr_n) ∧ True) (pc' := 0) (ls' := [some (.ref 275), none, none]) (st' := []) (M' := hr_si M2 275 11 ((M2.1 275 11) + 1)) rfl rfl ⟨K_275, ⟨K_275, L_275⟩, trivial⟩ ?_
      exact ih (hr_si M2 275 11 ((M2.1 275 11) + 1)) _ h
    · refine hr_Grun mf_X11_token lb_X11_token_9 (P := True) (pc' := 10) (ls' := [some (.ref 275), none, none]) (st' := [.ref 275]) (M' := M2) rfl rfl trivial ?_
      refine hr_Fb h (fun v6 M6 e6 h => ?_)
      refine hr_Gcv mf_X11_token mf_X11_see lb_X11_token_10 (b := 275) (as := []) (rest := []) (st2 := [.int v6]) (v := some (.int v6)) (M1 := M6) rfl rfl rfl rfl rfl rfl K_275 (g_X11_see  _ _ e6) rfl rfl ?_
      refine hr_Grun mf_X11_token lb_X11_token_13 (P := True) (pc' := if v6 = 32 then 18 else 31) (ls' := [some (.ref 275), none, none]) (st' := []) (M' := M6) rfl rfl trivial ?_
      refine hr_Gif h (fun _ h => ?_) (fun _ h => ?_)
      · refine hr_Grun mf_X11_token lb_X11_token_18 (P := hr_K 275 = 10 ∧ (hr_K 275 = 10 ∧ 275 < hr_n) ∧ True) (pc' := 0) (ls' := [some (.ref 275), none, none]) (st' := []) (M' := hr_si M6 275 11 ((M6.1 275 11) + 1)) rfl rfl ⟨K_275, ⟨K_275, L_275⟩, trivial⟩ ?_
        exact ih (hr_si M6 275 11 ((M6.1 275 11) + 1)) _ h
      · refine hr_Grun mf_X11_token lb_X11_token_31 (P := hr_K 275 = 10 ∧ (hr_K 275 = 10 ∧ 275 < hr_n) ∧ True) (pc' := 40) (ls' := [some (.ref 275), none, none]) (st' := [.ref 275]) (M' := hr_si M6 275 13 (M6.1 275 11)) rfl rfl ⟨K_275, ⟨K_275, L_275⟩, trivial⟩ ?_
        refine hr_Fb h (fun v10 M10 e10 h => ?_)
        refine hr_Gcv mf_X11_token mf_X11_see lb_X11_token_40 (b := 275) (as := []) (rest := []) (st2 := [.int v10]) (v := some (.int v10)) (M1 := M10) rfl rfl rfl rfl rfl rfl K_275 (g_X11_see  _ _ e10) rfl rfl ?_
        refine hr_Grun mf_X11_token lb_X11_token_43 (P := (hr_K 275 = 10 ∧ 275 < hr_n) ∧ True) (pc' := if 0 ≤ v10 then 63 else 55) (ls' := [some (.ref 275), some (.int v10), some (.int 0)]) (st' := []) (M' := hr_sl M10 275 16 0) rfl rfl ⟨⟨K_275, L_275⟩, trivial⟩ ?_
        refine hr_Gif h (fun _ h => ?_) (fun _ h => ?_)
        · refine hr_Grun mf_X11_token lb_X11_token_63 (P := True) (pc' := 68) (ls' := [some (.ref 275), some (.int v10), some (.int 0)]) (st' := [.int 122, .int 97, .int v10]) (M' := hr_sl M10 275 16 0) rfl rfl trivial ?_
          refine hr_Fb h (fun v13 M13 e13 h => ?_)
          refine hr_Gcs mf_X11_token mf_X11_in lb_X11_token_68 (as := [.int v10, .int 97, .int 122]) (rest := []) (st2 := [.int v13]) (v := some (.int v13)) (M1 := M13) rfl rfl rfl rfl rfl rfl (g_X11_in v10 97 122 _ _ e13) rfl rfl ?_
          refine hr_Grun mf_X11_token lb_X11_token_71 (P := True) (pc' := if v13 = 0 then 147 else 74) (ls' := [some (.ref 275), some (.int v10), some (.int 0)]) (st' := []) (M' := M13) rfl rfl trivial ?_
          refine hr_Gif h (fun _ h => ?_) (fun _ h => ?_)
          · refine hr_Grun mf_X11_token lb_X11_token_147 (P := True) (pc' := 152) (ls' := [some (.ref 275), some (.int v10), some (.int 0)]) (st' := [.int 57, .int 48, .int v10]) (M' := M13) rfl rfl trivial ?_
            refine hr_Fb h (fun v16 M16 e16 h => ?_)
            refine hr_Gcs mf_X11_token mf_X11_in lb_X11_token_152 (as := [.int v10, .int 48, .int 57]) (rest := []) (st2 := [.int v16]) (v := some (.int v16)) (M1 := M16) rfl rfl rfl rfl rfl rfl (g_X11_in v10 48 57 _ _ e16) rfl rfl ?_
            refine hr_Grun mf_X11_token lb_X11_token_155 (P := True) (pc' := if v16 = 0 then 241 else 158) (ls' := [some (.ref 275), some (.int v10), some (.int 0)]) (st' := []) (M' := M16) rfl rfl trivial ?_
            refine hr_Gif h (fun _ h => ?_) (fun _ h => ?_)
            · refine hr_Grun mf_X11_token lb_X11_token_241 (P := hr_K 275 = 10 ∧ (hr_K 275 = 10 ∧ 275 < hr_n) ∧ True) (pc' := if v10 = 59 then 258 else 262) (ls' := [some (.ref 275), some (.int v10), some (.int 0)]) (st' := [.ref 275]) (M' := hr_si M16 275 11 ((M16.1 275 11) + 1)) rfl rfl ⟨K_275, ⟨K_275, L_275⟩, trivial⟩ ?_
              refine hr_Gif h (fun _ h => ?_) (fun _ h => ?_)
              · refine hr_Grun mf_X11_token lb_X11_token_258 (P := True) (pc' := 263) (ls' := [some (.ref 275), some (.int v10), some (.int 0)]) (st' := [.int 4, .ref 275]) (M' := hr_si M16 275 11 ((M16.1 275 11) + 1)) rfl rfl trivial ?_
                refine hr_Grun mf_X11_token lb_X11_token_263 (P := (hr_K 275 = 10 ∧ 275 < hr_n) ∧ True) (pc' := 266) (ls' := [some (.ref 275), some (.int v10), some (.int 0)]) (st' := []) (M' := hr_si (hr_si M16 275 11 ((M16.1 275 11) + 1)) 275 14 4) rfl rfl ⟨⟨K_275, L_275⟩, trivial⟩ ?_
                cases h
                exact hr_Gret mf_X11_token lb_X11_token_266 rfl rfl trivial
              · refine hr_Grun mf_X11_token lb_X11_token_262 (P := True) (pc' := 263) (ls' := [some (.ref 275), some (.int v10), some (.int 0)]) (st' := [.int 1, .ref 275]) (M' := hr_si M16 275 11 ((M16.1 275 11) + 1)) rfl rfl trivial ?_
                refine hr_Grun mf_X11_token lb_X11_token_263 (P := (hr_K 275 = 10 ∧ 275 < hr_n) ∧ True) (pc' := 266) (ls' := [some (.ref 275), some (.int v10), some (.int 0)]) (st' := []) (M' := hr_si (hr_si M16 275 11 ((M16.1 275 11) + 1)) 275 14 1) rfl rfl ⟨⟨K_275, L_275⟩, trivial⟩ ?_
                cases h
                exact hr_Gret mf_X11_token lb_X11_token_266 rfl rfl trivial
            · refine hr_Grun mf_X11_token lb_X11_token_158 (P := (hr_K 275 = 10 ∧ 275 < hr_n) ∧ True) (pc' := 163) (ls' := [some (.ref 275), some (.int v10), some (.int 0)]) (st' := []) (M' := hr_si M16 275 15 0) rfl rfl ⟨⟨K_275, L_275⟩, trivial⟩ ?_
              refine hr_Gle (ls := [some (.ref 275), none, some (.int 0)]) (hr_le_s (hr_le_n (hr_le_s hr_le_0))) ?_
              exact g_X11_token_163 FU 0 (hr_si M16 275 15 0) _ h
          · refine hr_Gle (ls := [some (.ref 275), none, some (.int 0)]) (hr_le_s (hr_le_n (hr_le_s hr_le_0))) ?_
            exact g_X11_token_74 FU 0 M13 _ h
        · refine hr_Grun mf_X11_token lb_X11_token_55 (P := (hr_K 275 = 10 ∧ 275 < hr_n) ∧ True) (pc' := 266) (ls' := [some (.ref 275), some (.int v10), some (.int 0)]) (st' := []) (M' := hr_si (hr_sl M10 275 16 0) 275 14 0) rfl rfl ⟨⟨K_275, L_275⟩, trivial⟩ ?_
          cases h
          exact hr_Gret mf_X11_token lb_X11_token_266 rfl rfl trivial
def f_X11_token (M : PM) : Option (Unit × PM) :=
  f_X11_token_0 FU M
theorem g_X11_token  : ∀ (M : PM) (r : Unit × PM), f_X11_token M = some r → hr_G 175 0 [some (.ref 275), none, none] [] M (none, r.2) := by
  intro M r h
  unfold f_X11_token at h
  exact g_X11_token_0 FU M _ h
theorem mf_X11_is : hr_mf 170 11 1 (some .boolean) 3 2 bk_X11_is := ⟨rfl, rfl, rfl, rfl, rfl, rfl⟩
theorem lb_X11_is_0 : bk_X11_is.lookup 0 = some [(.iload_n 2, 1), (.iconst 0, 1), (.aload_n 0, 1), (.getfield 23, 3), (.iload_n 1, 1), (.iaload, 1), (.iconst 1, 1), (.isub, 1)] := rfl
theorem lb_X11_is_10 : bk_X11_is.lookup 10 = some [(.invokestatic 112, 3)] := rfl
theorem lb_X11_is_13 : bk_X11_is.lookup 13 = some [(.ireturn, 1)] := rfl
def f_X11_is (a1 : Int32) (a2 : Int32) (M : PM) : Option (Int32 × PM) :=
  if inB a1 20 = true then 
  hr_bd (f_X11_in a2 0 ((M.1 280 a1.toNatClampNeg) - 1) M) (fun v2 M2 =>
  if v2 = 0 ∨ v2 = 1 then some (v2, M2) else none) else none
theorem g_X11_is (a1 : Int32) (a2 : Int32) : ∀ (M : PM) (r : Int32 × PM), f_X11_is a1 a2 M = some r → hr_G 170 0 [some (.ref 275), some (.int a1), some (.int a2)] [] M (some (.int r.1), r.2) := by
  intro M r h
  unfold f_X11_is at h
  refine hr_Fg h (fun hg1_0 h => ?_)
  refine hr_Grun mf_X11_is lb_X11_is_0 (P := hr_K 275 = 10 ∧ (hr_K 280 = 12 ∧ vp_in a1 (hr_N 280)) ∧ True) (pc' := 10) (ls' := [some (.ref 275), some (.int a1), some (.int a2)]) (st' := [.int ((M.1 280 a1.toNatClampNeg) - 1), .int 0, .int a2]) (M' := M) rfl rfl ⟨K_275, ⟨K_280, (inB_N N_280 hg1_0)⟩, trivial⟩ ?_
  refine hr_Fb h (fun v2 M2 e2 h => ?_)
  refine hr_Gcs mf_X11_is mf_X11_in lb_X11_is_10 (as := [.int a2, .int 0, .int ((M.1 280 a1.toNatClampNeg) - 1)]) (rest := []) (st2 := [.int v2]) (v := some (.int v2)) (M1 := M2) rfl rfl rfl rfl rfl rfl (g_X11_in a2 0 ((M.1 280 a1.toNatClampNeg) - 1) _ _ e2) rfl rfl ?_
  refine hr_Fg h (fun hz h => ?_)
  cases h
  exact hr_Gret mf_X11_is lb_X11_is_13 rfl rfl hz
theorem mf_X11_of : hr_mf 199 11 0 (some .int) 2 1 bk_X11_of := ⟨rfl, rfl, rfl, rfl, rfl, rfl⟩
theorem lb_X11_of_0 : bk_X11_of.lookup 0 = some [(.aload_n 0, 1), (.getfield 26, 3), (.bipush 70, 2), (.aload_n 0, 1), (.getfield 278, 3), (.imul, 1), (.iload_n 1, 1), (.iadd, 1), (.iaload, 1)] := rfl
theorem lb_X11_of_14 : bk_X11_of.lookup 14 = some [(.ireturn, 1)] := rfl
def f_X11_of (a1 : Int32) (M : PM) : Option (Int32 × PM) :=
  if inB ((70 * (M.1 275 24)) + a1) 560 = true then 
  some ((M.1 281 ((70 * (M.1 275 24)) + a1).toNatClampNeg), M) else none
theorem g_X11_of (a1 : Int32) : ∀ (M : PM) (r : Int32 × PM), f_X11_of a1 M = some r → hr_G 199 0 [some (.ref 275), some (.int a1)] [] M (some (.int r.1), r.2) := by
  intro M r h
  unfold f_X11_of at h
  refine hr_Fg h (fun hg1_0 h => ?_)
  refine hr_Grun mf_X11_of lb_X11_of_0 (P := hr_K 275 = 10 ∧ hr_K 275 = 10 ∧ (hr_K 281 = 12 ∧ vp_in ((70 * (M.1 275 24)) + a1) (hr_N 281)) ∧ True) (pc' := 14) (ls' := [some (.ref 275), some (.int a1)]) (st' := [.int (M.1 281 ((70 * (M.1 275 24)) + a1).toNatClampNeg)]) (M' := M) rfl rfl ⟨K_275, K_275, ⟨K_281, (inB_N N_281 hg1_0)⟩, trivial⟩ ?_
  cases h
  exact hr_Gret mf_X11_of lb_X11_of_14 rfl rfl trivial
theorem mf_X11_part : hr_mf 200 11 1 (some .int) 3 2 bk_X11_part := ⟨rfl, rfl, rfl, rfl, rfl, rfl⟩
theorem lb_X11_part_0 : bk_X11_part.lookup 0 = some [(.aload_n 0, 1), (.iconst 2, 1), (.iconst 3, 1), (.iload_n 1, 1), (.imul, 1), (.iadd, 1), (.iload_n 2, 1), (.iadd, 1)] := rfl
theorem lb_X11_part_8 : bk_X11_part.lookup 8 = some [(.invokevirtual 281, 3)] := rfl
theorem lb_X11_part_11 : bk_X11_part.lookup 11 = some [(.ireturn, 1)] := rfl
def f_X11_part (a1 : Int32) (a2 : Int32) (M : PM) : Option (Int32 × PM) :=
  hr_bd (f_X11_of ((2 + (3 * a1)) + a2) M) (fun v2 M2 =>
  some (v2, M2))
theorem g_X11_part (a1 : Int32) (a2 : Int32) : ∀ (M : PM) (r : Int32 × PM), f_X11_part a1 a2 M = some r → hr_G 200 0 [some (.ref 275), some (.int a1), some (.int a2)] [] M (some (.int r.1), r.2) := by
  intro M r h
  unfold f_X11_part at h
  refine hr_Grun mf_X11_part lb_X11_part_0 (P := True) (pc' := 8) (ls' := [some (.ref 275), some (.int a1), some (.int a2)]) (st' := [.int ((2 + (3 * a1)) + a2), .ref 275]) (M' := M) rfl rfl trivial ?_
  refine hr_Fb h (fun v2 M2 e2 h => ?_)
  refine hr_Gcv mf_X11_part mf_X11_of lb_X11_part_8 (b := 275) (as := [.int ((2 + (3 * a1)) + a2)]) (rest := []) (st2 := [.int v2]) (v := some (.int v2)) (M1 := M2) rfl rfl rfl rfl rfl rfl K_275 (g_X11_of ((2 + (3 * a1)) + a2) _ _ e2) rfl rfl ?_
  cases h
  exact hr_Gret mf_X11_part lb_X11_part_11 rfl rfl trivial
theorem mf_X11_layHue : hr_mf 202 11 2 none 4 2 bk_X11_layHue := ⟨rfl, rfl, rfl, rfl, rfl, rfl⟩
theorem lb_X11_layHue_0 : bk_X11_layHue.lookup 0 = some [(.iconst 0, 1), (.istore_n 3, 1)] := rfl
theorem lb_X11_layHue_2 : bk_X11_layHue.lookup 2 = some [(.iload_n 3, 1), (.iconst 3, 1), (.if_icmp .ge 23, 3)] := rfl
theorem lb_X11_layHue_7 : bk_X11_layHue.lookup 7 = some [(.aload_n 0, 1), (.getfield 50, 3), (.iload_n 1, 1), (.iload_n 3, 1), (.iadd, 1), (.aload_n 0, 1), (.iload_n 2, 1), (.iload_n 3, 1)] := rfl
theorem lb_X11_layHue_17 : bk_X11_layHue.lookup 17 = some [(.invokevirtual 285, 3)] := rfl
theorem lb_X11_layHue_20 : bk_X11_layHue.lookup 20 = some [(.iastore, 1), (.iinc 3 1, 3), (.goto (-22), 3)] := rfl
theorem lb_X11_layHue_27 : bk_X11_layHue.lookup 27 = some [(.return_, 1)] := rfl
def f_X11_layHue_2 (a1 : Int32) (a2 : Int32) : Nat → Int32 → PM → Option (Unit × PM)
  | 0, _, _ => none
  | f + 1, x3, M =>
    if 3 ≤ x3 then
      some ((), M)
    else
      hr_bd (f_X11_part a2 x3 M) (fun v3 M3 =>
      if inB (a1 + x3) 6 = true then 
      f_X11_layHue_2 a1 a2 f (x3 + 1) (hr_si M3 289 (a1 + x3).toNatClampNeg v3) else none)
theorem g_X11_layHue_2 (a1 : Int32) (a2 : Int32)  : ∀ (f : Nat) (x3 : Int32) (M : PM) (r : Unit × PM), f_X11_layHue_2 a1 a2 f x3 M = some r → hr_G 202 2 [some (.ref 275), some (.int a1), some (.int a2), some (.int x3)] [] M (none, r.2) := by
  intro f
  induction f with
  | zero => intro x3 M r h; cases h
  | succ f ih =>
    intro x3 M r h
    rw [f_X11_layHue_2.eq_2] at h
    refine hr_Grun mf_X11_layHue lb_X11_layHue_2 (P := True) (pc' := if 3 ≤ x3 then 27 else 7) (ls' := [some (.ref 275), some (.int a1), some (.int a2), some (.int x3)]) (st' := []) (M' := M) rfl rfl trivial ?_
    refine hr_Gif h (fun _ h => ?_) (fun _ h => ?_)
    · cases h
      exact hr_Gret mf_X11_layHue lb_X11_layHue_27 rfl rfl trivial
    · refine hr_Grun mf_X11_layHue lb_X11_layHue_7 (P := hr_K 275 = 10 ∧ True) (pc' := 17) (ls' := [some (.ref 275), some (.int a1), some (.int a2), some (.int x3)]) (st' := [.int x3, .int a2, .ref 275, .int (a1 + x3), .ref 289]) (M' := M) rfl rfl ⟨K_275, trivial⟩ ?_
      refine hr_Fb h (fun v3 M3 e3 h => ?_)
      refine hr_Gcv mf_X11_layHue mf_X11_part lb_X11_layHue_17 (b := 275) (as := [.int a2, .int x3]) (rest := [.int (a1 + x3), .ref 289]) (st2 := [.int v3, .int (a1 + x3), .ref 289]) (v := some (.int v3)) (M1 := M3) rfl rfl rfl rfl rfl rfl K_275 (g_X11_part a2 x3 _ _ e3) rfl rfl ?_
      refine hr_Fg h (fun hg4_0 h => ?_)
      refine hr_Grun mf_X11_layHue lb_X11_layHue_20 (P := ((hr_K 289 = 12 ∧ 289 < hr_n) ∧ vp_in (a1 + x3) (hr_N 289)) ∧ True) (pc' := 2) (ls' := [some (.ref 275), some (.int a1), some (.int a2), some (.int (x3 + 1))]) (st' := []) (M' := hr_si M3 289 (a1 + x3).toNatClampNeg v3) rfl rfl ⟨⟨⟨K_289, L_289⟩, (inB_N N_289 hg4_0)⟩, trivial⟩ ?_
      exact ih (x3 + 1) (hr_si M3 289 (a1 + x3).toNatClampNeg v3) _ h
def f_X11_layHue (a1 : Int32) (a2 : Int32) (M : PM) : Option (Unit × PM) :=
  f_X11_layHue_2 a1 a2 FU 0 M
theorem g_X11_layHue (a1 : Int32) (a2 : Int32) : ∀ (M : PM) (r : Unit × PM), f_X11_layHue a1 a2 M = some r → hr_G 202 0 [some (.ref 275), some (.int a1), some (.int a2), none] [] M (none, r.2) := by
  intro M r h
  unfold f_X11_layHue at h
  refine hr_Grun mf_X11_layHue lb_X11_layHue_0 (P := True) (pc' := 2) (ls' := [some (.ref 275), some (.int a1), some (.int a2), some (.int 0)]) (st' := []) (M' := M) rfl rfl trivial ?_
  exact g_X11_layHue_2 a1 a2 FU 0 M _ h
theorem mf_X11_ruleOf : hr_mf 201 11 1 (some .int) 3 2 bk_X11_ruleOf := ⟨rfl, rfl, rfl, rfl, rfl, rfl⟩
theorem lb_X11_ruleOf_0 : bk_X11_ruleOf.lookup 0 = some [(.aload_n 0, 1), (.bipush 32, 2), (.iconst 3, 1), (.iload_n 1, 1), (.imul, 1), (.iadd, 1), (.iload_n 2, 1), (.iadd, 1)] := rfl
theorem lb_X11_ruleOf_9 : bk_X11_ruleOf.lookup 9 = some [(.invokevirtual 281, 3)] := rfl
theorem lb_X11_ruleOf_12 : bk_X11_ruleOf.lookup 12 = some [(.ireturn, 1)] := rfl
def f_X11_ruleOf (a1 : Int32) (a2 : Int32) (M : PM) : Option (Int32 × PM) :=
  hr_bd (f_X11_of ((32 + (3 * a1)) + a2) M) (fun v2 M2 =>
  some (v2, M2))
theorem g_X11_ruleOf (a1 : Int32) (a2 : Int32) : ∀ (M : PM) (r : Int32 × PM), f_X11_ruleOf a1 a2 M = some r → hr_G 201 0 [some (.ref 275), some (.int a1), some (.int a2)] [] M (some (.int r.1), r.2) := by
  intro M r h
  unfold f_X11_ruleOf at h
  refine hr_Grun mf_X11_ruleOf lb_X11_ruleOf_0 (P := True) (pc' := 9) (ls' := [some (.ref 275), some (.int a1), some (.int a2)]) (st' := [.int ((32 + (3 * a1)) + a2), .ref 275]) (M' := M) rfl rfl trivial ?_
  refine hr_Fb h (fun v2 M2 e2 h => ?_)
  refine hr_Gcv mf_X11_ruleOf mf_X11_of lb_X11_ruleOf_9 (b := 275) (as := [.int ((32 + (3 * a1)) + a2)]) (rest := []) (st2 := [.int v2]) (v := some (.int v2)) (M1 := M2) rfl rfl rfl rfl rfl rfl K_275 (g_X11_of ((32 + (3 * a1)) + a2) _ _ e2) rfl rfl ?_
  cases h
  exact hr_Gret mf_X11_ruleOf lb_X11_ruleOf_12 rfl rfl trivial
theorem mf_X11_allParts : hr_mf 204 11 0 (some .int) 3 0 bk_X11_allParts := ⟨rfl, rfl, rfl, rfl, rfl, rfl⟩
theorem lb_X11_allParts_0 : bk_X11_allParts.lookup 0 = some [(.iconst 0, 1), (.istore_n 1, 1), (.iconst 0, 1), (.istore_n 2, 1)] := rfl
theorem lb_X11_allParts_4 : bk_X11_allParts.lookup 4 = some [(.iload_n 2, 1), (.bipush 6, 2), (.if_icmp .ge 18, 3)] := rfl
theorem lb_X11_allParts_10 : bk_X11_allParts.lookup 10 = some [(.iload_n 1, 1), (.aload_n 0, 1), (.getfield 50, 3), (.iload_n 2, 1), (.iaload, 1), (.iadd, 1), (.istore_n 1, 1), (.iinc 2 1, 3), (.goto (-18), 3)] := rfl
theorem lb_X11_allParts_25 : bk_X11_allParts.lookup 25 = some [(.iload_n 1, 1)] := rfl
theorem lb_X11_allParts_26 : bk_X11_allParts.lookup 26 = some [(.ireturn, 1)] := rfl
def f_X11_allParts_4  : Nat → Int32 → Int32 → PM → Option (Int32 × PM)
  | 0, _, _, _ => none
  | f + 1, x1, x2, M =>
    if 6 ≤ x2 then
      some (x1, M)
    else
      if inB x2 6 = true then 
      f_X11_allParts_4 f (x1 + (M.1 289 x2.toNatClampNeg)) (x2 + 1) M else none
theorem g_X11_allParts_4   : ∀ (f : Nat) (x1 : Int32) (x2 : Int32) (M : PM) (r : Int32 × PM), f_X11_allParts_4 f x1 x2 M = some r → hr_G 204 4 [some (.ref 275), some (.int x1), some (.int x2)] [] M (some (.int r.1), r.2) := by
  intro f
  induction f with
  | zero => intro x1 x2 M r h; cases h
  | succ f ih =>
    intro x1 x2 M r h
    rw [f_X11_allParts_4.eq_2] at h
    refine hr_Grun mf_X11_allParts lb_X11_allParts_4 (P := True) (pc' := if 6 ≤ x2 then 25 else 10) (ls' := [some (.ref 275), some (.int x1), some (.int x2)]) (st' := []) (M' := M) rfl rfl trivial ?_
    refine hr_Gif h (fun _ h => ?_) (fun _ h => ?_)
    · refine hr_Grun mf_X11_allParts lb_X11_allParts_25 (P := True) (pc' := 26) (ls' := [some (.ref 275), some (.int x1), some (.int x2)]) (st' := [.int x1]) (M' := M) rfl rfl trivial ?_
      cases h
      exact hr_Gret mf_X11_allParts lb_X11_allParts_26 rfl rfl trivial
    · refine hr_Fg h (fun hg3_0 h => ?_)
      refine hr_Grun mf_X11_allParts lb_X11_allParts_10 (P := hr_K 275 = 10 ∧ (hr_K 289 = 12 ∧ vp_in x2 (hr_N 289)) ∧ True) (pc' := 4) (ls' := [some (.ref 275), some (.int (x1 + (M.1 289 x2.toNatClampNeg))), some (.int (x2 + 1))]) (st' := []) (M' := M) rfl rfl ⟨K_275, ⟨K_289, (inB_N N_289 hg3_0)⟩, trivial⟩ ?_
      exact ih (x1 + (M.1 289 x2.toNatClampNeg)) (x2 + 1) M _ h
def f_X11_allParts (M : PM) : Option (Int32 × PM) :=
  f_X11_allParts_4 FU 0 0 M
theorem g_X11_allParts  : ∀ (M : PM) (r : Int32 × PM), f_X11_allParts M = some r → hr_G 204 0 [some (.ref 275), none, none] [] M (some (.int r.1), r.2) := by
  intro M r h
  unfold f_X11_allParts at h
  refine hr_Grun mf_X11_allParts lb_X11_allParts_0 (P := True) (pc' := 4) (ls' := [some (.ref 275), some (.int 0), some (.int 0)]) (st' := []) (M' := M) rfl rfl trivial ?_
  exact g_X11_allParts_4 FU 0 0 M _ h
theorem mf_X11_size : hr_mf 166 11 0 (some .int) 1 1 bk_X11_size := ⟨rfl, rfl, rfl, rfl, rfl, rfl⟩
theorem lb_X11_size_0 : bk_X11_size.lookup 0 = some [(.iload_n 0, 1), (.ifCond .ge 8, 3)] := rfl
theorem lb_X11_size_4 : bk_X11_size.lookup 4 = some [(.iload_n 0, 1), (.ineg, 1), (.goto 4, 3)] := rfl
theorem lb_X11_size_9 : bk_X11_size.lookup 9 = some [(.iload_n 0, 1)] := rfl
theorem lb_X11_size_10 : bk_X11_size.lookup 10 = some [(.ireturn, 1)] := rfl
def f_X11_size (a0 : Int32) (M : PM) : Option (Int32 × PM) :=
  if 0 ≤ a0 then
    some (a0, M)
  else
    some ((-a0), M)
theorem g_X11_size (a0 : Int32) : ∀ (M : PM) (r : Int32 × PM), f_X11_size a0 M = some r → hr_G 166 0 [some (.int a0)] [] M (some (.int r.1), r.2) := by
  intro M r h
  unfold f_X11_size at h
  refine hr_Grun mf_X11_size lb_X11_size_0 (P := True) (pc' := if 0 ≤ a0 then 9 else 4) (ls' := [some (.int a0)]) (st' := []) (M' := M) rfl rfl trivial ?_
  refine hr_Gif h (fun _ h => ?_) (fun _ h => ?_)
  · refine hr_Grun mf_X11_size lb_X11_size_9 (P := True) (pc' := 10) (ls' := [some (.int a0)]) (st' := [.int a0]) (M' := M) rfl rfl trivial ?_
    cases h
    exact hr_Gret mf_X11_size lb_X11_size_10 rfl rfl trivial
  · refine hr_Grun mf_X11_size lb_X11_size_4 (P := True) (pc' := 10) (ls' := [some (.int a0)]) (st' := [.int (-a0)]) (M' := M) rfl rfl trivial ?_
    cases h
    exact hr_Gret mf_X11_size lb_X11_size_10 rfl rfl trivial
theorem mf_X11_holds : hr_mf 205 11 1 (some .boolean) 4 3 bk_X11_holds := ⟨rfl, rfl, rfl, rfl, rfl, rfl⟩
theorem lb_X11_holds_0 : bk_X11_holds.lookup 0 = some [(.iload_n 1, 1), (.tableswitch 130 0 4 #[35, 45, 73, 130, 105], 35)] := rfl
theorem lb_X11_holds_36 : bk_X11_holds.lookup 36 = some [(.aload_n 0, 1)] := rfl
theorem lb_X11_holds_37 : bk_X11_holds.lookup 37 = some [(.invokevirtual 288, 3)] := rfl
theorem lb_X11_holds_40 : bk_X11_holds.lookup 40 = some [(.iload_n 2, 1), (.iload_n 3, 1)] := rfl
theorem lb_X11_holds_42 : bk_X11_holds.lookup 42 = some [(.invokestatic 112, 3)] := rfl
theorem lb_X11_holds_45 : bk_X11_holds.lookup 45 = some [(.ireturn, 1)] := rfl
theorem lb_X11_holds_46 : bk_X11_holds.lookup 46 = some [(.aload_n 0, 1), (.getfield 50, 3), (.iload_n 2, 1), (.iaload, 1), (.aload_n 0, 1), (.getfield 50, 3), (.iconst 3, 1), (.iload_n 2, 1), (.iadd, 1), (.iaload, 1), (.isub, 1)] := rfl
theorem lb_X11_holds_61 : bk_X11_holds.lookup 61 = some [(.invokestatic 291, 3)] := rfl
theorem lb_X11_holds_64 : bk_X11_holds.lookup 64 = some [(.iload_n 3, 1), (.if_icmp .lt 7, 3)] := rfl
theorem lb_X11_holds_68 : bk_X11_holds.lookup 68 = some [(.iconst 1, 1), (.goto 4, 3)] := rfl
theorem lb_X11_holds_72 : bk_X11_holds.lookup 72 = some [(.iconst 0, 1)] := rfl
theorem lb_X11_holds_73 : bk_X11_holds.lookup 73 = some [(.ireturn, 1)] := rfl
theorem lb_X11_holds_74 : bk_X11_holds.lookup 74 = some [(.aload_n 0, 1), (.getfield 50, 3), (.iload_n 2, 1), (.iaload, 1), (.aload_n 0, 1), (.getfield 50, 3), (.iconst 3, 1), (.iload_n 2, 1), (.iadd, 1), (.iaload, 1), (.if_icmp .ne 16, 3)] := rfl
theorem lb_X11_holds_91 : bk_X11_holds.lookup 91 = some [(.aload_n 0, 1), (.getfield 50, 3), (.iload_n 2, 1), (.iaload, 1), (.ifCond .le 7, 3)] := rfl
theorem lb_X11_holds_100 : bk_X11_holds.lookup 100 = some [(.iconst 1, 1), (.goto 4, 3)] := rfl
theorem lb_X11_holds_104 : bk_X11_holds.lookup 104 = some [(.iconst 0, 1)] := rfl
theorem lb_X11_holds_105 : bk_X11_holds.lookup 105 = some [(.ireturn, 1)] := rfl
theorem lb_X11_holds_106 : bk_X11_holds.lookup 106 = some [(.aload_n 0, 1), (.getfield 50, 3), (.iload_n 2, 1), (.iaload, 1), (.aload_n 0, 1), (.getfield 50, 3), (.iconst 3, 1), (.iload_n 2, 1), (.iadd, 1), (.iaload, 1), (.iadd, 1), (.iload_n 3, 1), (.if_icmp .lt 7, 3)] := rfl
theorem lb_X11_holds_125 : bk_X11_holds.lookup 125 = some [(.iconst 1, 1), (.goto 4, 3)] := rfl
theorem lb_X11_holds_129 : bk_X11_holds.lookup 129 = some [(.iconst 0, 1)] := rfl
theorem lb_X11_holds_130 : bk_X11_holds.lookup 130 = some [(.ireturn, 1)] := rfl
theorem lb_X11_holds_131 : bk_X11_holds.lookup 131 = some [(.iconst 0, 1)] := rfl
theorem lb_X11_holds_132 : bk_X11_holds.lookup 132 = some [(.ireturn, 1)] := rfl
def f_X11_holds (a1 : Int32) (a2 : Int32) (a3 : Int32) (M : PM) : Option (Int32 × PM) :=
  if a1 = 0 then
    hr_bd (f_X11_allParts M) (fun v3 M3 =>
    hr_bd (f_X11_in v3 a2 a3 M3) (fun v5 M5 =>
    if v5 = 0 ∨ v5 = 1 then some (v5, M5) else none))
  else if a1 = 1 then
    if inB a2 6 = true then if inB (3 + a2) 6 = true then 
    hr_bd (f_X11_size ((M.1 289 a2.toNatClampNeg) - (M.1 289 (3 + a2).toNatClampNeg)) M) (fun v7 M7 =>
    if v7 < a3 then
      some (0, M7)
    else
      some (1, M7)) else none else none
  else if a1 = 2 then
    if inB a2 6 = true then if inB (3 + a2) 6 = true then if (M.1 289 a2.toNatClampNeg) = (M.1 289 (3 + a2).toNatClampNeg) then
      if inB a2 6 = true then if (M.1 289 a2.toNatClampNeg) ≤ 0 then
        some (0, M)
      else
        some (1, M)
      else none
    else
      some (0, M)
    else none else none
  else if a1 = 3 then
    some (0, M)
  else if a1 = 4 then
    if inB a2 6 = true then if inB (3 + a2) 6 = true then if ((M.1 289 a2.toNatClampNeg) + (M.1 289 (3 + a2).toNatClampNeg)) < a3 then
      some (0, M)
    else
      some (1, M)
    else none else none
  else 
    some (0, M)
theorem g_X11_holds (a1 : Int32) (a2 : Int32) (a3 : Int32) : ∀ (M : PM) (r : Int32 × PM), f_X11_holds a1 a2 a3 M = some r → hr_G 205 0 [some (.ref 275), some (.int a1), some (.int a2), some (.int a3)] [] M (some (.int r.1), r.2) := by
  intro M r h
  unfold f_X11_holds at h
  refine hr_Grun mf_X11_holds lb_X11_holds_0 (P := True) (pc' := if a1 = 0 then 36 else if a1 = 1 then 46 else if a1 = 2 then 74 else if a1 = 3 then 131 else if a1 = 4 then 106 else 131) (ls' := [some (.ref 275), some (.int a1), some (.int a2), some (.int a3)]) (st' := []) (M' := M) rfl rfl trivial ?_
  refine hr_Gif h (fun _ h => ?_) (fun _ h => ?_)
  · refine hr_Grun mf_X11_holds lb_X11_holds_36 (P := True) (pc' := 37) (ls' := [some (.ref 275), some (.int a1), some (.int a2), some (.int a3)]) (st' := [.ref 275]) (M' := M) rfl rfl trivial ?_
    refine hr_Fb h (fun v3 M3 e3 h => ?_)
    refine hr_Gcv mf_X11_holds mf_X11_allParts lb_X11_holds_37 (b := 275) (as := []) (rest := []) (st2 := [.int v3]) (v := some (.int v3)) (M1 := M3) rfl rfl rfl rfl rfl rfl K_275 (g_X11_allParts  _ _ e3) rfl rfl ?_
    refine hr_Grun mf_X11_holds lb_X11_holds_40 (P := True) (pc' := 42) (ls' := [some (.ref 275), some (.int a1), some (.int a2), some (.int a3)]) (st' := [.int a3, .int a2, .int v3]) (M' := M3) rfl rfl trivial ?_
    refine hr_Fb h (fun v5 M5 e5 h => ?_)
    refine hr_Gcs mf_X11_holds mf_X11_in lb_X11_holds_42 (as := [.int v3, .int a2, .int a3]) (rest := []) (st2 := [.int v5]) (v := some (.int v5)) (M1 := M5) rfl rfl rfl rfl rfl rfl (g_X11_in v3 a2 a3 _ _ e5) rfl rfl ?_
    refine hr_Fg h (fun hz h => ?_)
    cases h
    exact hr_Gret mf_X11_holds lb_X11_holds_45 rfl rfl hz
  refine hr_Gif h (fun _ h => ?_) (fun _ h => ?_)
  · refine hr_Fg h (fun hg6_0 h => ?_)
    refine hr_Fg h (fun hg6_1 h => ?_)
    refine hr_Grun mf_X11_holds lb_X11_holds_46 (P := hr_K 275 = 10 ∧ (hr_K 289 = 12 ∧ vp_in a2 (hr_N 289)) ∧ hr_K 275 = 10 ∧ (hr_K 289 = 12 ∧ vp_in (3 + a2) (hr_N 289)) ∧ True) (pc' := 61) (ls' := [some (.ref 275), some (.int a1), some (.int a2), some (.int a3)]) (st' := [.int ((M.1 289 a2.toNatClampNeg) - (M.1 289 (3 + a2).toNatClampNeg))]) (M' := M) rfl rfl ⟨K_275, ⟨K_289, (inB_N N_289 hg6_0)⟩, K_275, ⟨K_289, (inB_N N_289 hg6_1)⟩, trivial⟩ ?_
    refine hr_Fb h (fun v7 M7 e7 h => ?_)
    refine hr_Gcs mf_X11_holds mf_X11_size lb_X11_holds_61 (as := [.int ((M.1 289 a2.toNatClampNeg) - (M.1 289 (3 + a2).toNatClampNeg))]) (rest := []) (st2 := [.int v7]) (v := some (.int v7)) (M1 := M7) rfl rfl rfl rfl rfl rfl (g_X11_size ((M.1 289 a2.toNatClampNeg) - (M.1 289 (3 + a2).toNatClampNeg)) _ _ e7) rfl rfl ?_
    refine hr_Grun mf_X11_holds lb_X11_holds_64 (P := True) (pc' := if v7 < a3 then 72 else 68) (ls' := [some (.ref 275), some (.int a1), some (.int a2), some (.int a3)]) (st' := []) (M' := M7) rfl rfl trivial ?_
    refine hr_Gif h (fun _ h => ?_) (fun _ h => ?_)
    · refine hr_Grun mf_X11_holds lb_X11_holds_72 (P := True) (pc' := 73) (ls' := [some (.ref 275), some (.int a1), some (.int a2), some (.int a3)]) (st' := [.int 0]) (M' := M7) rfl rfl trivial ?_
      cases h
      exact hr_Gret mf_X11_holds lb_X11_holds_73 rfl rfl (Or.inl rfl)
    · refine hr_Grun mf_X11_holds lb_X11_holds_68 (P := True) (pc' := 73) (ls' := [some (.ref 275), some (.int a1), some (.int a2), some (.int a3)]) (st' := [.int 1]) (M' := M7) rfl rfl trivial ?_
      cases h
      exact hr_Gret mf_X11_holds lb_X11_holds_73 rfl rfl (Or.inr rfl)
  refine hr_Gif h (fun _ h => ?_) (fun _ h => ?_)
  · refine hr_Fg h (fun hg11_0 h => ?_)
    refine hr_Fg h (fun hg11_1 h => ?_)
    refine hr_Grun mf_X11_holds lb_X11_holds_74 (P := hr_K 275 = 10 ∧ (hr_K 289 = 12 ∧ vp_in a2 (hr_N 289)) ∧ hr_K 275 = 10 ∧ (hr_K 289 = 12 ∧ vp_in (3 + a2) (hr_N 289)) ∧ True) (pc' := if (M.1 289 a2.toNatClampNeg) = (M.1 289 (3 + a2).toNatClampNeg) then 91 else 104) (ls' := [some (.ref 275), some (.int a1), some (.int a2), some (.int a3)]) (st' := []) (M' := M) rfl rfl ⟨K_275, ⟨K_289, (inB_N N_289 hg11_0)⟩, K_275, ⟨K_289, (inB_N N_289 hg11_1)⟩, trivial⟩ ?_
    refine hr_Gif h (fun _ h => ?_) (fun _ h => ?_)
    · refine hr_Fg h (fun hg12_0 h => ?_)
      refine hr_Grun mf_X11_holds lb_X11_holds_91 (P := hr_K 275 = 10 ∧ (hr_K 289 = 12 ∧ vp_in a2 (hr_N 289)) ∧ True) (pc' := if (M.1 289 a2.toNatClampNeg) ≤ 0 then 104 else 100) (ls' := [some (.ref 275), some (.int a1), some (.int a2), some (.int a3)]) (st' := []) (M' := M) rfl rfl ⟨K_275, ⟨K_289, (inB_N N_289 hg12_0)⟩, trivial⟩ ?_
      refine hr_Gif h (fun _ h => ?_) (fun _ h => ?_)
      · refine hr_Grun mf_X11_holds lb_X11_holds_104 (P := True) (pc' := 105) (ls' := [some (.ref 275), some (.int a1), some (.int a2), some (.int a3)]) (st' := [.int 0]) (M' := M) rfl rfl trivial ?_
        cases h
        exact hr_Gret mf_X11_holds lb_X11_holds_105 rfl rfl (Or.inl rfl)
      · refine hr_Grun mf_X11_holds lb_X11_holds_100 (P := True) (pc' := 105) (ls' := [some (.ref 275), some (.int a1), some (.int a2), some (.int a3)]) (st' := [.int 1]) (M' := M) rfl rfl trivial ?_
        cases h
        exact hr_Gret mf_X11_holds lb_X11_holds_105 rfl rfl (Or.inr rfl)
    · refine hr_Grun mf_X11_holds lb_X11_holds_104 (P := True) (pc' := 105) (ls' := [some (.ref 275), some (.int a1), some (.int a2), some (.int a3)]) (st' := [.int 0]) (M' := M) rfl rfl trivial ?_
      cases h
      exact hr_Gret mf_X11_holds lb_X11_holds_105 rfl rfl (Or.inl rfl)
  refine hr_Gif h (fun _ h => ?_) (fun _ h => ?_)
  · refine hr_Grun mf_X11_holds lb_X11_holds_131 (P := True) (pc' := 132) (ls' := [some (.ref 275), some (.int a1), some (.int a2), some (.int a3)]) (st' := [.int 0]) (M' := M) rfl rfl trivial ?_
    cases h
    exact hr_Gret mf_X11_holds lb_X11_holds_132 rfl rfl (Or.inl rfl)
  refine hr_Gif h (fun _ h => ?_) (fun _ h => ?_)
  · refine hr_Fg h (fun hg17_0 h => ?_)
    refine hr_Fg h (fun hg17_1 h => ?_)
    refine hr_Grun mf_X11_holds lb_X11_holds_106 (P := hr_K 275 = 10 ∧ (hr_K 289 = 12 ∧ vp_in a2 (hr_N 289)) ∧ hr_K 275 = 10 ∧ (hr_K 289 = 12 ∧ vp_in (3 + a2) (hr_N 289)) ∧ True) (pc' := if ((M.1 289 a2.toNatClampNeg) + (M.1 289 (3 + a2).toNatClampNeg)) < a3 then 129 else 125) (ls' := [some (.ref 275), some (.int a1), some (.int a2), some (.int a3)]) (st' := []) (M' := M) rfl rfl ⟨K_275, ⟨K_289, (inB_N N_289 hg17_0)⟩, K_275, ⟨K_289, (inB_N N_289 hg17_1)⟩, trivial⟩ ?_
    refine hr_Gif h (fun _ h => ?_) (fun _ h => ?_)
    · refine hr_Grun mf_X11_holds lb_X11_holds_129 (P := True) (pc' := 130) (ls' := [some (.ref 275), some (.int a1), some (.int a2), some (.int a3)]) (st' := [.int 0]) (M' := M) rfl rfl trivial ?_
      cases h
      exact hr_Gret mf_X11_holds lb_X11_holds_130 rfl rfl (Or.inl rfl)
    · refine hr_Grun mf_X11_holds lb_X11_holds_125 (P := True) (pc' := 130) (ls' := [some (.ref 275), some (.int a1), some (.int a2), some (.int a3)]) (st' := [.int 1]) (M' := M) rfl rfl trivial ?_
      cases h
      exact hr_Gret mf_X11_holds lb_X11_holds_130 rfl rfl (Or.inr rfl)
  · refine hr_Grun mf_X11_holds lb_X11_holds_131 (P := True) (pc' := 132) (ls' := [some (.ref 275), some (.int a1), some (.int a2), some (.int a3)]) (st' := [.int 0]) (M' := M) rfl rfl trivial ?_
    cases h
    exact hr_Gret mf_X11_holds lb_X11_holds_132 rfl rfl (Or.inl rfl)
theorem mf_X11_strengthOf : hr_mf 206 11 2 (some .int) 10 2 bk_X11_strengthOf := ⟨rfl, rfl, rfl, rfl, rfl, rfl⟩
theorem lb_X11_strengthOf_0 : bk_X11_strengthOf.lookup 0 = some [(.iconst 0, 1), (.istore_n 3, 1), (.iconst 0, 1), (.istore 4, 2), (.iconst 0, 1), (.istore 5, 2)] := rfl
theorem lb_X11_strengthOf_8 : bk_X11_strengthOf.lookup 8 = some [(.iload 5, 2), (.aload_n 0, 1), (.iconst 1, 1)] := rfl
theorem lb_X11_strengthOf_12 : bk_X11_strengthOf.lookup 12 = some [(.invokevirtual 281, 3)] := rfl
theorem lb_X11_strengthOf_15 : bk_X11_strengthOf.lookup 15 = some [(.if_icmp .ge 128, 3)] := rfl
theorem lb_X11_strengthOf_18 : bk_X11_strengthOf.lookup 18 = some [(.aload_n 0, 1), (.iload 5, 2), (.iconst 0, 1)] := rfl
theorem lb_X11_strengthOf_22 : bk_X11_strengthOf.lookup 22 = some [(.invokevirtual 293, 3)] := rfl
theorem lb_X11_strengthOf_25 : bk_X11_strengthOf.lookup 25 = some [(.istore 6, 2), (.aload_n 0, 1), (.iload 5, 2), (.iconst 1, 1)] := rfl
theorem lb_X11_strengthOf_31 : bk_X11_strengthOf.lookup 31 = some [(.invokevirtual 293, 3)] := rfl
theorem lb_X11_strengthOf_34 : bk_X11_strengthOf.lookup 34 = some [(.istore 7, 2), (.aload_n 0, 1), (.iload 5, 2), (.iconst 2, 1)] := rfl
theorem lb_X11_strengthOf_40 : bk_X11_strengthOf.lookup 40 = some [(.invokevirtual 293, 3)] := rfl
theorem lb_X11_strengthOf_43 : bk_X11_strengthOf.lookup 43 = some [(.istore 8, 2), (.iload 6, 2), (.iconst 3, 1), (.if_icmp .ne 35, 3)] := rfl
theorem lb_X11_strengthOf_51 : bk_X11_strengthOf.lookup 51 = some [(.iload_n 1, 1), (.iload 7, 2), (.if_icmp .ne 9, 3)] := rfl
theorem lb_X11_strengthOf_57 : bk_X11_strengthOf.lookup 57 = some [(.iload_n 2, 1), (.iload 8, 2), (.if_icmp .eq 15, 3)] := rfl
theorem lb_X11_strengthOf_63 : bk_X11_strengthOf.lookup 63 = some [(.iload_n 1, 1), (.iload 8, 2), (.if_icmp .ne 13, 3)] := rfl
theorem lb_X11_strengthOf_69 : bk_X11_strengthOf.lookup 69 = some [(.iload_n 2, 1), (.iload 7, 2), (.if_icmp .ne 7, 3)] := rfl
theorem lb_X11_strengthOf_75 : bk_X11_strengthOf.lookup 75 = some [(.iconst 1, 1), (.goto 17, 3)] := rfl
theorem lb_X11_strengthOf_79 : bk_X11_strengthOf.lookup 79 = some [(.iconst 0, 1), (.goto 13, 3)] := rfl
theorem lb_X11_strengthOf_83 : bk_X11_strengthOf.lookup 83 = some [(.aload_n 0, 1), (.iload 6, 2), (.iload 7, 2), (.iload 8, 2)] := rfl
theorem lb_X11_strengthOf_90 : bk_X11_strengthOf.lookup 90 = some [(.invokevirtual 296, 3)] := rfl
theorem lb_X11_strengthOf_93 : bk_X11_strengthOf.lookup 93 = some [(.istore 9, 2), (.iload 4, 2), (.ifCond .ne 14, 3)] := rfl
theorem lb_X11_strengthOf_100 : bk_X11_strengthOf.lookup 100 = some [(.iload 9, 2), (.ifCond .eq 13, 3)] := rfl
theorem lb_X11_strengthOf_105 : bk_X11_strengthOf.lookup 105 = some [(.iload 6, 2), (.iconst 4, 1), (.if_icmp .ne 7, 3)] := rfl
theorem lb_X11_strengthOf_111 : bk_X11_strengthOf.lookup 111 = some [(.iconst 1, 1), (.goto 4, 3)] := rfl
theorem lb_X11_strengthOf_115 : bk_X11_strengthOf.lookup 115 = some [(.iconst 0, 1)] := rfl
theorem lb_X11_strengthOf_116 : bk_X11_strengthOf.lookup 116 = some [(.istore 4, 2), (.iload_n 3, 1), (.iload 9, 2), (.ifCond .eq 13, 3)] := rfl
theorem lb_X11_strengthOf_124 : bk_X11_strengthOf.lookup 124 = some [(.iload 6, 2), (.iconst 4, 1), (.if_icmp .eq 7, 3)] := rfl
theorem lb_X11_strengthOf_130 : bk_X11_strengthOf.lookup 130 = some [(.iconst 1, 1), (.goto 4, 3)] := rfl
theorem lb_X11_strengthOf_134 : bk_X11_strengthOf.lookup 134 = some [(.iconst 0, 1)] := rfl
theorem lb_X11_strengthOf_135 : bk_X11_strengthOf.lookup 135 = some [(.iadd, 1), (.istore_n 3, 1), (.iinc 5 1, 3), (.goto (-132), 3)] := rfl
theorem lb_X11_strengthOf_143 : bk_X11_strengthOf.lookup 143 = some [(.iload 4, 2), (.ifCond .eq 7, 3)] := rfl
theorem lb_X11_strengthOf_148 : bk_X11_strengthOf.lookup 148 = some [(.iconst 0, 1), (.goto 4, 3)] := rfl
theorem lb_X11_strengthOf_152 : bk_X11_strengthOf.lookup 152 = some [(.iload_n 3, 1)] := rfl
theorem lb_X11_strengthOf_153 : bk_X11_strengthOf.lookup 153 = some [(.ireturn, 1)] := rfl
def f_X11_strengthOf_116 (a1 : Int32) (a2 : Int32) (k8 : Int32 → Int32 → Int32 → PM → Option (Int32 × PM)) (x3 : Int32) (x5 : Int32) (x6 : Int32) (x9 : Int32) (s0 : Int32) (M : PM) : Option (Int32 × PM) :=
  if x9 = 0 then
    k8 (x3 + 0) s0 (x5 + 1) M
  else
    if x6 = 4 then
      k8 (x3 + 0) s0 (x5 + 1) M
    else
      k8 (x3 + 1) s0 (x5 + 1) M
theorem g_X11_strengthOf_116 (a1 : Int32) (a2 : Int32)  (k8 : Int32 → Int32 → Int32 → PM → Option (Int32 × PM)) (hk8 : ∀ (x3 : Int32) (x4 : Int32) (x5 : Int32) (M : PM) (r : Int32 × PM), k8 x3 x4 x5 M = some r → hr_G 206 8 [some (.ref 275), some (.int a1), some (.int a2), some (.int x3), some (.int x4), some (.int x5), none, none, none, none] [] M (some (.int r.1), r.2)) : ∀ (x3 : Int32) (x5 : Int32) (x6 : Int32) (x9 : Int32) (s0 : Int32) (M : PM) (r : Int32 × PM), f_X11_strengthOf_116 a1 a2 k8 x3 x5 x6 x9 s0 M = some r → hr_G 206 116 [some (.ref 275), some (.int a1), some (.int a2), some (.int x3), none, some (.int x5), some (.int x6), none, none, some (.int x9)] [.int s0] M (some (.int r.1), r.2) := by
  intro x3 x5 x6 x9 s0 M r h
  unfold f_X11_strengthOf_116 at h
  refine hr_Grun mf_X11_strengthOf lb_X11_strengthOf_116 (P := True) (pc' := if x9 = 0 then 134 else 124) (ls' := [some (.ref 275), some (.int a1), some (.int a2), some (.int x3), some (.int s0), some (.int x5), some (.int x6), none, none, some (.int x9)]) (st' := [.int x3]) (M' := M) rfl rfl trivial ?_
  refine hr_Gif h (fun _ h => ?_) (fun _ h => ?_)
  · refine hr_Grun mf_X11_strengthOf lb_X11_strengthOf_134 (P := True) (pc' := 135) (ls' := [some (.ref 275), some (.int a1), some (.int a2), some (.int x3), some (.int s0), some (.int x5), some (.int x6), none, none, some (.int x9)]) (st' := [.int 0, .int x3]) (M' := M) rfl rfl trivial ?_
    refine hr_Grun mf_X11_strengthOf lb_X11_strengthOf_135 (P := True) (pc' := 8) (ls' := [some (.ref 275), some (.int a1), some (.int a2), some (.int (x3 + 0)), some (.int s0), some (.int (x5 + 1)), some (.int x6), none, none, some (.int x9)]) (st' := []) (M' := M) rfl rfl trivial ?_
    refine hr_Gle (ls := [some (.ref 275), some (.int a1), some (.int a2), some (.int (x3 + 0)), some (.int s0), some (.int (x5 + 1)), none, none, none, none]) (hr_le_s (hr_le_s (hr_le_s (hr_le_s (hr_le_s (hr_le_s (hr_le_n (hr_le_n (hr_le_n (hr_le_n hr_le_0)))))))))) ?_
    exact hk8 (x3 + 0) s0 (x5 + 1) M _ h
  · refine hr_Grun mf_X11_strengthOf lb_X11_strengthOf_124 (P := True) (pc' := if x6 = 4 then 134 else 130) (ls' := [some (.ref 275), some (.int a1), some (.int a2), some (.int x3), some (.int s0), some (.int x5), some (.int x6), none, none, some (.int x9)]) (st' := [.int x3]) (M' := M) rfl rfl trivial ?_
    refine hr_Gif h (fun _ h => ?_) (fun _ h => ?_)
    · refine hr_Grun mf_X11_strengthOf lb_X11_strengthOf_134 (P := True) (pc' := 135) (ls' := [some (.ref 275), some (.int a1), some (.int a2), some (.int x3), some (.int s0), some (.int x5), some (.int x6), none, none, some (.int x9)]) (st' := [.int 0, .int x3]) (M' := M) rfl rfl trivial ?_
      refine hr_Grun mf_X11_strengthOf lb_X11_strengthOf_135 (P := True) (pc' := 8) (ls' := [some (.ref 275), some (.int a1), some (.int a2), some (.int (x3 + 0)), some (.int s0), some (.int (x5 + 1)), some (.int x6), none, none, some (.int x9)]) (st' := []) (M' := M) rfl rfl trivial ?_
      refine hr_Gle (ls := [some (.ref 275), some (.int a1), some (.int a2), some (.int (x3 + 0)), some (.int s0), some (.int (x5 + 1)), none, none, none, none]) (hr_le_s (hr_le_s (hr_le_s (hr_le_s (hr_le_s (hr_le_s (hr_le_n (hr_le_n (hr_le_n (hr_le_n hr_le_0)))))))))) ?_
      exact hk8 (x3 + 0) s0 (x5 + 1) M _ h
    · refine hr_Grun mf_X11_strengthOf lb_X11_strengthOf_130 (P := True) (pc' := 135) (ls' := [some (.ref 275), some (.int a1), some (.int a2), some (.int x3), some (.int s0), some (.int x5), some (.int x6), none, none, some (.int x9)]) (st' := [.int 1, .int x3]) (M' := M) rfl rfl trivial ?_
      refine hr_Grun mf_X11_strengthOf lb_X11_strengthOf_135 (P := True) (pc' := 8) (ls' := [some (.ref 275), some (.int a1), some (.int a2), some (.int (x3 + 1)), some (.int s0), some (.int (x5 + 1)), some (.int x6), none, none, some (.int x9)]) (st' := []) (M' := M) rfl rfl trivial ?_
      refine hr_Gle (ls := [some (.ref 275), some (.int a1), some (.int a2), some (.int (x3 + 1)), some (.int s0), some (.int (x5 + 1)), none, none, none, none]) (hr_le_s (hr_le_s (hr_le_s (hr_le_s (hr_le_s (hr_le_s (hr_le_n (hr_le_n (hr_le_n (hr_le_n hr_le_0)))))))))) ?_
      exact hk8 (x3 + 1) s0 (x5 + 1) M _ h
def f_X11_strengthOf_93 (a1 : Int32) (a2 : Int32) (k8 : Int32 → Int32 → Int32 → PM → Option (Int32 × PM)) (x3 : Int32) (x4 : Int32) (x5 : Int32) (x6 : Int32) (s0 : Int32) (M : PM) : Option (Int32 × PM) :=
  if x4 = 0 then
    if s0 = 0 then
      f_X11_strengthOf_116 a1 a2 k8 x3 x5 x6 s0 0 M
    else
      if x6 = 4 then
        f_X11_strengthOf_116 a1 a2 k8 x3 x5 x6 s0 1 M
      else
        f_X11_strengthOf_116 a1 a2 k8 x3 x5 x6 s0 0 M
  else
    f_X11_strengthOf_116 a1 a2 k8 x3 x5 x6 s0 1 M
theorem g_X11_strengthOf_93 (a1 : Int32) (a2 : Int32)  (k8 : Int32 → Int32 → Int32 → PM → Option (Int32 × PM)) (hk8 : ∀ (x3 : Int32) (x4 : Int32) (x5 : Int32) (M : PM) (r : Int32 × PM), k8 x3 x4 x5 M = some r → hr_G 206 8 [some (.ref 275), some (.int a1), some (.int a2), some (.int x3), some (.int x4), some (.int x5), none, none, none, none] [] M (some (.int r.1), r.2)) : ∀ (x3 : Int32) (x4 : Int32) (x5 : Int32) (x6 : Int32) (s0 : Int32) (M : PM) (r : Int32 × PM), f_X11_strengthOf_93 a1 a2 k8 x3 x4 x5 x6 s0 M = some r → hr_G 206 93 [some (.ref 275), some (.int a1), some (.int a2), some (.int x3), some (.int x4), some (.int x5), some (.int x6), none, none, none] [.int s0] M (some (.int r.1), r.2) := by
  intro x3 x4 x5 x6 s0 M r h
  unfold f_X11_strengthOf_93 at h
  refine hr_Grun mf_X11_strengthOf lb_X11_strengthOf_93 (P := True) (pc' := if x4 = 0 then 100 else 111) (ls' := [some (.ref 275), some (.int a1), some (.int a2), some (.int x3), some (.int x4), some (.int x5), some (.int x6), none, none, some (.int s0)]) (st' := []) (M' := M) rfl rfl trivial ?_
  refine hr_Gif h (fun _ h => ?_) (fun _ h => ?_)
  · refine hr_Grun mf_X11_strengthOf lb_X11_strengthOf_100 (P := True) (pc' := if s0 = 0 then 115 else 105) (ls' := [some (.ref 275), some (.int a1), some (.int a2), some (.int x3), some (.int x4), some (.int x5), some (.int x6), none, none, some (.int s0)]) (st' := []) (M' := M) rfl rfl trivial ?_
    refine hr_Gif h (fun _ h => ?_) (fun _ h => ?_)
    · refine hr_Grun mf_X11_strengthOf lb_X11_strengthOf_115 (P := True) (pc' := 116) (ls' := [some (.ref 275), some (.int a1), some (.int a2), some (.int x3), some (.int x4), some (.int x5), some (.int x6), none, none, some (.int s0)]) (st' := [.int 0]) (M' := M) rfl rfl trivial ?_
      refine hr_Gle (ls := [some (.ref 275), some (.int a1), some (.int a2), some (.int x3), none, some (.int x5), some (.int x6), none, none, some (.int s0)]) (hr_le_s (hr_le_s (hr_le_s (hr_le_s (hr_le_n (hr_le_s (hr_le_s (hr_le_n (hr_le_n (hr_le_s hr_le_0)))))))))) ?_
      exact g_X11_strengthOf_116 a1 a2 k8 hk8 x3 x5 x6 s0 0 M _ h
    · refine hr_Grun mf_X11_strengthOf lb_X11_strengthOf_105 (P := True) (pc' := if x6 = 4 then 111 else 115) (ls' := [some (.ref 275), some (.int a1), some (.int a2), some (.int x3), some (.int x4), some (.int x5), some (.int x6), none, none, some (.int s0)]) (st' := []) (M' := M) rfl rfl trivial ?_
      refine hr_Gif h (fun _ h => ?_) (fun _ h => ?_)
      · refine hr_Grun mf_X11_strengthOf lb_X11_strengthOf_111 (P := True) (pc' := 116) (ls' := [some (.ref 275), some (.int a1), some (.int a2), some (.int x3), some (.int x4), some (.int x5), some (.int x6), none, none, some (.int s0)]) (st' := [.int 1]) (M' := M) rfl rfl trivial ?_
        refine hr_Gle (ls := [some (.ref 275), some (.int a1), some (.int a2), some (.int x3), none, some (.int x5), some (.int x6), none, none, some (.int s0)]) (hr_le_s (hr_le_s (hr_le_s (hr_le_s (hr_le_n (hr_le_s (hr_le_s (hr_le_n (hr_le_n (hr_le_s hr_le_0)))))))))) ?_
        exact g_X11_strengthOf_116 a1 a2 k8 hk8 x3 x5 x6 s0 1 M _ h
      · refine hr_Grun mf_X11_strengthOf lb_X11_strengthOf_115 (P := True) (pc' := 116) (ls' := [some (.ref 275), some (.int a1), some (.int a2), some (.int x3), some (.int x4), some (.int x5), some (.int x6), none, none, some (.int s0)]) (st' := [.int 0]) (M' := M) rfl rfl trivial ?_
        refine hr_Gle (ls := [some (.ref 275), some (.int a1), some (.int a2), some (.int x3), none, some (.int x5), some (.int x6), none, none, some (.int s0)]) (hr_le_s (hr_le_s (hr_le_s (hr_le_s (hr_le_n (hr_le_s (hr_le_s (hr_le_n (hr_le_n (hr_le_s hr_le_0)))))))))) ?_
        exact g_X11_strengthOf_116 a1 a2 k8 hk8 x3 x5 x6 s0 0 M _ h
  · refine hr_Grun mf_X11_strengthOf lb_X11_strengthOf_111 (P := True) (pc' := 116) (ls' := [some (.ref 275), some (.int a1), some (.int a2), some (.int x3), some (.int x4), some (.int x5), some (.int x6), none, none, some (.int s0)]) (st' := [.int 1]) (M' := M) rfl rfl trivial ?_
    refine hr_Gle (ls := [some (.ref 275), some (.int a1), some (.int a2), some (.int x3), none, some (.int x5), some (.int x6), none, none, some (.int s0)]) (hr_le_s (hr_le_s (hr_le_s (hr_le_s (hr_le_n (hr_le_s (hr_le_s (hr_le_n (hr_le_n (hr_le_s hr_le_0)))))))))) ?_
    exact g_X11_strengthOf_116 a1 a2 k8 hk8 x3 x5 x6 s0 1 M _ h
def f_X11_strengthOf_63 (a1 : Int32) (a2 : Int32) (k8 : Int32 → Int32 → Int32 → PM → Option (Int32 × PM)) (x3 : Int32) (x4 : Int32) (x5 : Int32) (x6 : Int32) (x7 : Int32) (x8 : Int32) (M : PM) : Option (Int32 × PM) :=
  if a1 = x8 then
    if a2 = x7 then
      f_X11_strengthOf_93 a1 a2 k8 x3 x4 x5 x6 1 M
    else
      f_X11_strengthOf_93 a1 a2 k8 x3 x4 x5 x6 0 M
  else
    f_X11_strengthOf_93 a1 a2 k8 x3 x4 x5 x6 0 M
theorem g_X11_strengthOf_63 (a1 : Int32) (a2 : Int32)  (k8 : Int32 → Int32 → Int32 → PM → Option (Int32 × PM)) (hk8 : ∀ (x3 : Int32) (x4 : Int32) (x5 : Int32) (M : PM) (r : Int32 × PM), k8 x3 x4 x5 M = some r → hr_G 206 8 [some (.ref 275), some (.int a1), some (.int a2), some (.int x3), some (.int x4), some (.int x5), none, none, none, none] [] M (some (.int r.1), r.2)) : ∀ (x3 : Int32) (x4 : Int32) (x5 : Int32) (x6 : Int32) (x7 : Int32) (x8 : Int32) (M : PM) (r : Int32 × PM), f_X11_strengthOf_63 a1 a2 k8 x3 x4 x5 x6 x7 x8 M = some r → hr_G 206 63 [some (.ref 275), some (.int a1), some (.int a2), some (.int x3), some (.int x4), some (.int x5), some (.int x6), some (.int x7), some (.int x8), none] [] M (some (.int r.1), r.2) := by
  intro x3 x4 x5 x6 x7 x8 M r h
  unfold f_X11_strengthOf_63 at h
  refine hr_Grun mf_X11_strengthOf lb_X11_strengthOf_63 (P := True) (pc' := if a1 = x8 then 69 else 79) (ls' := [some (.ref 275), some (.int a1), some (.int a2), some (.int x3), some (.int x4), some (.int x5), some (.int x6), some (.int x7), some (.int x8), none]) (st' := []) (M' := M) rfl rfl trivial ?_
  refine hr_Gif h (fun _ h => ?_) (fun _ h => ?_)
  · refine hr_Grun mf_X11_strengthOf lb_X11_strengthOf_69 (P := True) (pc' := if a2 = x7 then 75 else 79) (ls' := [some (.ref 275), some (.int a1), some (.int a2), some (.int x3), some (.int x4), some (.int x5), some (.int x6), some (.int x7), some (.int x8), none]) (st' := []) (M' := M) rfl rfl trivial ?_
    refine hr_Gif h (fun _ h => ?_) (fun _ h => ?_)
    · refine hr_Grun mf_X11_strengthOf lb_X11_strengthOf_75 (P := True) (pc' := 93) (ls' := [some (.ref 275), some (.int a1), some (.int a2), some (.int x3), some (.int x4), some (.int x5), some (.int x6), some (.int x7), some (.int x8), none]) (st' := [.int 1]) (M' := M) rfl rfl trivial ?_
      refine hr_Gle (ls := [some (.ref 275), some (.int a1), some (.int a2), some (.int x3), some (.int x4), some (.int x5), some (.int x6), none, none, none]) (hr_le_s (hr_le_s (hr_le_s (hr_le_s (hr_le_s (hr_le_s (hr_le_s (hr_le_n (hr_le_n (hr_le_n hr_le_0)))))))))) ?_
      exact g_X11_strengthOf_93 a1 a2 k8 hk8 x3 x4 x5 x6 1 M _ h
    · refine hr_Grun mf_X11_strengthOf lb_X11_strengthOf_79 (P := True) (pc' := 93) (ls' := [some (.ref 275), some (.int a1), some (.int a2), some (.int x3), some (.int x4), some (.int x5), some (.int x6), some (.int x7), some (.int x8), none]) (st' := [.int 0]) (M' := M) rfl rfl trivial ?_
      refine hr_Gle (ls := [some (.ref 275), some (.int a1), some (.int a2), some (.int x3), some (.int x4), some (.int x5), some (.int x6), none, none, none]) (hr_le_s (hr_le_s (hr_le_s (hr_le_s (hr_le_s (hr_le_s (hr_le_s (hr_le_n (hr_le_n (hr_le_n hr_le_0)))))))))) ?_
      exact g_X11_strengthOf_93 a1 a2 k8 hk8 x3 x4 x5 x6 0 M _ h
  · refine hr_Grun mf_X11_strengthOf lb_X11_strengthOf_79 (P := True) (pc' := 93) (ls' := [some (.ref 275), some (.int a1), some (.int a2), some (.int x3), some (.int x4), some (.int x5), some (.int x6), some (.int x7), some (.int x8), none]) (st' := [.int 0]) (M' := M) rfl rfl trivial ?_
    refine hr_Gle (ls := [some (.ref 275), some (.int a1), some (.int a2), some (.int x3), some (.int x4), some (.int x5), some (.int x6), none, none, none]) (hr_le_s (hr_le_s (hr_le_s (hr_le_s (hr_le_s (hr_le_s (hr_le_s (hr_le_n (hr_le_n (hr_le_n hr_le_0)))))))))) ?_
    exact g_X11_strengthOf_93 a1 a2 k8 hk8 x3 x4 x5 x6 0 M _ h
def f_X11_strengthOf_8 (a1 : Int32) (a2 : Int32) : Nat → Int32 → Int32 → Int32 → PM → Option (Int32 × PM)
  | 0, _, _, _, _ => none
  | f + 1, x3, x4, x5, M =>
    hr_bd (f_X11_of 1 M) (fun v2 M2 =>
    if v2 ≤ x5 then
      if x4 = 0 then
        some (x3, M2)
      else
        some (0, M2)
    else
      hr_bd (f_X11_ruleOf x5 0 M2) (fun v8 M8 =>
      hr_bd (f_X11_ruleOf x5 1 M8) (fun v10 M10 =>
      hr_bd (f_X11_ruleOf x5 2 M10) (fun v12 M12 =>
      if v8 = 3 then
        if a1 = v10 then
          if a2 = v12 then
            f_X11_strengthOf_93 a1 a2 (fun x3 x4 x5 M => f_X11_strengthOf_8 a1 a2 f x3 x4 x5 M) x3 x4 x5 v8 1 M12
          else
            f_X11_strengthOf_63 a1 a2 (fun x3 x4 x5 M => f_X11_strengthOf_8 a1 a2 f x3 x4 x5 M) x3 x4 x5 v8 v10 v12 M12
        else
          f_X11_strengthOf_63 a1 a2 (fun x3 x4 x5 M => f_X11_strengthOf_8 a1 a2 f x3 x4 x5 M) x3 x4 x5 v8 v10 v12 M12
      else
        hr_bd (f_X11_holds v8 v10 v12 M12) (fun v18 M18 =>
        f_X11_strengthOf_93 a1 a2 (fun x3 x4 x5 M => f_X11_strengthOf_8 a1 a2 f x3 x4 x5 M) x3 x4 x5 v8 v18 M18)))))
theorem g_X11_strengthOf_8 (a1 : Int32) (a2 : Int32)  : ∀ (f : Nat) (x3 : Int32) (x4 : Int32) (x5 : Int32) (M : PM) (r : Int32 × PM), f_X11_strengthOf_8 a1 a2 f x3 x4 x5 M = some r → hr_G 206 8 [some (.ref 275), some (.int a1), some (.int a2), some (.int x3), some (.int x4), some (.int x5), none, none, none, none] [] M (some (.int r.1), r.2) := by
  intro f
  induction f with
  | zero => intro x3 x4 x5 M r h; cases h
  | succ f ih =>
    intro x3 x4 x5 M r h
    rw [f_X11_strengthOf_8.eq_2] at h
    refine hr_Grun mf_X11_strengthOf lb_X11_strengthOf_8 (P := True) (pc' := 12) (ls' := [some (.ref 275), some (.int a1), some (.int a2), some (.int x3), some (.int x4), some (.int x5), none, none, none, none]) (st' := [.int 1, .ref 275, .int x5]) (M' := M) rfl rfl trivial ?_
    refine hr_Fb h (fun v2 M2 e2 h => ?_)
    refine hr_Gcv mf_X11_strengthOf mf_X11_of lb_X11_strengthOf_12 (b := 275) (as := [.int 1]) (rest := [.int x5]) (st2 := [.int v2, .int x5]) (v := some (.int v2)) (M1 := M2) rfl rfl rfl rfl rfl rfl K_275 (g_X11_of 1 _ _ e2) rfl rfl ?_
    refine hr_Grun mf_X11_strengthOf lb_X11_strengthOf_15 (P := True) (pc' := if v2 ≤ x5 then 143 else 18) (ls' := [some (.ref 275), some (.int a1), some (.int a2), some (.int x3), some (.int x4), some (.int x5), none, none, none, none]) (st' := []) (M' := M2) rfl rfl trivial ?_
    refine hr_Gif h (fun _ h => ?_) (fun _ h => ?_)
    · refine hr_Grun mf_X11_strengthOf lb_X11_strengthOf_143 (P := True) (pc' := if x4 = 0 then 152 else 148) (ls' := [some (.ref 275), some (.int a1), some (.int a2), some (.int x3), some (.int x4), some (.int x5), none, none, none, none]) (st' := []) (M' := M2) rfl rfl trivial ?_
      refine hr_Gif h (fun _ h => ?_) (fun _ h => ?_)
      · refine hr_Grun mf_X11_strengthOf lb_X11_strengthOf_152 (P := True) (pc' := 153) (ls' := [some (.ref 275), some (.int a1), some (.int a2), some (.int x3), some (.int x4), some (.int x5), none, none, none, none]) (st' := [.int x3]) (M' := M2) rfl rfl trivial ?_
        cases h
        exact hr_Gret mf_X11_strengthOf lb_X11_strengthOf_153 rfl rfl trivial
      · refine hr_Grun mf_X11_strengthOf lb_X11_strengthOf_148 (P := True) (pc' := 153) (ls' := [some (.ref 275), some (.int a1), some (.int a2), some (.int x3), some (.int x4), some (.int x5), none, none, none, none]) (st' := [.int 0]) (M' := M2) rfl rfl trivial ?_
        cases h
        exact hr_Gret mf_X11_strengthOf lb_X11_strengthOf_153 rfl rfl trivial
    · refine hr_Grun mf_X11_strengthOf lb_X11_strengthOf_18 (P := True) (pc' := 22) (ls' := [some (.ref 275), some (.int a1), some (.int a2), some (.int x3), some (.int x4), some (.int x5), none, none, none, none]) (st' := [.int 0, .int x5, .ref 275]) (M' := M2) rfl rfl trivial ?_
      refine hr_Fb h (fun v8 M8 e8 h => ?_)
      refine hr_Gcv mf_X11_strengthOf mf_X11_ruleOf lb_X11_strengthOf_22 (b := 275) (as := [.int x5, .int 0]) (rest := []) (st2 := [.int v8]) (v := some (.int v8)) (M1 := M8) rfl rfl rfl rfl rfl rfl K_275 (g_X11_ruleOf x5 0 _ _ e8) rfl rfl ?_
      refine hr_Grun mf_X11_strengthOf lb_X11_strengthOf_25 (P := True) (pc' := 31) (ls' := [some (.ref 275), some (.int a1), some (.int a2), some (.int x3), some (.int x4), some (.int x5), some (.int v8), none, none, none]) (st' := [.int 1, .int x5, .ref 275]) (M' := M8) rfl rfl trivial ?_
      refine hr_Fb h (fun v10 M10 e10 h => ?_)
      refine hr_Gcv mf_X11_strengthOf mf_X11_ruleOf lb_X11_strengthOf_31 (b := 275) (as := [.int x5, .int 1]) (rest := []) (st2 := [.int v10]) (v := some (.int v10)) (M1 := M10) rfl rfl rfl rfl rfl rfl K_275 (g_X11_ruleOf x5 1 _ _ e10) rfl rfl ?_
      refine hr_Grun mf_X11_strengthOf lb_X11_strengthOf_34 (P := True) (pc' := 40) (ls' := [some (.ref 275), some (.int a1), some (.int a2), some (.int x3), some (.int x4), some (.int x5), some (.int v8), some (.int v10), none, none]) (st' := [.int 2, .int x5, .ref 275]) (M' := M10) rfl rfl trivial ?_
      refine hr_Fb h (fun v12 M12 e12 h => ?_)
      refine hr_Gcv mf_X11_strengthOf mf_X11_ruleOf lb_X11_strengthOf_40 (b := 275) (as := [.int x5, .int 2]) (rest := []) (st2 := [.int v12]) (v := some (.int v12)) (M1 := M12) rfl rfl rfl rfl rfl rfl K_275 (g_X11_ruleOf x5 2 _ _ e12) rfl rfl ?_
      refine hr_Grun mf_X11_strengthOf lb_X11_strengthOf_43 (P := True) (pc' := if v8 = 3 then 51 else 83) (ls' := [some (.ref 275), some (.int a1), some (.int a2), some (.int x3), some (.int x4), some (.int x5), some (.int v8), some (.int v10), some (.int v12), none]) (st' := []) (M' := M12) rfl rfl trivial ?_
      refine hr_Gif h (fun _ h => ?_) (fun _ h => ?_)
      · refine hr_Grun mf_X11_strengthOf lb_X11_strengthOf_51 (P := True) (pc' := if a1 = v10 then 57 else 63) (ls' := [some (.ref 275), some (.int a1), some (.int a2), some (.int x3), some (.int x4), some (.int x5), some (.int v8), some (.int v10), some (.int v12), none]) (st' := []) (M' := M12) rfl rfl trivial ?_
        refine hr_Gif h (fun _ h => ?_) (fun _ h => ?_)
        · refine hr_Grun mf_X11_strengthOf lb_X11_strengthOf_57 (P := True) (pc' := if a2 = v12 then 75 else 63) (ls' := [some (.ref 275), some (.int a1), some (.int a2), some (.int x3), some (.int x4), some (.int x5), some (.int v8), some (.int v10), some (.int v12), none]) (st' := []) (M' := M12) rfl rfl trivial ?_
          refine hr_Gif h (fun _ h => ?_) (fun _ h => ?_)
          · refine hr_Grun mf_X11_strengthOf lb_X11_strengthOf_75 (P := True) (pc' := 93) (ls' := [some (.ref 275), some (.int a1), some (.int a2), some (.int x3), some (.int x4), some (.int x5), some (.int v8), some (.int v10), some (.int v12), none]) (st' := [.int 1]) (M' := M12) rfl rfl trivial ?_
            refine hr_Gle (ls := [some (.ref 275), some (.int a1), some (.int a2), some (.int x3), some (.int x4), some (.int x5), some (.int v8), none, none, none]) (hr_le_s (hr_le_s (hr_le_s (hr_le_s (hr_le_s (hr_le_s (hr_le_s (hr_le_n (hr_le_n (hr_le_n hr_le_0)))))))))) ?_
            exact g_X11_strengthOf_93 a1 a2 (fun x3 x4 x5 M => f_X11_strengthOf_8 a1 a2 f x3 x4 x5 M) (fun x3 x4 x5 M r h => ih x3 x4 x5 M r h) x3 x4 x5 v8 1 M12 _ h
          · exact g_X11_strengthOf_63 a1 a2 (fun x3 x4 x5 M => f_X11_strengthOf_8 a1 a2 f x3 x4 x5 M) (fun x3 x4 x5 M r h => ih x3 x4 x5 M r h) x3 x4 x5 v8 v10 v12 M12 _ h
        · exact g_X11_strengthOf_63 a1 a2 (fun x3 x4 x5 M => f_X11_strengthOf_8 a1 a2 f x3 x4 x5 M) (fun x3 x4 x5 M r h => ih x3 x4 x5 M r h) x3 x4 x5 v8 v10 v12 M12 _ h
      · refine hr_Grun mf_X11_strengthOf lb_X11_strengthOf_83 (P := True) (pc' := 90) (ls' := [some (.ref 275), some (.int a1), some (.int a2), some (.int x3), some (.int x4), some (.int x5), some (.int v8), some (.int v10), some (.int v12), none]) (st' := [.int v12, .int v10, .int v8, .ref 275]) (M' := M12) rfl rfl trivial ?_
        refine hr_Fb h (fun v18 M18 e18 h => ?_)
        refine hr_Gcv mf_X11_strengthOf mf_X11_holds lb_X11_strengthOf_90 (b := 275) (as := [.int v8, .int v10, .int v12]) (rest := []) (st2 := [.int v18]) (v := some (.int v18)) (M1 := M18) rfl rfl rfl rfl rfl rfl K_275 (g_X11_holds v8 v10 v12 _ _ e18) rfl rfl ?_
        refine hr_Gle (ls := [some (.ref 275), some (.int a1), some (.int a2), some (.int x3), some (.int x4), some (.int x5), some (.int v8), none, none, none]) (hr_le_s (hr_le_s (hr_le_s (hr_le_s (hr_le_s (hr_le_s (hr_le_s (hr_le_n (hr_le_n (hr_le_n hr_le_0)))))))))) ?_
        exact g_X11_strengthOf_93 a1 a2 (fun x3 x4 x5 M => f_X11_strengthOf_8 a1 a2 f x3 x4 x5 M) (fun x3 x4 x5 M r h => ih x3 x4 x5 M r h) x3 x4 x5 v8 v18 M18 _ h
def f_X11_strengthOf (a1 : Int32) (a2 : Int32) (M : PM) : Option (Int32 × PM) :=
  f_X11_strengthOf_8 a1 a2 FU 0 0 0 M
theorem g_X11_strengthOf (a1 : Int32) (a2 : Int32) : ∀ (M : PM) (r : Int32 × PM), f_X11_strengthOf a1 a2 M = some r → hr_G 206 0 [some (.ref 275), some (.int a1), some (.int a2), none, none, none, none, none, none, none] [] M (some (.int r.1), r.2) := by
  intro M r h
  unfold f_X11_strengthOf at h
  refine hr_Grun mf_X11_strengthOf lb_X11_strengthOf_0 (P := True) (pc' := 8) (ls' := [some (.ref 275), some (.int a1), some (.int a2), some (.int 0), some (.int 0), some (.int 0), none, none, none, none]) (st' := []) (M' := M) rfl rfl trivial ?_
  exact g_X11_strengthOf_8 a1 a2 FU 0 0 0 M _ h
theorem mf_X11_hand : hr_mf 207 11 3 (some .boolean) 4 1 bk_X11_hand := ⟨rfl, rfl, rfl, rfl, rfl, rfl⟩
theorem lb_X11_hand_0 : bk_X11_hand.lookup 0 = some [(.aload_n 0, 1), (.iconst 0, 1), (.iload_n 1, 1)] := rfl
theorem lb_X11_hand_3 : bk_X11_hand.lookup 3 = some [(.invokevirtual 269, 3)] := rfl
theorem lb_X11_hand_6 : bk_X11_hand.lookup 6 = some [(.ifCond .ne 5, 3)] := rfl
theorem lb_X11_hand_9 : bk_X11_hand.lookup 9 = some [(.iconst 0, 1)] := rfl
theorem lb_X11_hand_10 : bk_X11_hand.lookup 10 = some [(.ireturn, 1)] := rfl
theorem lb_X11_hand_11 : bk_X11_hand.lookup 11 = some [(.aload_n 0, 1), (.iload_n 1, 1), (.putfield 278, 3), (.aload_n 0, 1), (.aload_n 0, 1), (.iconst 0, 1)] := rfl
theorem lb_X11_hand_19 : bk_X11_hand.lookup 19 = some [(.invokevirtual 281, 3)] := rfl
theorem lb_X11_hand_22 : bk_X11_hand.lookup 22 = some [(.putfield 299, 3), (.iconst 0, 1), (.istore_n 2, 1)] := rfl
theorem lb_X11_hand_27 : bk_X11_hand.lookup 27 = some [(.iload_n 2, 1), (.aload_n 0, 1), (.getfield 299, 3), (.if_icmp .ge 63, 3)] := rfl
theorem lb_X11_hand_35 : bk_X11_hand.lookup 35 = some [(.iconst 0, 1), (.istore_n 3, 1)] := rfl
theorem lb_X11_hand_37 : bk_X11_hand.lookup 37 = some [(.iload_n 3, 1), (.aload_n 0, 1), (.getfield 299, 3), (.if_icmp .ge 47, 3)] := rfl
theorem lb_X11_hand_45 : bk_X11_hand.lookup 45 = some [(.aload_n 0, 1), (.iconst 0, 1), (.iload_n 2, 1)] := rfl
theorem lb_X11_hand_48 : bk_X11_hand.lookup 48 = some [(.invokevirtual 302, 3)] := rfl
theorem lb_X11_hand_51 : bk_X11_hand.lookup 51 = some [(.aload_n 0, 1), (.iconst 3, 1), (.iload_n 3, 1)] := rfl
theorem lb_X11_hand_54 : bk_X11_hand.lookup 54 = some [(.invokevirtual 302, 3)] := rfl
theorem lb_X11_hand_57 : bk_X11_hand.lookup 57 = some [(.aload_n 0, 1), (.getfield 47, 3), (.bipush 10, 2), (.iload_n 2, 1), (.imul, 1), (.iload_n 3, 1), (.iadd, 1), (.iload_n 2, 1), (.iload_n 3, 1), (.if_icmp .ne 7, 3)] := rfl
theorem lb_X11_hand_72 : bk_X11_hand.lookup 72 = some [(.iconst 0, 1), (.goto 9, 3)] := rfl
theorem lb_X11_hand_76 : bk_X11_hand.lookup 76 = some [(.aload_n 0, 1), (.iload_n 2, 1), (.iload_n 3, 1)] := rfl
theorem lb_X11_hand_79 : bk_X11_hand.lookup 79 = some [(.invokevirtual 305, 3)] := rfl
theorem lb_X11_hand_82 : bk_X11_hand.lookup 82 = some [(.iastore, 1), (.iinc 3 1, 3), (.goto (-49), 3)] := rfl
theorem lb_X11_hand_89 : bk_X11_hand.lookup 89 = some [(.iinc 2 1, 3), (.goto (-65), 3)] := rfl
theorem lb_X11_hand_95 : bk_X11_hand.lookup 95 = some [(.iconst 1, 1)] := rfl
theorem lb_X11_hand_96 : bk_X11_hand.lookup 96 = some [(.ireturn, 1)] := rfl
def f_X11_hand_37 (a1 : Int32) (k27 : Int32 → PM → Option (Int32 × PM)) : Nat → Int32 → Int32 → PM → Option (Int32 × PM)
  | 0, _, _, _ => none
  | f + 1, x2, x3, M =>
    if (M.1 275 25) ≤ x3 then
      k27 (x2 + 1) M
    else
      hr_bd (f_X11_layHue 0 x2 M) (fun v4 M4 =>
      hr_bd (f_X11_layHue 3 x3 M4) (fun v6 M6 =>
      if x2 = x3 then
        if inB ((10 * x2) + x3) 100 = true then 
        f_X11_hand_37 a1 k27 f x2 (x3 + 1) (hr_si M6 288 ((10 * x2) + x3).toNatClampNeg 0) else none
      else
        hr_bd (f_X11_strengthOf x2 x3 M6) (fun v11 M11 =>
        if inB ((10 * x2) + x3) 100 = true then 
        f_X11_hand_37 a1 k27 f x2 (x3 + 1) (hr_si M11 288 ((10 * x2) + x3).toNatClampNeg v11) else none)))
theorem g_X11_hand_37 (a1 : Int32)  (k27 : Int32 → PM → Option (Int32 × PM)) (hk27 : ∀ (x2 : Int32) (M : PM) (r : Int32 × PM), k27 x2 M = some r → hr_G 207 27 [some (.ref 275), none, some (.int x2), none] [] M (some (.int r.1), r.2)) : ∀ (f : Nat) (x2 : Int32) (x3 : Int32) (M : PM) (r : Int32 × PM), f_X11_hand_37 a1 k27 f x2 x3 M = some r → hr_G 207 37 [some (.ref 275), none, some (.int x2), some (.int x3)] [] M (some (.int r.1), r.2) := by
  intro f
  induction f with
  | zero => intro x2 x3 M r h; cases h
  | succ f ih =>
    intro x2 x3 M r h
    rw [f_X11_hand_37.eq_2] at h
    refine hr_Grun mf_X11_hand lb_X11_hand_37 (P := hr_K 275 = 10 ∧ True) (pc' := if (M.1 275 25) ≤ x3 then 89 else 45) (ls' := [some (.ref 275), none, some (.int x2), some (.int x3)]) (st' := []) (M' := M) rfl rfl ⟨K_275, trivial⟩ ?_
    refine hr_Gif h (fun _ h => ?_) (fun _ h => ?_)
    · refine hr_Grun mf_X11_hand lb_X11_hand_89 (P := True) (pc' := 27) (ls' := [some (.ref 275), none, some (.int (x2 + 1)), some (.int x3)]) (st' := []) (M' := M) rfl rfl trivial ?_
      refine hr_Gle (ls := [some (.ref 275), none, some (.int (x2 + 1)), none]) (hr_le_s (hr_le_n (hr_le_s (hr_le_n hr_le_0)))) ?_
      exact hk27 (x2 + 1) M _ h
    · refine hr_Grun mf_X11_hand lb_X11_hand_45 (P := True) (pc' := 48) (ls' := [some (.ref 275), none, some (.int x2), some (.int x3)]) (st' := [.int x2, .int 0, .ref 275]) (M' := M) rfl rfl trivial ?_
      refine hr_Fb h (fun v4 M4 e4 h => ?_)
      refine hr_Gcv mf_X11_hand mf_X11_layHue lb_X11_hand_48 (b := 275) (as := [.int 0, .int x2]) (rest := []) (st2 := []) (v := none) (M1 := M4) rfl rfl rfl rfl rfl rfl K_275 (g_X11_layHue 0 x2 _ _ e4) rfl rfl ?_
      refine hr_Grun mf_X11_hand lb_X11_hand_51 (P := True) (pc' := 54) (ls' := [some (.ref 275), none, some (.int x2), some (.int x3)]) (st' := [.int x3, .int 3, .ref 275]) (M' := M4) rfl rfl trivial ?_
      refine hr_Fb h (fun v6 M6 e6 h => ?_)
      refine hr_Gcv mf_X11_hand mf_X11_layHue lb_X11_hand_54 (b := 275) (as := [.int 3, .int x3]) (rest := []) (st2 := []) (v := none) (M1 := M6) rfl rfl rfl rfl rfl rfl K_275 (g_X11_layHue 3 x3 _ _ e6) rfl rfl ?_
      refine hr_Grun mf_X11_hand lb_X11_hand_57 (P := hr_K 275 = 10 ∧ True) (pc' := if x2 = x3 then 72 else 76) (ls' := [some (.ref 275), none, some (.int x2), some (.int x3)]) (st' := [.int ((10 * x2) + x3), .ref 288]) (M' := M6) rfl rfl ⟨K_275, trivial⟩ ?_
      refine hr_Gif h (fun _ h => ?_) (fun _ h => ?_)
      · refine hr_Grun mf_X11_hand lb_X11_hand_72 (P := True) (pc' := 82) (ls' := [some (.ref 275), none, some (.int x2), some (.int x3)]) (st' := [.int 0, .int ((10 * x2) + x3), .ref 288]) (M' := M6) rfl rfl trivial ?_
        refine hr_Fg h (fun hg9_0 h => ?_)
        refine hr_Grun mf_X11_hand lb_X11_hand_82 (P := ((hr_K 288 = 12 ∧ 288 < hr_n) ∧ vp_in ((10 * x2) + x3) (hr_N 288)) ∧ True) (pc' := 37) (ls' := [some (.ref 275), none, some (.int x2), some (.int (x3 + 1))]) (st' := []) (M' := hr_si M6 288 ((10 * x2) + x3).toNatClampNeg 0) rfl rfl ⟨⟨⟨K_288, L_288⟩, (inB_N N_288 hg9_0)⟩, trivial⟩ ?_
        exact ih x2 (x3 + 1) (hr_si M6 288 ((10 * x2) + x3).toNatClampNeg 0) _ h
      · refine hr_Grun mf_X11_hand lb_X11_hand_76 (P := True) (pc' := 79) (ls' := [some (.ref 275), none, some (.int x2), some (.int x3)]) (st' := [.int x3, .int x2, .ref 275, .int ((10 * x2) + x3), .ref 288]) (M' := M6) rfl rfl trivial ?_
        refine hr_Fb h (fun v11 M11 e11 h => ?_)
        refine hr_Gcv mf_X11_hand mf_X11_strengthOf lb_X11_hand_79 (b := 275) (as := [.int x2, .int x3]) (rest := [.int ((10 * x2) + x3), .ref 288]) (st2 := [.int v11, .int ((10 * x2) + x3), .ref 288]) (v := some (.int v11)) (M1 := M11) rfl rfl rfl rfl rfl rfl K_275 (g_X11_strengthOf x2 x3 _ _ e11) rfl rfl ?_
        refine hr_Fg h (fun hg12_0 h => ?_)
        refine hr_Grun mf_X11_hand lb_X11_hand_82 (P := ((hr_K 288 = 12 ∧ 288 < hr_n) ∧ vp_in ((10 * x2) + x3) (hr_N 288)) ∧ True) (pc' := 37) (ls' := [some (.ref 275), none, some (.int x2), some (.int (x3 + 1))]) (st' := []) (M' := hr_si M11 288 ((10 * x2) + x3).toNatClampNeg v11) rfl rfl ⟨⟨⟨K_288, L_288⟩, (inB_N N_288 hg12_0)⟩, trivial⟩ ?_
        exact ih x2 (x3 + 1) (hr_si M11 288 ((10 * x2) + x3).toNatClampNeg v11) _ h
def f_X11_hand_27 (a1 : Int32) : Nat → Int32 → PM → Option (Int32 × PM)
  | 0, _, _ => none
  | f + 1, x2, M =>
    if (M.1 275 25) ≤ x2 then
      some (1, M)
    else
      f_X11_hand_37 a1 (fun x2 M => f_X11_hand_27 a1 f x2 M) FU x2 0 M
theorem g_X11_hand_27 (a1 : Int32)  : ∀ (f : Nat) (x2 : Int32) (M : PM) (r : Int32 × PM), f_X11_hand_27 a1 f x2 M = some r → hr_G 207 27 [some (.ref 275), none, some (.int x2), none] [] M (some (.int r.1), r.2) := by
  intro f
  induction f with
  | zero => intro x2 M r h; cases h
  | succ f ih =>
    intro x2 M r h
    rw [f_X11_hand_27.eq_2] at h
    refine hr_Grun mf_X11_hand lb_X11_hand_27 (P := hr_K 275 = 10 ∧ True) (pc' := if (M.1 275 25) ≤ x2 then 95 else 35) (ls' := [some (.ref 275), none, some (.int x2), none]) (st' := []) (M' := M) rfl rfl ⟨K_275, trivial⟩ ?_
    refine hr_Gif h (fun _ h => ?_) (fun _ h => ?_)
    · refine hr_Grun mf_X11_hand lb_X11_hand_95 (P := True) (pc' := 96) (ls' := [some (.ref 275), none, some (.int x2), none]) (st' := [.int 1]) (M' := M) rfl rfl trivial ?_
      cases h
      exact hr_Gret mf_X11_hand lb_X11_hand_96 rfl rfl (Or.inr rfl)
    · refine hr_Grun mf_X11_hand lb_X11_hand_35 (P := True) (pc' := 37) (ls' := [some (.ref 275), none, some (.int x2), some (.int 0)]) (st' := []) (M' := M) rfl rfl trivial ?_
      exact g_X11_hand_37 a1 (fun x2 M => f_X11_hand_27 a1 f x2 M) (fun x2 M r h => ih x2 M r h) FU x2 0 M _ h
def f_X11_hand (a1 : Int32) (M : PM) : Option (Int32 × PM) :=
  hr_bd (f_X11_is 0 a1 M) (fun v2 M2 =>
  if v2 = 0 then
    some (0, M2)
  else
    hr_bd (f_X11_of 0 (hr_si M2 275 24 a1)) (fun v6 M6 =>
    f_X11_hand_27 a1 FU 0 (hr_si M6 275 25 v6)))
theorem g_X11_hand (a1 : Int32) : ∀ (M : PM) (r : Int32 × PM), f_X11_hand a1 M = some r → hr_G 207 0 [some (.ref 275), some (.int a1), none, none] [] M (some (.int r.1), r.2) := by
  intro M r h
  unfold f_X11_hand at h
  refine hr_Grun mf_X11_hand lb_X11_hand_0 (P := True) (pc' := 3) (ls' := [some (.ref 275), some (.int a1), none, none]) (st' := [.int a1, .int 0, .ref 275]) (M' := M) rfl rfl trivial ?_
  refine hr_Fb h (fun v2 M2 e2 h => ?_)
  refine hr_Gcv mf_X11_hand mf_X11_is lb_X11_hand_3 (b := 275) (as := [.int 0, .int a1]) (rest := []) (st2 := [.int v2]) (v := some (.int v2)) (M1 := M2) rfl rfl rfl rfl rfl rfl K_275 (g_X11_is 0 a1 _ _ e2) rfl rfl ?_
  refine hr_Grun mf_X11_hand lb_X11_hand_6 (P := True) (pc' := if v2 = 0 then 9 else 11) (ls' := [some (.ref 275), some (.int a1), none, none]) (st' := []) (M' := M2) rfl rfl trivial ?_
  refine hr_Gif h (fun _ h => ?_) (fun _ h => ?_)
  · refine hr_Grun mf_X11_hand lb_X11_hand_9 (P := True) (pc' := 10) (ls' := [some (.ref 275), some (.int a1), none, none]) (st' := [.int 0]) (M' := M2) rfl rfl trivial ?_
    cases h
    exact hr_Gret mf_X11_hand lb_X11_hand_10 rfl rfl (Or.inl rfl)
  · refine hr_Grun mf_X11_hand lb_X11_hand_11 (P := (hr_K 275 = 10 ∧ 275 < hr_n) ∧ True) (pc' := 19) (ls' := [some (.ref 275), some (.int a1), none, none]) (st' := [.int 0, .ref 275, .ref 275]) (M' := hr_si M2 275 24 a1) rfl rfl ⟨⟨K_275, L_275⟩, trivial⟩ ?_
    refine hr_Fb h (fun v6 M6 e6 h => ?_)
    refine hr_Gcv mf_X11_hand mf_X11_of lb_X11_hand_19 (b := 275) (as := [.int 0]) (rest := [.ref 275]) (st2 := [.int v6, .ref 275]) (v := some (.int v6)) (M1 := M6) rfl rfl rfl rfl rfl rfl K_275 (g_X11_of 0 _ _ e6) rfl rfl ?_
    refine hr_Grun mf_X11_hand lb_X11_hand_22 (P := (hr_K 275 = 10 ∧ 275 < hr_n) ∧ True) (pc' := 27) (ls' := [some (.ref 275), some (.int a1), some (.int 0), none]) (st' := []) (M' := hr_si M6 275 25 v6) rfl rfl ⟨⟨K_275, L_275⟩, trivial⟩ ?_
    refine hr_Gle (ls := [some (.ref 275), none, some (.int 0), none]) (hr_le_s (hr_le_n (hr_le_s (hr_le_n hr_le_0)))) ?_
    exact g_X11_hand_27 a1 FU 0 (hr_si M6 275 25 v6) _ h
theorem mf_X11_isHue : hr_mf 208 11 1 (some .boolean) 2 1 bk_X11_isHue := ⟨rfl, rfl, rfl, rfl, rfl, rfl⟩
theorem lb_X11_isHue_0 : bk_X11_isHue.lookup 0 = some [(.iload_n 1, 1), (.iconst 0, 1), (.aload_n 0, 1), (.getfield 299, 3), (.iconst 1, 1), (.isub, 1)] := rfl
theorem lb_X11_isHue_8 : bk_X11_isHue.lookup 8 = some [(.invokestatic 112, 3)] := rfl
theorem lb_X11_isHue_11 : bk_X11_isHue.lookup 11 = some [(.ireturn, 1)] := rfl
def f_X11_isHue (a1 : Int32) (M : PM) : Option (Int32 × PM) :=
  hr_bd (f_X11_in a1 0 ((M.1 275 25) - 1) M) (fun v2 M2 =>
  if v2 = 0 ∨ v2 = 1 then some (v2, M2) else none)
theorem g_X11_isHue (a1 : Int32) : ∀ (M : PM) (r : Int32 × PM), f_X11_isHue a1 M = some r → hr_G 208 0 [some (.ref 275), some (.int a1)] [] M (some (.int r.1), r.2) := by
  intro M r h
  unfold f_X11_isHue at h
  refine hr_Grun mf_X11_isHue lb_X11_isHue_0 (P := hr_K 275 = 10 ∧ True) (pc' := 8) (ls' := [some (.ref 275), some (.int a1)]) (st' := [.int ((M.1 275 25) - 1), .int 0, .int a1]) (M' := M) rfl rfl ⟨K_275, trivial⟩ ?_
  refine hr_Fb h (fun v2 M2 e2 h => ?_)
  refine hr_Gcs mf_X11_isHue mf_X11_in lb_X11_isHue_8 (as := [.int a1, .int 0, .int ((M.1 275 25) - 1)]) (rest := []) (st2 := [.int v2]) (v := some (.int v2)) (M1 := M2) rfl rfl rfl rfl rfl rfl (g_X11_in a1 0 ((M.1 275 25) - 1) _ _ e2) rfl rfl ?_
  refine hr_Fg h (fun hz h => ?_)
  cases h
  exact hr_Gret mf_X11_isHue lb_X11_isHue_11 rfl rfl hz
theorem mf_X11_has : hr_mf 163 11 0 (some .boolean) 2 2 bk_X11_has := ⟨rfl, rfl, rfl, rfl, rfl, rfl⟩
theorem lb_X11_has_0 : bk_X11_has.lookup 0 = some [(.iload_n 0, 1), (.iload_n 1, 1), (.ishr, 1), (.iconst 1, 1), (.iand, 1), (.iconst 1, 1), (.if_icmp .ne 7, 3)] := rfl
theorem lb_X11_has_9 : bk_X11_has.lookup 9 = some [(.iconst 1, 1), (.goto 4, 3)] := rfl
theorem lb_X11_has_13 : bk_X11_has.lookup 13 = some [(.iconst 0, 1)] := rfl
theorem lb_X11_has_14 : bk_X11_has.lookup 14 = some [(.ireturn, 1)] := rfl
def f_X11_has (a0 : Int32) (a1 : Int32) (M : PM) : Option (Int32 × PM) :=
  if ((js a0 a1) &&& 1) = 1 then
    some (1, M)
  else
    some (0, M)
theorem g_X11_has (a0 : Int32) (a1 : Int32) : ∀ (M : PM) (r : Int32 × PM), f_X11_has a0 a1 M = some r → hr_G 163 0 [some (.int a0), some (.int a1)] [] M (some (.int r.1), r.2) := by
  intro M r h
  unfold f_X11_has at h
  refine hr_Grun mf_X11_has lb_X11_has_0 (P := True) (pc' := if ((js a0 a1) &&& 1) = 1 then 9 else 13) (ls' := [some (.int a0), some (.int a1)]) (st' := []) (M' := M) rfl rfl trivial ?_
  refine hr_Gif h (fun _ h => ?_) (fun _ h => ?_)
  · refine hr_Grun mf_X11_has lb_X11_has_9 (P := True) (pc' := 14) (ls' := [some (.int a0), some (.int a1)]) (st' := [.int 1]) (M' := M) rfl rfl trivial ?_
    cases h
    exact hr_Gret mf_X11_has lb_X11_has_14 rfl rfl (Or.inr rfl)
  · refine hr_Grun mf_X11_has lb_X11_has_13 (P := True) (pc' := 14) (ls' := [some (.int a0), some (.int a1)]) (st' := [.int 0]) (M' := M) rfl rfl trivial ?_
    cases h
    exact hr_Gret mf_X11_has lb_X11_has_14 rfl rfl (Or.inl rfl)
theorem mf_X11_ones : hr_mf 167 11 1 (some .int) 3 1 bk_X11_ones := ⟨rfl, rfl, rfl, rfl, rfl, rfl⟩
theorem lb_X11_ones_0 : bk_X11_ones.lookup 0 = some [(.iconst 0, 1), (.istore_n 1, 1), (.iconst 0, 1), (.istore_n 2, 1)] := rfl
theorem lb_X11_ones_4 : bk_X11_ones.lookup 4 = some [(.iload_n 2, 1), (.bipush 10, 2), (.if_icmp .ge 25, 3)] := rfl
theorem lb_X11_ones_10 : bk_X11_ones.lookup 10 = some [(.iload_n 1, 1), (.iload_n 0, 1), (.iload_n 2, 1)] := rfl
theorem lb_X11_ones_13 : bk_X11_ones.lookup 13 = some [(.invokestatic 104, 3)] := rfl
theorem lb_X11_ones_16 : bk_X11_ones.lookup 16 = some [(.ifCond .eq 7, 3)] := rfl
theorem lb_X11_ones_19 : bk_X11_ones.lookup 19 = some [(.iconst 1, 1), (.goto 4, 3)] := rfl
theorem lb_X11_ones_23 : bk_X11_ones.lookup 23 = some [(.iconst 0, 1)] := rfl
theorem lb_X11_ones_24 : bk_X11_ones.lookup 24 = some [(.iadd, 1), (.istore_n 1, 1), (.iinc 2 1, 3), (.goto (-25), 3)] := rfl
theorem lb_X11_ones_32 : bk_X11_ones.lookup 32 = some [(.iload_n 1, 1)] := rfl
theorem lb_X11_ones_33 : bk_X11_ones.lookup 33 = some [(.ireturn, 1)] := rfl
def f_X11_ones_4 (a0 : Int32) : Nat → Int32 → Int32 → PM → Option (Int32 × PM)
  | 0, _, _, _ => none
  | f + 1, x1, x2, M =>
    if 10 ≤ x2 then
      some (x1, M)
    else
      hr_bd (f_X11_has a0 x2 M) (fun v4 M4 =>
      if v4 = 0 then
        f_X11_ones_4 a0 f (x1 + 0) (x2 + 1) M4
      else
        f_X11_ones_4 a0 f (x1 + 1) (x2 + 1) M4)
theorem g_X11_ones_4 (a0 : Int32)  : ∀ (f : Nat) (x1 : Int32) (x2 : Int32) (M : PM) (r : Int32 × PM), f_X11_ones_4 a0 f x1 x2 M = some r → hr_G 167 4 [some (.int a0), some (.int x1), some (.int x2)] [] M (some (.int r.1), r.2) := by
  intro f
  induction f with
  | zero => intro x1 x2 M r h; cases h
  | succ f ih =>
    intro x1 x2 M r h
    rw [f_X11_ones_4.eq_2] at h
    refine hr_Grun mf_X11_ones lb_X11_ones_4 (P := True) (pc' := if 10 ≤ x2 then 32 else 10) (ls' := [some (.int a0), some (.int x1), some (.int x2)]) (st' := []) (M' := M) rfl rfl trivial ?_
    refine hr_Gif h (fun _ h => ?_) (fun _ h => ?_)
    · refine hr_Grun mf_X11_ones lb_X11_ones_32 (P := True) (pc' := 33) (ls' := [some (.int a0), some (.int x1), some (.int x2)]) (st' := [.int x1]) (M' := M) rfl rfl trivial ?_
      cases h
      exact hr_Gret mf_X11_ones lb_X11_ones_33 rfl rfl trivial
    · refine hr_Grun mf_X11_ones lb_X11_ones_10 (P := True) (pc' := 13) (ls' := [some (.int a0), some (.int x1), some (.int x2)]) (st' := [.int x2, .int a0, .int x1]) (M' := M) rfl rfl trivial ?_
      refine hr_Fb h (fun v4 M4 e4 h => ?_)
      refine hr_Gcs mf_X11_ones mf_X11_has lb_X11_ones_13 (as := [.int a0, .int x2]) (rest := [.int x1]) (st2 := [.int v4, .int x1]) (v := some (.int v4)) (M1 := M4) rfl rfl rfl rfl rfl rfl (g_X11_has a0 x2 _ _ e4) rfl rfl ?_
      refine hr_Grun mf_X11_ones lb_X11_ones_16 (P := True) (pc' := if v4 = 0 then 23 else 19) (ls' := [some (.int a0), some (.int x1), some (.int x2)]) (st' := [.int x1]) (M' := M4) rfl rfl trivial ?_
      refine hr_Gif h (fun _ h => ?_) (fun _ h => ?_)
      · refine hr_Grun mf_X11_ones lb_X11_ones_23 (P := True) (pc' := 24) (ls' := [some (.int a0), some (.int x1), some (.int x2)]) (st' := [.int 0, .int x1]) (M' := M4) rfl rfl trivial ?_
        refine hr_Grun mf_X11_ones lb_X11_ones_24 (P := True) (pc' := 4) (ls' := [some (.int a0), some (.int (x1 + 0)), some (.int (x2 + 1))]) (st' := []) (M' := M4) rfl rfl trivial ?_
        exact ih (x1 + 0) (x2 + 1) M4 _ h
      · refine hr_Grun mf_X11_ones lb_X11_ones_19 (P := True) (pc' := 24) (ls' := [some (.int a0), some (.int x1), some (.int x2)]) (st' := [.int 1, .int x1]) (M' := M4) rfl rfl trivial ?_
        refine hr_Grun mf_X11_ones lb_X11_ones_24 (P := True) (pc' := 4) (ls' := [some (.int a0), some (.int (x1 + 1)), some (.int (x2 + 1))]) (st' := []) (M' := M4) rfl rfl trivial ?_
        exact ih (x1 + 1) (x2 + 1) M4 _ h
def f_X11_ones (a0 : Int32) (M : PM) : Option (Int32 × PM) :=
  f_X11_ones_4 a0 FU 0 0 M
theorem g_X11_ones (a0 : Int32) : ∀ (M : PM) (r : Int32 × PM), f_X11_ones a0 M = some r → hr_G 167 0 [some (.int a0), none, none] [] M (some (.int r.1), r.2) := by
  intro M r h
  unfold f_X11_ones at h
  refine hr_Grun mf_X11_ones lb_X11_ones_0 (P := True) (pc' := 4) (ls' := [some (.int a0), some (.int 0), some (.int 0)]) (st' := []) (M' := M) rfl rfl trivial ?_
  exact g_X11_ones_4 a0 FU 0 0 M _ h
theorem mf_X11_spread : hr_mf 277 11 4 (some .int) 10 3 bk_X11_spread := ⟨rfl, rfl, rfl, rfl, rfl, rfl⟩
theorem lb_X11_spread_0 : bk_X11_spread.lookup 0 = some [(.aload_n 0, 1), (.iconst 0, 1), (.putfield 100, 3), (.aload_n 0, 1), (.iload_n 1, 1)] := rfl
theorem lb_X11_spread_7 : bk_X11_spread.lookup 7 = some [(.invokevirtual 326, 3)] := rfl
theorem lb_X11_spread_10 : bk_X11_spread.lookup 10 = some [(.ifCond .eq 11, 3)] := rfl
theorem lb_X11_spread_13 : bk_X11_spread.lookup 13 = some [(.aload_n 0, 1), (.iload_n 2, 1)] := rfl
theorem lb_X11_spread_15 : bk_X11_spread.lookup 15 = some [(.invokevirtual 329, 3)] := rfl
theorem lb_X11_spread_18 : bk_X11_spread.lookup 18 = some [(.ifCond .ne 5, 3)] := rfl
theorem lb_X11_spread_21 : bk_X11_spread.lookup 21 = some [(.iconst (-1), 1)] := rfl
theorem lb_X11_spread_22 : bk_X11_spread.lookup 22 = some [(.ireturn, 1)] := rfl
theorem lb_X11_spread_23 : bk_X11_spread.lookup 23 = some [(.iconst 1, 1), (.iload_n 2, 1), (.ishl, 1), (.istore 4, 2), (.iconst 0, 1), (.istore 5, 2), (.iconst 1, 1), (.istore 6, 2)] := rfl
theorem lb_X11_spread_34 : bk_X11_spread.lookup 34 = some [(.iload 6, 2), (.ifCond .eq 141, 3)] := rfl
theorem lb_X11_spread_39 : bk_X11_spread.lookup 39 = some [(.iload 4, 2), (.istore 7, 2), (.iconst 0, 1), (.istore 8, 2)] := rfl
theorem lb_X11_spread_46 : bk_X11_spread.lookup 46 = some [(.iload 8, 2), (.bipush 100, 2), (.if_icmp .ge 91, 3)] := rfl
theorem lb_X11_spread_53 : bk_X11_spread.lookup 53 = some [(.iload 8, 2), (.bipush 10, 2), (.idiv, 1), (.aload_n 0, 1), (.getfield 299, 3), (.if_icmp .ge 49, 3)] := rfl
theorem lb_X11_spread_65 : bk_X11_spread.lookup 65 = some [(.iload 8, 2), (.bipush 10, 2), (.irem, 1), (.aload_n 0, 1), (.getfield 299, 3), (.if_icmp .ge 37, 3)] := rfl
theorem lb_X11_spread_77 : bk_X11_spread.lookup 77 = some [(.iload 4, 2), (.iload 8, 2), (.bipush 10, 2), (.idiv, 1)] := rfl
theorem lb_X11_spread_84 : bk_X11_spread.lookup 84 = some [(.invokestatic 104, 3)] := rfl
theorem lb_X11_spread_87 : bk_X11_spread.lookup 87 = some [(.ifCond .eq 24, 3)] := rfl
theorem lb_X11_spread_90 : bk_X11_spread.lookup 90 = some [(.aload_n 0, 1), (.iload 8, 2), (.bipush 10, 2), (.idiv, 1), (.iload 8, 2), (.bipush 10, 2), (.irem, 1)] := rfl
theorem lb_X11_spread_101 : bk_X11_spread.lookup 101 = some [(.invokevirtual 314, 3)] := rfl
theorem lb_X11_spread_104 : bk_X11_spread.lookup 104 = some [(.ifCond .eq 7, 3)] := rfl
theorem lb_X11_spread_107 : bk_X11_spread.lookup 107 = some [(.iconst 1, 1), (.goto 4, 3)] := rfl
theorem lb_X11_spread_111 : bk_X11_spread.lookup 111 = some [(.iconst 0, 1)] := rfl
theorem lb_X11_spread_112 : bk_X11_spread.lookup 112 = some [(.istore 9, 2), (.iload 7, 2), (.iload 9, 2), (.ifCond .eq 13, 3)] := rfl
theorem lb_X11_spread_121 : bk_X11_spread.lookup 121 = some [(.iconst 1, 1), (.iload 8, 2), (.bipush 10, 2), (.irem, 1), (.ishl, 1), (.goto 4, 3)] := rfl
theorem lb_X11_spread_131 : bk_X11_spread.lookup 131 = some [(.iconst 0, 1)] := rfl
theorem lb_X11_spread_132 : bk_X11_spread.lookup 132 = some [(.ior, 1), (.istore 7, 2), (.iinc 8 1, 3), (.goto (-92), 3)] := rfl
theorem lb_X11_spread_141 : bk_X11_spread.lookup 141 = some [(.iload 7, 2), (.iload 4, 2), (.if_icmp .eq 7, 3)] := rfl
theorem lb_X11_spread_148 : bk_X11_spread.lookup 148 = some [(.iconst 1, 1), (.goto 4, 3)] := rfl
theorem lb_X11_spread_152 : bk_X11_spread.lookup 152 = some [(.iconst 0, 1)] := rfl
theorem lb_X11_spread_153 : bk_X11_spread.lookup 153 = some [(.istore 6, 2), (.iload 5, 2), (.iload 6, 2), (.ifCond .eq 7, 3)] := rfl
theorem lb_X11_spread_162 : bk_X11_spread.lookup 162 = some [(.iconst 1, 1), (.goto 4, 3)] := rfl
theorem lb_X11_spread_166 : bk_X11_spread.lookup 166 = some [(.iconst 0, 1)] := rfl
theorem lb_X11_spread_167 : bk_X11_spread.lookup 167 = some [(.iadd, 1), (.istore 5, 2), (.iload 7, 2), (.istore 4, 2), (.goto (-140), 3)] := rfl
theorem lb_X11_spread_177 : bk_X11_spread.lookup 177 = some [(.iload_n 3, 1), (.ifCond .eq 8, 3)] := rfl
theorem lb_X11_spread_181 : bk_X11_spread.lookup 181 = some [(.iload 5, 2), (.goto 8, 3)] := rfl
theorem lb_X11_spread_186 : bk_X11_spread.lookup 186 = some [(.iload 4, 2)] := rfl
theorem lb_X11_spread_188 : bk_X11_spread.lookup 188 = some [(.invokestatic 410, 3)] := rfl
theorem lb_X11_spread_191 : bk_X11_spread.lookup 191 = some [(.ireturn, 1)] := rfl
def f_X11_spread_153 (a1 : Int32) (a2 : Int32) (a3 : Int32) (k34 : Int32 → Int32 → Int32 → PM → Option (Int32 × PM)) (x5 : Int32) (x7 : Int32) (s0 : Int32) (M : PM) : Option (Int32 × PM) :=
  if s0 = 0 then
    k34 x7 (x5 + 0) s0 M
  else
    k34 x7 (x5 + 1) s0 M
theorem g_X11_spread_153 (a1 : Int32) (a2 : Int32) (a3 : Int32)  (k34 : Int32 → Int32 → Int32 → PM → Option (Int32 × PM)) (hk34 : ∀ (x4 : Int32) (x5 : Int32) (x6 : Int32) (M : PM) (r : Int32 × PM), k34 x4 x5 x6 M = some r → hr_G 277 34 [some (.ref 275), none, none, some (.int a3), some (.int x4), some (.int x5), some (.int x6), none, none, none] [] M (some (.int r.1), r.2)) : ∀ (x5 : Int32) (x7 : Int32) (s0 : Int32) (M : PM) (r : Int32 × PM), f_X11_spread_153 a1 a2 a3 k34 x5 x7 s0 M = some r → hr_G 277 153 [some (.ref 275), none, none, some (.int a3), none, some (.int x5), none, some (.int x7), none, none] [.int s0] M (some (.int r.1), r.2) := by
  intro x5 x7 s0 M r h
  unfold f_X11_spread_153 at h
  refine hr_Grun mf_X11_spread lb_X11_spread_153 (P := True) (pc' := if s0 = 0 then 166 else 162) (ls' := [some (.ref 275), none, none, some (.int a3), none, some (.int x5), some (.int s0), some (.int x7), none, none]) (st' := [.int x5]) (M' := M) rfl rfl trivial ?_
  refine hr_Gif h (fun _ h => ?_) (fun _ h => ?_)
  · refine hr_Grun mf_X11_spread lb_X11_spread_166 (P := True) (pc' := 167) (ls' := [some (.ref 275), none, none, some (.int a3), none, some (.int x5), some (.int s0), some (.int x7), none, none]) (st' := [.int 0, .int x5]) (M' := M) rfl rfl trivial ?_
    refine hr_Grun mf_X11_spread lb_X11_spread_167 (P := True) (pc' := 34) (ls' := [some (.ref 275), none, none, some (.int a3), some (.int x7), some (.int (x5 + 0)), some (.int s0), some (.int x7), none, none]) (st' := []) (M' := M) rfl rfl trivial ?_
    refine hr_Gle (ls := [some (.ref 275), none, none, some (.int a3), some (.int x7), some (.int (x5 + 0)), some (.int s0), none, none, none]) (hr_le_s (hr_le_n (hr_le_n (hr_le_s (hr_le_s (hr_le_s (hr_le_s (hr_le_n (hr_le_n (hr_le_n hr_le_0)))))))))) ?_
    exact hk34 x7 (x5 + 0) s0 M _ h
  · refine hr_Grun mf_X11_spread lb_X11_spread_162 (P := True) (pc' := 167) (ls' := [some (.ref 275), none, none, some (.int a3), none, some (.int x5), some (.int s0), some (.int x7), none, none]) (st' := [.int 1, .int x5]) (M' := M) rfl rfl trivial ?_
    refine hr_Grun mf_X11_spread lb_X11_spread_167 (P := True) (pc' := 34) (ls' := [some (.ref 275), none, none, some (.int a3), some (.int x7), some (.int (x5 + 1)), some (.int s0), some (.int x7), none, none]) (st' := []) (M' := M) rfl rfl trivial ?_
    refine hr_Gle (ls := [some (.ref 275), none, none, some (.int a3), some (.int x7), some (.int (x5 + 1)), some (.int s0), none, none, none]) (hr_le_s (hr_le_n (hr_le_n (hr_le_s (hr_le_s (hr_le_s (hr_le_s (hr_le_n (hr_le_n (hr_le_n hr_le_0)))))))))) ?_
    exact hk34 x7 (x5 + 1) s0 M _ h
def f_X11_spread_112 (a1 : Int32) (a2 : Int32) (a3 : Int32) (k34 : Int32 → Int32 → Int32 → PM → Option (Int32 × PM)) (k46 : Int32 → Int32 → Int32 → Int32 → PM → Option (Int32 × PM)) (x4 : Int32) (x5 : Int32) (x7 : Int32) (x8 : Int32) (s0 : Int32) (M : PM) : Option (Int32 × PM) :=
  if s0 = 0 then
    k46 x4 x5 (x7 ||| 0) (x8 + 1) M
  else
    k46 x4 x5 (x7 ||| (jl 1 (jr x8 10))) (x8 + 1) M
theorem g_X11_spread_112 (a1 : Int32) (a2 : Int32) (a3 : Int32)  (k34 : Int32 → Int32 → Int32 → PM → Option (Int32 × PM)) (k46 : Int32 → Int32 → Int32 → Int32 → PM → Option (Int32 × PM)) (hk34 : ∀ (x4 : Int32) (x5 : Int32) (x6 : Int32) (M : PM) (r : Int32 × PM), k34 x4 x5 x6 M = some r → hr_G 277 34 [some (.ref 275), none, none, some (.int a3), some (.int x4), some (.int x5), some (.int x6), none, none, none] [] M (some (.int r.1), r.2)) (hk46 : ∀ (x4 : Int32) (x5 : Int32) (x7 : Int32) (x8 : Int32) (M : PM) (r : Int32 × PM), k46 x4 x5 x7 x8 M = some r → hr_G 277 46 [some (.ref 275), none, none, some (.int a3), some (.int x4), some (.int x5), none, some (.int x7), some (.int x8), none] [] M (some (.int r.1), r.2)) : ∀ (x4 : Int32) (x5 : Int32) (x7 : Int32) (x8 : Int32) (s0 : Int32) (M : PM) (r : Int32 × PM), f_X11_spread_112 a1 a2 a3 k34 k46 x4 x5 x7 x8 s0 M = some r → hr_G 277 112 [some (.ref 275), none, none, some (.int a3), some (.int x4), some (.int x5), none, some (.int x7), some (.int x8), none] [.int s0] M (some (.int r.1), r.2) := by
  intro x4 x5 x7 x8 s0 M r h
  unfold f_X11_spread_112 at h
  refine hr_Grun mf_X11_spread lb_X11_spread_112 (P := True) (pc' := if s0 = 0 then 131 else 121) (ls' := [some (.ref 275), none, none, some (.int a3), some (.int x4), some (.int x5), none, some (.int x7), some (.int x8), some (.int s0)]) (st' := [.int x7]) (M' := M) rfl rfl trivial ?_
  refine hr_Gif h (fun _ h => ?_) (fun _ h => ?_)
  · refine hr_Grun mf_X11_spread lb_X11_spread_131 (P := True) (pc' := 132) (ls' := [some (.ref 275), none, none, some (.int a3), some (.int x4), some (.int x5), none, some (.int x7), some (.int x8), some (.int s0)]) (st' := [.int 0, .int x7]) (M' := M) rfl rfl trivial ?_
    refine hr_Grun mf_X11_spread lb_X11_spread_132 (P := True) (pc' := 46) (ls' := [some (.ref 275), none, none, some (.int a3), some (.int x4), some (.int x5), none, some (.int (x7 ||| 0)), some (.int (x8 + 1)), some (.int s0)]) (st' := []) (M' := M) rfl rfl trivial ?_
    refine hr_Gle (ls := [some (.ref 275), none, none, some (.int a3), some (.int x4), some (.int x5), none, some (.int (x7 ||| 0)), some (.int (x8 + 1)), none]) (hr_le_s (hr_le_n (hr_le_n (hr_le_s (hr_le_s (hr_le_s (hr_le_n (hr_le_s (hr_le_s (hr_le_n hr_le_0)))))))))) ?_
    exact hk46 x4 x5 (x7 ||| 0) (x8 + 1) M _ h
  · refine hr_Grun mf_X11_spread lb_X11_spread_121 (P := ¬ (10 : Int32) = 0 ∧ True) (pc' := 132) (ls' := [some (.ref 275), none, none, some (.int a3), some (.int x4), some (.int x5), none, some (.int x7), some (.int x8), some (.int s0)]) (st' := [.int (jl 1 (jr x8 10)), .int x7]) (M' := M) rfl rfl ⟨(by decide), trivial⟩ ?_
    refine hr_Grun mf_X11_spread lb_X11_spread_132 (P := True) (pc' := 46) (ls' := [some (.ref 275), none, none, some (.int a3), some (.int x4), some (.int x5), none, some (.int (x7 ||| (jl 1 (jr x8 10)))), some (.int (x8 + 1)), some (.int s0)]) (st' := []) (M' := M) rfl rfl trivial ?_
    refine hr_Gle (ls := [some (.ref 275), none, none, some (.int a3), some (.int x4), some (.int x5), none, some (.int (x7 ||| (jl 1 (jr x8 10)))), some (.int (x8 + 1)), none]) (hr_le_s (hr_le_n (hr_le_n (hr_le_s (hr_le_s (hr_le_s (hr_le_n (hr_le_s (hr_le_s (hr_le_n hr_le_0)))))))))) ?_
    exact hk46 x4 x5 (x7 ||| (jl 1 (jr x8 10))) (x8 + 1) M _ h
def f_X11_spread_46 (a1 : Int32) (a2 : Int32) (a3 : Int32) (k34 : Int32 → Int32 → Int32 → PM → Option (Int32 × PM)) : Nat → Int32 → Int32 → Int32 → Int32 → PM → Option (Int32 × PM)
  | 0, _, _, _, _, _ => none
  | f + 1, x4, x5, x7, x8, M =>
    if 100 ≤ x8 then
      if x7 = x4 then
        f_X11_spread_153 a1 a2 a3 k34 x5 x7 0 M
      else
        f_X11_spread_153 a1 a2 a3 k34 x5 x7 1 M
    else
      if (M.1 275 25) ≤ (x8 / 10) then
        f_X11_spread_112 a1 a2 a3 k34 (fun x4 x5 x7 x8 M => f_X11_spread_46 a1 a2 a3 k34 f x4 x5 x7 x8 M) x4 x5 x7 x8 0 M
      else
        if (M.1 275 25) ≤ (jr x8 10) then
          f_X11_spread_112 a1 a2 a3 k34 (fun x4 x5 x7 x8 M => f_X11_spread_46 a1 a2 a3 k34 f x4 x5 x7 x8 M) x4 x5 x7 x8 0 M
        else
          hr_bd (f_X11_has x4 (x8 / 10) M) (fun v10 M10 =>
          if v10 = 0 then
            f_X11_spread_112 a1 a2 a3 k34 (fun x4 x5 x7 x8 M => f_X11_spread_46 a1 a2 a3 k34 f x4 x5 x7 x8 M) x4 x5 x7 x8 0 M10
          else
            hr_bd (f_X11_clash (x8 / 10) (jr x8 10) M10) (fun v14 M14 =>
            if v14 = 0 then
              f_X11_spread_112 a1 a2 a3 k34 (fun x4 x5 x7 x8 M => f_X11_spread_46 a1 a2 a3 k34 f x4 x5 x7 x8 M) x4 x5 x7 x8 0 M14
            else
              f_X11_spread_112 a1 a2 a3 k34 (fun x4 x5 x7 x8 M => f_X11_spread_46 a1 a2 a3 k34 f x4 x5 x7 x8 M) x4 x5 x7 x8 1 M14))
theorem g_X11_spread_46 (a1 : Int32) (a2 : Int32) (a3 : Int32)  (k34 : Int32 → Int32 → Int32 → PM → Option (Int32 × PM)) (hk34 : ∀ (x4 : Int32) (x5 : Int32) (x6 : Int32) (M : PM) (r : Int32 × PM), k34 x4 x5 x6 M = some r → hr_G 277 34 [some (.ref 275), none, none, some (.int a3), some (.int x4), some (.int x5), some (.int x6), none, none, none] [] M (some (.int r.1), r.2)) : ∀ (f : Nat) (x4 : Int32) (x5 : Int32) (x7 : Int32) (x8 : Int32) (M : PM) (r : Int32 × PM), f_X11_spread_46 a1 a2 a3 k34 f x4 x5 x7 x8 M = some r → hr_G 277 46 [some (.ref 275), none, none, some (.int a3), some (.int x4), some (.int x5), none, some (.int x7), some (.int x8), none] [] M (some (.int r.1), r.2) := by
  intro f
  induction f with
  | zero => intro x4 x5 x7 x8 M r h; cases h
  | succ f ih =>
    intro x4 x5 x7 x8 M r h
    rw [f_X11_spread_46.eq_2] at h
    refine hr_Grun mf_X11_spread lb_X11_spread_46 (P := True) (pc' := if 100 ≤ x8 then 141 else 53) (ls' := [some (.ref 275), none, none, some (.int a3), some (.int x4), some (.int x5), none, some (.int x7), some (.int x8), none]) (st' := []) (M' := M) rfl rfl trivial ?_
    refine hr_Gif h (fun _ h => ?_) (fun _ h => ?_)
    · refine hr_Grun mf_X11_spread lb_X11_spread_141 (P := True) (pc' := if x7 = x4 then 152 else 148) (ls' := [some (.ref 275), none, none, some (.int a3), some (.int x4), some (.int x5), none, some (.int x7), some (.int x8), none]) (st' := []) (M' := M) rfl rfl trivial ?_
      refine hr_Gif h (fun _ h => ?_) (fun _ h => ?_)
      · refine hr_Grun mf_X11_spread lb_X11_spread_152 (P := True) (pc' := 153) (ls' := [some (.ref 275), none, none, some (.int a3), some (.int x4), some (.int x5), none, some (.int x7), some (.int x8), none]) (st' := [.int 0]) (M' := M) rfl rfl trivial ?_
        refine hr_Gle (ls := [some (.ref 275), none, none, some (.int a3), none, some (.int x5), none, some (.int x7), none, none]) (hr_le_s (hr_le_n (hr_le_n (hr_le_s (hr_le_n (hr_le_s (hr_le_n (hr_le_s (hr_le_n (hr_le_n hr_le_0)))))))))) ?_
        exact g_X11_spread_153 a1 a2 a3 k34 hk34 x5 x7 0 M _ h
      · refine hr_Grun mf_X11_spread lb_X11_spread_148 (P := True) (pc' := 153) (ls' := [some (.ref 275), none, none, some (.int a3), some (.int x4), some (.int x5), none, some (.int x7), some (.int x8), none]) (st' := [.int 1]) (M' := M) rfl rfl trivial ?_
        refine hr_Gle (ls := [some (.ref 275), none, none, some (.int a3), none, some (.int x5), none, some (.int x7), none, none]) (hr_le_s (hr_le_n (hr_le_n (hr_le_s (hr_le_n (hr_le_s (hr_le_n (hr_le_s (hr_le_n (hr_le_n hr_le_0)))))))))) ?_
        exact g_X11_spread_153 a1 a2 a3 k34 hk34 x5 x7 1 M _ h
    · refine hr_Grun mf_X11_spread lb_X11_spread_53 (P := ¬ (10 : Int32) = 0 ∧ hr_K 275 = 10 ∧ True) (pc' := if (M.1 275 25) ≤ (x8 / 10) then 111 else 65) (ls' := [some (.ref 275), none, none, some (.int a3), some (.int x4), some (.int x5), none, some (.int x7), some (.int x8), none]) (st' := []) (M' := M) rfl rfl ⟨(by decide), K_275, trivial⟩ ?_
      refine hr_Gif h (fun _ h => ?_) (fun _ h => ?_)
      · refine hr_Grun mf_X11_spread lb_X11_spread_111 (P := True) (pc' := 112) (ls' := [some (.ref 275), none, none, some (.int a3), some (.int x4), some (.int x5), none, some (.int x7), some (.int x8), none]) (st' := [.int 0]) (M' := M) rfl rfl trivial ?_
        exact g_X11_spread_112 a1 a2 a3 k34 (fun x4 x5 x7 x8 M => f_X11_spread_46 a1 a2 a3 k34 f x4 x5 x7 x8 M) hk34 (fun x4 x5 x7 x8 M r h => ih x4 x5 x7 x8 M r h) x4 x5 x7 x8 0 M _ h
      · refine hr_Grun mf_X11_spread lb_X11_spread_65 (P := ¬ (10 : Int32) = 0 ∧ hr_K 275 = 10 ∧ True) (pc' := if (M.1 275 25) ≤ (jr x8 10) then 111 else 77) (ls' := [some (.ref 275), none, none, some (.int a3), some (.int x4), some (.int x5), none, some (.int x7), some (.int x8), none]) (st' := []) (M' := M) rfl rfl ⟨(by decide), K_275, trivial⟩ ?_
        refine hr_Gif h (fun _ h => ?_) (fun _ h => ?_)
        · refine hr_Grun mf_X11_spread lb_X11_spread_111 (P := True) (pc' := 112) (ls' := [some (.ref 275), none, none, some (.int a3), some (.int x4), some (.int x5), none, some (.int x7), some (.int x8), none]) (st' := [.int 0]) (M' := M) rfl rfl trivial ?_
          exact g_X11_spread_112 a1 a2 a3 k34 (fun x4 x5 x7 x8 M => f_X11_spread_46 a1 a2 a3 k34 f x4 x5 x7 x8 M) hk34 (fun x4 x5 x7 x8 M r h => ih x4 x5 x7 x8 M r h) x4 x5 x7 x8 0 M _ h
        · refine hr_Grun mf_X11_spread lb_X11_spread_77 (P := ¬ (10 : Int32) = 0 ∧ True) (pc' := 84) (ls' := [some (.ref 275), none, none, some (.int a3), some (.int x4), some (.int x5), none, some (.int x7), some (.int x8), none]) (st' := [.int (x8 / 10), .int x4]) (M' := M) rfl rfl ⟨(by decide), trivial⟩ ?_
          refine hr_Fb h (fun v10 M10 e10 h => ?_)
          refine hr_Gcs mf_X11_spread mf_X11_has lb_X11_spread_84 (as := [.int x4, .int (x8 / 10)]) (rest := []) (st2 := [.int v10]) (v := some (.int v10)) (M1 := M10) rfl rfl rfl rfl rfl rfl (g_X11_has x4 (x8 / 10) _ _ e10) rfl rfl ?_
          refine hr_Grun mf_X11_spread lb_X11_spread_87 (P := True) (pc' := if v10 = 0 then 111 else 90) (ls' := [some (.ref 275), none, none, some (.int a3), some (.int x4), some (.int x5), none, some (.int x7), some (.int x8), none]) (st' := []) (M' := M10) rfl rfl trivial ?_
          refine hr_Gif h (fun _ h => ?_) (fun _ h => ?_)
          · refine hr_Grun mf_X11_spread lb_X11_spread_111 (P := True) (pc' := 112) (ls' := [some (.ref 275), none, none, some (.int a3), some (.int x4), some (.int x5), none, some (.int x7), some (.int x8), none]) (st' := [.int 0]) (M' := M10) rfl rfl trivial ?_
            exact g_X11_spread_112 a1 a2 a3 k34 (fun x4 x5 x7 x8 M => f_X11_spread_46 a1 a2 a3 k34 f x4 x5 x7 x8 M) hk34 (fun x4 x5 x7 x8 M r h => ih x4 x5 x7 x8 M r h) x4 x5 x7 x8 0 M10 _ h
          · refine hr_Grun mf_X11_spread lb_X11_spread_90 (P := ¬ (10 : Int32) = 0 ∧ ¬ (10 : Int32) = 0 ∧ True) (pc' := 101) (ls' := [some (.ref 275), none, none, some (.int a3), some (.int x4), some (.int x5), none, some (.int x7), some (.int x8), none]) (st' := [.int (jr x8 10), .int (x8 / 10), .ref 275]) (M' := M10) rfl rfl ⟨(by decide), (by decide), trivial⟩ ?_
            refine hr_Fb h (fun v14 M14 e14 h => ?_)
            refine hr_Gcv mf_X11_spread mf_X11_clash lb_X11_spread_101 (b := 275) (as := [.int (x8 / 10), .int (jr x8 10)]) (rest := []) (st2 := [.int v14]) (v := some (.int v14)) (M1 := M14) rfl rfl rfl rfl rfl rfl K_275 (g_X11_clash (x8 / 10) (jr x8 10) _ _ e14) rfl rfl ?_
            refine hr_Grun mf_X11_spread lb_X11_spread_104 (P := True) (pc' := if v14 = 0 then 111 else 107) (ls' := [some (.ref 275), none, none, some (.int a3), some (.int x4), some (.int x5), none, some (.int x7), some (.int x8), none]) (st' := []) (M' := M14) rfl rfl trivial ?_
            refine hr_Gif h (fun _ h => ?_) (fun _ h => ?_)
            · refine hr_Grun mf_X11_spread lb_X11_spread_111 (P := True) (pc' := 112) (ls' := [some (.ref 275), none, none, some (.int a3), some (.int x4), some (.int x5), none, some (.int x7), some (.int x8), none]) (st' := [.int 0]) (M' := M14) rfl rfl trivial ?_
              exact g_X11_spread_112 a1 a2 a3 k34 (fun x4 x5 x7 x8 M => f_X11_spread_46 a1 a2 a3 k34 f x4 x5 x7 x8 M) hk34 (fun x4 x5 x7 x8 M r h => ih x4 x5 x7 x8 M r h) x4 x5 x7 x8 0 M14 _ h
            · refine hr_Grun mf_X11_spread lb_X11_spread_107 (P := True) (pc' := 112) (ls' := [some (.ref 275), none, none, some (.int a3), some (.int x4), some (.int x5), none, some (.int x7), some (.int x8), none]) (st' := [.int 1]) (M' := M14) rfl rfl trivial ?_
              exact g_X11_spread_112 a1 a2 a3 k34 (fun x4 x5 x7 x8 M => f_X11_spread_46 a1 a2 a3 k34 f x4 x5 x7 x8 M) hk34 (fun x4 x5 x7 x8 M r h => ih x4 x5 x7 x8 M r h) x4 x5 x7 x8 1 M14 _ h
def f_X11_spread_34 (a1 : Int32) (a2 : Int32) (a3 : Int32) : Nat → Int32 → Int32 → Int32 → PM → Option (Int32 × PM)
  | 0, _, _, _, _ => none
  | f + 1, x4, x5, x6, M =>
    if x6 = 0 then
      if a3 = 0 then
        hr_bd (f_X11_ones x4 M) (fun v4 M4 =>
        some (v4, M4))
      else
        some (x5, M)
    else
      f_X11_spread_46 a1 a2 a3 (fun x4 x5 x6 M => f_X11_spread_34 a1 a2 a3 f x4 x5 x6 M) FU x4 x5 x4 0 M
theorem g_X11_spread_34 (a1 : Int32) (a2 : Int32) (a3 : Int32)  : ∀ (f : Nat) (x4 : Int32) (x5 : Int32) (x6 : Int32) (M : PM) (r : Int32 × PM), f_X11_spread_34 a1 a2 a3 f x4 x5 x6 M = some r → hr_G 277 34 [some (.ref 275), none, none, some (.int a3), some (.int x4), some (.int x5), some (.int x6), none, none, none] [] M (some (.int r.1), r.2) := by
  intro f
  induction f with
  | zero => intro x4 x5 x6 M r h; cases h
  | succ f ih =>
    intro x4 x5 x6 M r h
    rw [f_X11_spread_34.eq_2] at h
    refine hr_Grun mf_X11_spread lb_X11_spread_34 (P := True) (pc' := if x6 = 0 then 177 else 39) (ls' := [some (.ref 275), none, none, some (.int a3), some (.int x4), some (.int x5), some (.int x6), none, none, none]) (st' := []) (M' := M) rfl rfl trivial ?_
    refine hr_Gif h (fun _ h => ?_) (fun _ h => ?_)
    · refine hr_Grun mf_X11_spread lb_X11_spread_177 (P := True) (pc' := if a3 = 0 then 186 else 181) (ls' := [some (.ref 275), none, none, some (.int a3), some (.int x4), some (.int x5), some (.int x6), none, none, none]) (st' := []) (M' := M) rfl rfl trivial ?_
      refine hr_Gif h (fun _ h => ?_) (fun _ h => ?_)
      · refine hr_Grun mf_X11_spread lb_X11_spread_186 (P := True) (pc' := 188) (ls' := [some (.ref 275), none, none, some (.int a3), some (.int x4), some (.int x5), some (.int x6), none, none, none]) (st' := [.int x4]) (M' := M) rfl rfl trivial ?_
        refine hr_Fb h (fun v4 M4 e4 h => ?_)
        refine hr_Gcs mf_X11_spread mf_X11_ones lb_X11_spread_188 (as := [.int x4]) (rest := []) (st2 := [.int v4]) (v := some (.int v4)) (M1 := M4) rfl rfl rfl rfl rfl rfl (g_X11_ones x4 _ _ e4) rfl rfl ?_
        cases h
        exact hr_Gret mf_X11_spread lb_X11_spread_191 rfl rfl trivial
      · refine hr_Grun mf_X11_spread lb_X11_spread_181 (P := True) (pc' := 191) (ls' := [some (.ref 275), none, none, some (.int a3), some (.int x4), some (.int x5), some (.int x6), none, none, none]) (st' := [.int x5]) (M' := M) rfl rfl trivial ?_
        cases h
        exact hr_Gret mf_X11_spread lb_X11_spread_191 rfl rfl trivial
    · refine hr_Grun mf_X11_spread lb_X11_spread_39 (P := True) (pc' := 46) (ls' := [some (.ref 275), none, none, some (.int a3), some (.int x4), some (.int x5), some (.int x6), some (.int x4), some (.int 0), none]) (st' := []) (M' := M) rfl rfl trivial ?_
      refine hr_Gle (ls := [some (.ref 275), none, none, some (.int a3), some (.int x4), some (.int x5), none, some (.int x4), some (.int 0), none]) (hr_le_s (hr_le_n (hr_le_n (hr_le_s (hr_le_s (hr_le_s (hr_le_n (hr_le_s (hr_le_s (hr_le_n hr_le_0)))))))))) ?_
      exact g_X11_spread_46 a1 a2 a3 (fun x4 x5 x6 M => f_X11_spread_34 a1 a2 a3 f x4 x5 x6 M) (fun x4 x5 x6 M r h => ih x4 x5 x6 M r h) FU x4 x5 x4 0 M _ h
def f_X11_spread (a1 : Int32) (a2 : Int32) (a3 : Int32) (M : PM) : Option (Int32 × PM) :=
  hr_bd (f_X11_hand a1 (hr_si M 275 0 0)) (fun v2 M2 =>
  if v2 = 0 then
    some ((-1), M2)
  else
    hr_bd (f_X11_isHue a2 M2) (fun v6 M6 =>
    if v6 = 0 then
      some ((-1), M6)
    else
      f_X11_spread_34 a1 a2 a3 FU (jl 1 a2) 0 1 M6))
theorem g_X11_spread (a1 : Int32) (a2 : Int32) (a3 : Int32) : ∀ (M : PM) (r : Int32 × PM), f_X11_spread a1 a2 a3 M = some r → hr_G 277 0 [some (.ref 275), some (.int a1), some (.int a2), some (.int a3), none, none, none, none, none, none] [] M (some (.int r.1), r.2) := by
  intro M r h
  unfold f_X11_spread at h
  refine hr_Grun mf_X11_spread lb_X11_spread_0 (P := (hr_K 275 = 10 ∧ 275 < hr_n) ∧ True) (pc' := 7) (ls' := [some (.ref 275), some (.int a1), some (.int a2), some (.int a3), none, none, none, none, none, none]) (st' := [.int a1, .ref 275]) (M' := hr_si M 275 0 0) rfl rfl ⟨⟨K_275, L_275⟩, trivial⟩ ?_
  refine hr_Fb h (fun v2 M2 e2 h => ?_)
  refine hr_Gcv mf_X11_spread mf_X11_hand lb_X11_spread_7 (b := 275) (as := [.int a1]) (rest := []) (st2 := [.int v2]) (v := some (.int v2)) (M1 := M2) rfl rfl rfl rfl rfl rfl K_275 (g_X11_hand a1 _ _ e2) rfl rfl ?_
  refine hr_Grun mf_X11_spread lb_X11_spread_10 (P := True) (pc' := if v2 = 0 then 21 else 13) (ls' := [some (.ref 275), some (.int a1), some (.int a2), some (.int a3), none, none, none, none, none, none]) (st' := []) (M' := M2) rfl rfl trivial ?_
  refine hr_Gif h (fun _ h => ?_) (fun _ h => ?_)
  · refine hr_Grun mf_X11_spread lb_X11_spread_21 (P := True) (pc' := 22) (ls' := [some (.ref 275), some (.int a1), some (.int a2), some (.int a3), none, none, none, none, none, none]) (st' := [.int (-1)]) (M' := M2) rfl rfl trivial ?_
    cases h
    exact hr_Gret mf_X11_spread lb_X11_spread_22 rfl rfl trivial
  · refine hr_Grun mf_X11_spread lb_X11_spread_13 (P := True) (pc' := 15) (ls' := [some (.ref 275), some (.int a1), some (.int a2), some (.int a3), none, none, none, none, none, none]) (st' := [.int a2, .ref 275]) (M' := M2) rfl rfl trivial ?_
    refine hr_Fb h (fun v6 M6 e6 h => ?_)
    refine hr_Gcv mf_X11_spread mf_X11_isHue lb_X11_spread_15 (b := 275) (as := [.int a2]) (rest := []) (st2 := [.int v6]) (v := some (.int v6)) (M1 := M6) rfl rfl rfl rfl rfl rfl K_275 (g_X11_isHue a2 _ _ e6) rfl rfl ?_
    refine hr_Grun mf_X11_spread lb_X11_spread_18 (P := True) (pc' := if v6 = 0 then 21 else 23) (ls' := [some (.ref 275), some (.int a1), some (.int a2), some (.int a3), none, none, none, none, none, none]) (st' := []) (M' := M6) rfl rfl trivial ?_
    refine hr_Gif h (fun _ h => ?_) (fun _ h => ?_)
    · refine hr_Grun mf_X11_spread lb_X11_spread_21 (P := True) (pc' := 22) (ls' := [some (.ref 275), some (.int a1), some (.int a2), some (.int a3), none, none, none, none, none, none]) (st' := [.int (-1)]) (M' := M6) rfl rfl trivial ?_
      cases h
      exact hr_Gret mf_X11_spread lb_X11_spread_22 rfl rfl trivial
    · refine hr_Grun mf_X11_spread lb_X11_spread_23 (P := True) (pc' := 34) (ls' := [some (.ref 275), some (.int a1), some (.int a2), some (.int a3), some (.int (jl 1 a2)), some (.int 0), some (.int 1), none, none, none]) (st' := []) (M' := M6) rfl rfl trivial ?_
      refine hr_Gle (ls := [some (.ref 275), none, none, some (.int a3), some (.int (jl 1 a2)), some (.int 0), some (.int 1), none, none, none]) (hr_le_s (hr_le_n (hr_le_n (hr_le_s (hr_le_s (hr_le_s (hr_le_s (hr_le_n (hr_le_n (hr_le_n hr_le_0)))))))))) ?_
      exact g_X11_spread_34 a1 a2 a3 FU (jl 1 a2) 0 1 M6 _ h
