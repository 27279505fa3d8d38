/-! printed by wip/whole/gen/gen20.py: methods as functions of the pure memory -/
theorem mf_X11_see : hr_mf 174 11 0 (some .int) 1 0 bk_X11_see := ⟨rfl, rfl, rfl, rfl, rfl, rfl⟩
theorem lb_X11_see_0 : bk_X11_see.lookup 0 = some [(.aload_n 0, 1), (.getfield 120, 3), (.aload_n 0, 1), (.getfield 123, 3), (.if_icmp .ge 19, 3)] := rfl
theorem lb_X11_see_11 : bk_X11_see.lookup 11 = some [(.aload_n 0, 1), (.getfield 7, 3), (.aload_n 0, 1), (.getfield 120, 3), (.baload, 1), (.sipush 255, 3), (.iand, 1), (.goto 4, 3)] := rfl
theorem lb_X11_see_27 : bk_X11_see.lookup 27 = some [(.iconst (-1), 1)] := rfl
theorem lb_X11_see_28 : bk_X11_see.lookup 28 = some [(.ireturn, 1)] := rfl
def f_X11_see (M : PM) : Option (Int32 × PM) :=
  if (M.1 275 12) ≤ (M.1 275 11) then
    some ((-1), M)
  else
    if inB (M.1 275 11) 2400 = true then 
    some (((M.1 276 (M.1 275 11).toNatClampNeg) &&& 255), M) else none
theorem g_X11_see  : ∀ (M : PM) (r : Int32 × PM), f_X11_see M = some r → hr_G 174 0 [some (.ref 275)] [] M (some (.int r.1), r.2) := by
  intro M r h
  unfold f_X11_see at h
  refine hr_Grun mf_X11_see lb_X11_see_0 (P := hr_K 275 = 10 ∧ hr_K 275 = 10 ∧ True) (pc' := if (M.1 275 12) ≤ (M.1 275 11) then 27 else 11) (ls' := [some (.ref 275)]) (st' := []) (M' := M) rfl rfl ⟨K_275, K_275, trivial⟩ ?_
  refine hr_Gif h (fun _ h => ?_) (fun _ h => ?_)
  · refine hr_Grun mf_X11_see lb_X11_see_27 (P := True) (pc' := 28) (ls' := [some (.ref 275)]) (st' := [.int (-1)]) (M' := M) rfl rfl trivial ?_
    cases h
    exact hr_Gret mf_X11_see lb_X11_see_28 rfl rfl trivial
  · refine hr_Fg h (fun hg3_0 h => ?_)
    refine hr_Grun mf_X11_see lb_X11_see_11 (P := hr_K 275 = 10 ∧ hr_K 275 = 10 ∧ ((hr_K 276 = 11 ∨ hr_K 276 = 14) ∧ vp_in (M.1 275 11) (hr_N 276)) ∧ True) (pc' := 28) (ls' := [some (.ref 275)]) (st' := [.int ((M.1 276 (M.1 275 11).toNatClampNeg) &&& 255)]) (M' := M) rfl rfl ⟨K_275, K_275, ⟨Or.inl K_276, (inB_N N_276 hg3_0)⟩, trivial⟩ ?_
    cases h
    exact hr_Gret mf_X11_see lb_X11_see_28 rfl rfl trivial
theorem mf_X11_token : hr_mf 175 11 1 none 3 0 bk_X11_token := ⟨rfl, rfl, rfl, rfl, rfl, rfl⟩
theorem lb_X11_token_0 : bk_X11_token.lookup 0 = some [(.aload_n 0, 1)] := rfl
theorem lb_X11_token_1 : bk_X11_token.lookup 1 = some [(.invokevirtual 126, 3)] := rfl
theorem lb_X11_token_4 : bk_X11_token.lookup 4 = some [(.bipush 10, 2), (.if_icmp .eq 12, 3)] := rfl
theorem lb_X11_token_9 : bk_X11_token.lookup 9 = some [(.aload_n 0, 1)] := rfl
theorem lb_X11_token_10 : bk_X11_token.lookup 10 = some [(.invokevirtual 126, 3)] := rfl
theorem lb_X11_token_13 : bk_X11_token.lookup 13 = some [(.bipush 32, 2), (.if_icmp .ne 16, 3)] := rfl
theorem lb_X11_token_18 : bk_X11_token.lookup 18 = some [(.aload_n 0, 1), (.dup, 1), (.getfield 120, 3), (.iconst 1, 1), (.iadd, 1), (.putfield 120, 3), (.goto (-28), 3)] := rfl
theorem lb_X11_token_31 : bk_X11_token.lookup 31 = some [(.aload_n 0, 1), (.aload_n 0, 1), (.getfield 120, 3), (.putfield 130, 3), (.aload_n 0, 1)] := rfl
theorem lb_X11_token_40 : bk_X11_token.lookup 40 = some [(.invokevirtual 126, 3)] := rfl
theorem lb_X11_token_43 : bk_X11_token.lookup 43 = some [(.istore_n 1, 1), (.aload_n 0, 1), (.lconst 0, 1), (.putfield 133, 3), (.iconst 0, 1), (.istore_n 2, 1), (.iload_n 1, 1), (.ifCond .ge 11, 3)] := rfl
theorem lb_X11_token_55 : bk_X11_token.lookup 55 = some [(.aload_n 0, 1), (.iconst 0, 1), (.putfield 137, 3), (.goto 206, 3)] := rfl
theorem lb_X11_token_63 : bk_X11_token.lookup 63 = some [(.iload_n 1, 1), (.bipush 97, 2), (.bipush 122, 2)] := rfl
theorem lb_X11_token_68 : bk_X11_token.lookup 68 = some [(.invokestatic 112, 3)] := rfl
theorem lb_X11_token_71 : bk_X11_token.lookup 71 = some [(.ifCond .eq 76, 3)] := rfl
theorem lb_X11_token_74 : bk_X11_token.lookup 74 = some [(.aload_n 0, 1)] := rfl
theorem lb_X11_token_75 : bk_X11_token.lookup 75 = some [(.invokevirtual 126, 3)] := rfl
theorem lb_X11_token_78 : bk_X11_token.lookup 78 = some [(.bipush 97, 2), (.bipush 122, 2)] := rfl
theorem lb_X11_token_82 : bk_X11_token.lookup 82 = some [(.invokestatic 112, 3)] := rfl
theorem lb_X11_token_85 : bk_X11_token.lookup 85 = some [(.ifCond .eq 36, 3)] := rfl
theorem lb_X11_token_88 : bk_X11_token.lookup 88 = some [(.aload_n 0, 1), (.aload_n 0, 1), (.getfield 133, 3), (.bipush 8, 2), (.lshl, 1), (.aload_n 0, 1)] := rfl
theorem lb_X11_token_97 : bk_X11_token.lookup 97 = some [(.invokevirtual 126, 3)] := rfl
theorem lb_X11_token_100 : bk_X11_token.lookup 100 = some [(.i2l, 1), (.lor, 1), (.putfield 133, 3), (.aload_n 0, 1), (.dup, 1), (.getfield 120, 3), (.iconst 1, 1), (.iadd, 1), (.putfield 120, 3), (.iinc 2 1, 3), (.goto (-44), 3)] := rfl
theorem lb_X11_token_121 : bk_X11_token.lookup 121 = some [(.aload_n 0, 1), (.iload_n 2, 1), (.bipush 8, 2), (.if_icmp .le 7, 3)] := rfl
theorem lb_X11_token_128 : bk_X11_token.lookup 128 = some [(.lconst 0, 1), (.goto 7, 3)] := rfl
theorem lb_X11_token_132 : bk_X11_token.lookup 132 = some [(.aload_n 0, 1), (.getfield 133, 3)] := rfl
theorem lb_X11_token_136 : bk_X11_token.lookup 136 = some [(.putfield 133, 3), (.aload_n 0, 1), (.iconst 2, 1), (.putfield 137, 3), (.goto 122, 3)] := rfl
theorem lb_X11_token_147 : bk_X11_token.lookup 147 = some [(.iload_n 1, 1), (.bipush 48, 2), (.bipush 57, 2)] := rfl
theorem lb_X11_token_152 : bk_X11_token.lookup 152 = some [(.invokestatic 112, 3)] := rfl
theorem lb_X11_token_155 : bk_X11_token.lookup 155 = some [(.ifCond .eq 86, 3)] := rfl
theorem lb_X11_token_158 : bk_X11_token.lookup 158 = some [(.aload_n 0, 1), (.iconst 0, 1), (.putfield 140, 3)] := rfl
theorem lb_X11_token_163 : bk_X11_token.lookup 163 = some [(.aload_n 0, 1)] := rfl
theorem lb_X11_token_164 : bk_X11_token.lookup 164 = some [(.invokevirtual 126, 3)] := rfl
theorem lb_X11_token_167 : bk_X11_token.lookup 167 = some [(.bipush 48, 2), (.bipush 57, 2)] := rfl
theorem lb_X11_token_171 : bk_X11_token.lookup 171 = some [(.invokestatic 112, 3)] := rfl
theorem lb_X11_token_174 : bk_X11_token.lookup 174 = some [(.ifCond .eq 50, 3)] := rfl
theorem lb_X11_token_177 : bk_X11_token.lookup 177 = some [(.aload_n 0, 1), (.iload_n 2, 1), (.iconst 2, 1), (.if_icmp .ge 21, 3)] := rfl
theorem lb_X11_token_183 : bk_X11_token.lookup 183 = some [(.bipush 10, 2), (.aload_n 0, 1), (.getfield 140, 3), (.imul, 1), (.aload_n 0, 1)] := rfl
theorem lb_X11_token_191 : bk_X11_token.lookup 191 = some [(.invokevirtual 126, 3)] := rfl
theorem lb_X11_token_194 : bk_X11_token.lookup 194 = some [(.iadd, 1), (.bipush 48, 2), (.isub, 1), (.goto 7, 3)] := rfl
theorem lb_X11_token_201 : bk_X11_token.lookup 201 = some [(.aload_n 0, 1), (.getfield 140, 3)] := rfl
theorem lb_X11_token_205 : bk_X11_token.lookup 205 = some [(.putfield 140, 3), (.aload_n 0, 1), (.dup, 1), (.getfield 120, 3), (.iconst 1, 1), (.iadd, 1), (.putfield 120, 3), (.iinc 2 1, 3), (.goto (-58), 3)] := rfl
theorem lb_X11_token_224 : bk_X11_token.lookup 224 = some [(.aload_n 0, 1), (.iload_n 2, 1), (.iconst 2, 1), (.if_icmp .le 7, 3)] := rfl
theorem lb_X11_token_230 : bk_X11_token.lookup 230 = some [(.iconst 1, 1), (.goto 4, 3)] := rfl
theorem lb_X11_token_234 : bk_X11_token.lookup 234 = some [(.iconst 3, 1)] := rfl
theorem lb_X11_token_235 : bk_X11_token.lookup 235 = some [(.putfield 137, 3), (.goto 28, 3)] := rfl
theorem lb_X11_token_241 : bk_X11_token.lookup 241 = some [(.aload_n 0, 1), (.dup, 1), (.getfield 120, 3), (.iconst 1, 1), (.iadd, 1), (.putfield 120, 3), (.aload_n 0, 1), (.iload_n 1, 1), (.bipush 59, 2), (.if_icmp .ne 7, 3)] := rfl
theorem lb_X11_token_258 : bk_X11_token.lookup 258 = some [(.iconst 4, 1), (.goto 4, 3)] := rfl
theorem lb_X11_token_262 : bk_X11_token.lookup 262 = some [(.iconst 1, 1)] := rfl
theorem lb_X11_token_263 : bk_X11_token.lookup 263 = some [(.putfield 137, 3)] := rfl
theorem lb_X11_token_266 : bk_X11_token.lookup 266 = some [(.return_, 1)] := rfl
def f_X11_token_163  : Nat → Int32 → PM → Option (Unit × PM)
  | 0, _, _ => none
  | f + 1, x2, M =>
    hr_bd (f_X11_see M) (fun v2 M2 =>
    hr_bd (f_X11_in v2 48 57 M2) (fun v4 M4 =>
    if v4 = 0 then
      if x2 ≤ 2 then
        some ((), hr_si M4 275 14 3)
      else
        some ((), hr_si M4 275 14 1)
    else
      if 2 ≤ x2 then
        f_X11_token_163 f (x2 + 1) (hr_si (hr_si M4 275 15 (M4.1 275 15)) 275 11 (((hr_si M4 275 15 (M4.1 275 15)).1 275 11) + 1))
      else
        hr_bd (f_X11_see M4) (fun v15 M15 =>
        f_X11_token_163 f (x2 + 1) (hr_si (hr_si M15 275 15 (((10 * (M4.1 275 15)) + v15) - 48)) 275 11 (((hr_si M15 275 15 (((10 * (M4.1 275 15)) + v15) - 48)).1 275 11) + 1)))))
theorem g_X11_token_163   : ∀ (f : Nat) (x2 : Int32) (M : PM) (r : Unit × PM), f_X11_token_163 f x2 M = some r → hr_G 175 163 [some (.ref 275), none, some (.int x2)] [] M (none, r.2) := by
  intro f
  induction f with
  | zero => intro x2 M r h; cases h
  | succ f ih =>
    intro x2 M r h
    rw [f_X11_token_163.eq_2] at h
    refine hr_Grun mf_X11_token lb_X11_token_163 (P := True) (pc' := 164) (ls' := [some (.ref 275), none, some (.int x2)]) (st' := [.ref 275]) (M' := M) rfl rfl trivial ?_
    refine hr_Fb h (fun v2 M2 e2 h => ?_)
    refine hr_Gcv mf_X11_token mf_X11_see lb_X11_token_164 (b := 275) (as := []) (rest := []) (st2 := [.int v2]) (v := some (.int v2)) (M1 := M2) rfl rfl rfl rfl rfl rfl K_275 (g_X11_see  _ _ e2) rfl rfl ?_
    refine hr_Grun mf_X11_token lb_X11_token_167 (P := True) (pc' := 171) (ls' := [some (.ref 275), none, some (.int x2)]) (st' := [.int 57, .int 48, .int v2]) (M' := M2) rfl rfl trivial ?_
    refine hr_Fb h (fun v4 M4 e4 h => ?_)
    refine hr_Gcs mf_X11_token mf_X11_in lb_X11_token_171 (as := [.int v2, .int 48, .int 57]) (rest := []) (st2 := [.int v4]) (v := some (.int v4)) (M1 := M4) rfl rfl rfl rfl rfl rfl (g_X11_in v2 48 57 _ _ e4) rfl rfl ?_
    refine hr_Grun mf_X11_token lb_X11_token_174 (P := True) (pc' := if v4 = 0 then 224 else 177) (ls' := [some (.ref 275), none, some (.int x2)]) (st' := []) (M' := M4) rfl rfl trivial ?_
    refine hr_Gif h (fun _ h => ?_) (fun _ h => ?_)
    · refine hr_Grun mf_X11_token lb_X11_token_224 (P := True) (pc' := if x2 ≤ 2 then 234 else 230) (ls' := [some (.ref 275), none, some (.int x2)]) (st' := [.ref 275]) (M' := M4) rfl rfl trivial ?_
      refine hr_Gif h (fun _ h => ?_) (fun _ h => ?_)
      · refine hr_Grun mf_X11_token lb_X11_token_234 (P := True) (pc' := 235) (ls' := [some (.ref 275), none, some (.int x2)]) (st' := [.int 3, .ref 275]) (M' := M4) rfl rfl trivial ?_
        refine hr_Grun mf_X11_token lb_X11_token_235 (P := (hr_K 275 = 10 ∧ 275 < hr_n) ∧ True) (pc' := 266) (ls' := [some (.ref 275), none, some (.int x2)]) (st' := []) (M' := hr_si M4 275 14 3) rfl rfl ⟨⟨K_275, L_275⟩, trivial⟩ ?_
        cases h
        exact hr_Gret mf_X11_token lb_X11_token_266 rfl rfl trivial
      · refine hr_Grun mf_X11_token lb_X11_token_230 (P := True) (pc' := 235) (ls' := [some (.ref 275), none, some (.int x2)]) (st' := [.int 1, .ref 275]) (M' := M4) rfl rfl trivial ?_
        refine hr_Grun mf_X11_token lb_X11_token_235 (P := (hr_K 275 = 10 ∧ 275 < hr_n) ∧ True) (pc' := 266) (ls' := [some (.ref 275), none, some (.int x2)]) (st' := []) (M' := hr_si M4 275 14 1) rfl rfl ⟨⟨K_275, L_275⟩, trivial⟩ ?_
        cases h
        exact hr_Gret mf_X11_token lb_X11_token_266 rfl rfl trivial
    · refine hr_Grun mf_X11_token lb_X11_token_177 (P := True) (pc' := if 2 ≤ x2 then 201 else 183) (ls' := [some (.ref 275), none, some (.int x2)]) (st' := [.ref 275]) (M' := M4) rfl rfl trivial ?_
      refine hr_Gif h (fun _ h => ?_) (fun _ h => ?_)
      · refine hr_Grun mf_X11_token lb_X11_token_201 (P := hr_K 275 = 10 ∧ True) (pc' := 205) (ls' := [some (.ref 275), none, some (.int x2)]) (st' := [.int (M4.1 275 15), .ref 275]) (M' := M4) rfl rfl ⟨K_275, trivial⟩ ?_
        refine hr_Grun mf_X11_token lb_X11_token_205 (P := (hr_K 275 = 10 ∧ 275 < hr_n) ∧ hr_K 275 = 10 ∧ (hr_K 275 = 10 ∧ 275 < hr_n) ∧ True) (pc' := 163) (ls' := [some (.ref 275), none, some (.int (x2 + 1))]) (st' := []) (M' := hr_si (hr_si M4 275 15 (M4.1 275 15)) 275 11 (((hr_si M4 275 15 (M4.1 275 15)).1 275 11) + 1)) rfl rfl ⟨⟨K_275, L_275⟩, K_275, ⟨K_275, L_275⟩, trivial⟩ ?_
        exact ih (x2 + 1) (hr_si (hr_si M4 275 15 (M4.1 275 15)) 275 11 (((hr_si M4 275 15 (M4.1 275 15)).1 275 11) + 1)) _ h
      · refine hr_Grun mf_X11_token lb_X11_token_183 (P := hr_K 275 = 10 ∧ True) (pc' := 191) (ls' := [some (.ref 275), none, some (.int x2)]) (st' := [.ref 275, .int (10 * (M4.1 275 15)), .ref 275]) (M' := M4) rfl rfl ⟨K_275, trivial⟩ ?_
        refine hr_Fb h (fun v15 M15 e15 h => ?_)
        refine hr_Gcv mf_X11_token mf_X11_see lb_X11_token_191 (b := 275) (as := []) (rest := [.int (10 * (M4.1 275 15)), .ref 275]) (st2 := [.int v15, .int (10 * (M4.1 275 15)), .ref 275]) (v := some (.int v15)) (M1 := M15) rfl rfl rfl rfl rfl rfl K_275 (g_X11_see  _ _ e15) rfl rfl ?_
        refine hr_Grun mf_X11_token lb_X11_token_194 (P := True) (pc' := 205) (ls' := [some (.ref 275), none, some (.int x2)]) (st' := [.int (((10 * (M4.1 275 15)) + v15) - 48), .ref 275]) (M' := M15) rfl rfl trivial ?_
        refine hr_Grun mf_X11_token lb_X11_token_205 (P := (hr_K 275 = 10 ∧ 275 < hr_n) ∧ hr_K 275 = 10 ∧ (hr_K 275 = 10 ∧ 275 < hr_n) ∧ True) (pc' := 163) (ls' := [some (.ref 275), none, some (.int (x2 + 1))]) (st' := []) (M' := hr_si (hr_si M15 275 15 (((10 * (M4.1 275 15)) + v15) - 48)) 275 11 (((hr_si M15 275 15 (((10 * (M4.1 275 15)) + v15) - 48)).1 275 11) + 1)) rfl rfl ⟨⟨K_275, L_275⟩, K_275, ⟨K_275, L_275⟩, trivial⟩ ?_
        exact ih (x2 + 1) (hr_si (hr_si M15 275 15 (((10 * (M4.1 275 15)) + v15) - 48)) 275 11 (((hr_si M15 275 15 (((10 * (M4.1 275 15)) + v15) - 48)).1 275 11) + 1)) _ h
def f_X11_token_74  : Nat → Int32 → PM → Option (Unit × PM)
  | 0, _, _ => none
  | f + 1, x2, M =>
    hr_bd (f_X11_see M) (fun v2 M2 =>
    hr_bd (f_X11_in v2 97 122 M2) (fun v4 M4 =>
    if v4 = 0 then
      if x2 ≤ 8 then
        some ((), hr_si (hr_sl M4 275 16 (M4.2.1 275 16)) 275 14 2)
      else
        some ((), hr_si (hr_sl M4 275 16 0) 275 14 2)
    else
      hr_bd (f_X11_see M4) (fun v12 M12 =>
      f_X11_token_74 f (x2 + 1) (hr_si (hr_sl M12 275 16 ((jL (M4.2.1 275 16) 8) ||| v12.toInt64)) 275 11 (((hr_sl M12 275 16 ((jL (M4.2.1 275 16) 8) ||| v12.toInt64)).1 275 11) + 1)))))
theorem g_X11_token_74   : ∀ (f : Nat) (x2 : Int32) (M : PM) (r : Unit × PM), f_X11_token_74 f x2 M = some r → hr_G 175 74 [some (.ref 275), none, some (.int x2)] [] M (none, r.2) := by
  intro f
  induction f with
  | zero => intro x2 M r h; cases h
  | succ f ih =>
    intro x2 M r h
    rw [f_X11_token_74.eq_2] at h
    refine hr_Grun mf_X11_token lb_X11_token_74 (P := True) (pc' := 75) (ls' := [some (.ref 275), none, some (.int x2)]) (st' := [.ref 275]) (M' := M) rfl rfl trivial ?_
    refine hr_Fb h (fun v2 M2 e2 h => ?_)
    refine hr_Gcv mf_X11_token mf_X11_see lb_X11_token_75 (b := 275) (as := []) (rest := []) (st2 := [.int v2]) (v := some (.int v2)) (M1 := M2) rfl rfl rfl rfl rfl rfl K_275 (g_X11_see  _ _ e2) rfl rfl ?_
    refine hr_Grun mf_X11_token lb_X11_token_78 (P := True) (pc' := 82) (ls' := [some (.ref 275), none, some (.int x2)]) (st' := [.int 122, .int 97, .int v2]) (M' := M2) rfl rfl trivial ?_
    refine hr_Fb h (fun v4 M4 e4 h => ?_)
    refine hr_Gcs mf_X11_token mf_X11_in lb_X11_token_82 (as := [.int v2, .int 97, .int 122]) (rest := []) (st2 := [.int v4]) (v := some (.int v4)) (M1 := M4) rfl rfl rfl rfl rfl rfl (g_X11_in v2 97 122 _ _ e4) rfl rfl ?_
    refine hr_Grun mf_X11_token lb_X11_token_85 (P := True) (pc' := if v4 = 0 then 121 else 88) (ls' := [some (.ref 275), none, some (.int x2)]) (st' := []) (M' := M4) rfl rfl trivial ?_
    refine hr_Gif h (fun _ h => ?_) (fun _ h => ?_)
    · refine hr_Grun mf_X11_token lb_X11_token_121 (P := True) (pc' := if x2 ≤ 8 then 132 else 128) (ls' := [some (.ref 275), none, some (.int x2)]) (st' := [.ref 275]) (M' := M4) rfl rfl trivial ?_
      refine hr_Gif h (fun _ h => ?_) (fun _ h => ?_)
      · refine hr_Grun mf_X11_token lb_X11_token_132 (P := hr_K 275 = 10 ∧ True) (pc' := 136) (ls' := [some (.ref 275), none, some (.int x2)]) (st' := [.long (M4.2.1 275 16), .ref 275]) (M' := M4) rfl rfl ⟨K_275, trivial⟩ ?_
        refine hr_Grun mf_X11_token lb_X11_token_136 (P := (hr_K 275 = 10 ∧ 275 < hr_n) ∧ (hr_K 275 = 10 ∧ 275 < hr_n) ∧ True) (pc' := 266) (ls' := [some (.ref 275), none, some (.int x2)]) (st' := []) (M' := hr_si (hr_sl M4 275 16 (M4.2.1 275 16)) 275 14 2) rfl rfl ⟨⟨K_275, L_275⟩, ⟨K_275, L_275⟩, trivial⟩ ?_
        cases h
        exact hr_Gret mf_X11_token lb_X11_token_266 rfl rfl trivial
      · refine hr_Grun mf_X11_token lb_X11_token_128 (P := True) (pc' := 136) (ls' := [some (.ref 275), none, some (.int x2)]) (st' := [.long 0, .ref 275]) (M' := M4) rfl rfl trivial ?_
        refine hr_Grun mf_X11_token lb_X11_token_136 (P := (hr_K 275 = 10 ∧ 275 < hr_n) ∧ (hr_K 275 = 10 ∧ 275 < hr_n) ∧ True) (pc' := 266) (ls' := [some (.ref 275), none, some (.int x2)]) (st' := []) (M' := hr_si (hr_sl M4 275 16 0) 275 14 2) rfl rfl ⟨⟨K_275, L_275⟩, ⟨K_275, L_275⟩, trivial⟩ ?_
        cases h
        exact hr_Gret mf_X11_token lb_X11_token_266 rfl rfl trivial
    · refine hr_Grun mf_X11_token lb_X11_token_88 (P := hr_K 275 = 10 ∧ True) (pc' := 97) (ls' := [some (.ref 275), none, some (.int x2)]) (st' := [.ref 275, .long (jL (M4.2.1 275 16) 8), .ref 275]) (M' := M4) rfl rfl ⟨K_275, trivial⟩ ?_
      refine hr_Fb h (fun v12 M12 e12 h => ?_)
      refine hr_Gcv mf_X11_token mf_X11_see lb_X11_token_97 (b := 275) (as := []) (rest := [.long (jL (M4.2.1 275 16) 8), .ref 275]) (st2 := [.int v12, .long (jL (M4.2.1 275 16) 8), .ref 275]) (v := some (.int v12)) (M1 := M12) rfl rfl rfl rfl rfl rfl K_275 (g_X11_see  _ _ e12) rfl rfl ?_
      refine hr_Grun mf_X11_token lb_X11_token_100 (P := (hr_K 275 = 10 ∧ 275 < hr_n) ∧ hr_K 275 = 10 ∧ (hr_K 275 = 10 ∧ 275 < hr_n) ∧ True) (pc' := 74) (ls' := [some (.ref 275), none, some (.int (x2 + 1))]) (st' := []) (M' := hr_si (hr_sl M12 275 16 ((jL (M4.2.1 275 16) 8) ||| v12.toInt64)) 275 11 (((hr_sl M12 275 16 ((jL (M4.2.1 275 16) 8) ||| v12.toInt64)).1 275 11) + 1)) rfl rfl ⟨⟨K_275, L_275⟩, K_275, ⟨K_275, L_275⟩, trivial⟩ ?_
      exact ih (x2 + 1) (hr_si (hr_sl M12 275 16 ((jL (M4.2.1 275 16) 8) ||| v12.toInt64)) 275 11 (((hr_sl M12 275 16 ((jL (M4.2.1 275 16) 8) ||| v12.toInt64)).1 275 11) + 1)) _ h
def f_X11_token_0  : Nat → PM → Option (Unit × PM)
  | 0, _ => none
  | f + 1, M =>
    hr_bd (f_X11_see M) (fun v2 M2 =>
    if v2 = 10 then
      f_X11_token_0 f (hr_si M2 275 11 ((M2.1 275 11) + 1))
    else
      hr_bd (f_X11_see M2) (fun v6 M6 =>
      if v6 = 32 then
        f_X11_token_0 f (hr_si M6 275 11 ((M6.1 275 11) + 1))
      else
        hr_bd (f_X11_see (hr_si M6 275 13 (M6.1 275 11))) (fun v10 M10 =>
        if 0 ≤ v10 then
          hr_bd (f_X11_in v10 97 122 (hr_sl M10 275 16 0)) (fun v13 M13 =>
          if v13 = 0 then
            hr_bd (f_X11_in v10 48 57 M13) (fun v16 M16 =>
            if v16 = 0 then
              if v10 = 59 then
                some ((), hr_si (hr_si M16 275 11 ((M16.1 275 11) + 1)) 275 14 4)
              else
                some ((), hr_si (hr_si M16 275 11 ((M16.1 275 11) + 1)) 275 14 1)
            else
              f_X11_token_163 FU 0 (hr_si M16 275 15 0))
          else
            f_X11_token_74 FU 0 M13)
        else
          some ((), hr_si (hr_sl M10 275 16 0) 275 14 0))))
theorem g_X11_token_0   : ∀ (f : Nat) (M : PM) (r : Unit × PM), f_X11_token_0 f M = some r → hr_G 175 0 [some (.ref 275), none, none] [] M (none, r.2) := by
  intro f
  induction f with
  | zero => intro M r h; cases h
  | succ f ih =>
    intro M r h
    rw [f_X11_token_0.eq_2] at h
    refine hr_Grun mf_X11_token lb_X11_token_0 (P := True) (pc' := 1) (ls' := [some (.ref 275), none, none]) (st' := [.ref 275]) (M' := M) rfl rfl trivial ?_
    refine hr_Fb h (fun v2 M2 e2 h => ?_)
    refine hr_Gcv mf_X11_token mf_X11_see lb_X11_token_1 (b := 275) (as := []) (rest := []) (st2 := [.int v2]) (v := some (.int v2)) (M1 := M2) rfl rfl rfl rfl rfl rfl K_275 (g_X11_see  _ _ e2) rfl rfl ?_
    refine hr_Grun mf_X11_token lb_X11_token_4 (P := True) (pc' := if v2 = 10 then 18 else 9) (ls' := [some (.ref 275), none, none]) (st' := []) (M' := M2) rfl rfl trivial ?_
    refine hr_Gif h (fun _ h => ?_) (fun _ h => ?_)
    · refine hr_Grun mf_X11_token lb_X11_token_18 (P := hr_K 275 = 10 ∧ (hr_K 275 = 10 ∧ 275 < hr_n) ∧ True) (pc' := 0) (ls' := [some (.ref 275), none, none]) (st' := []) (M' := hr_si M2 275 11 ((M2.1 275 11) + 1)) rfl rfl ⟨K_275, ⟨K_275, L_275⟩, trivial⟩ ?_
      exact ih (hr_si M2 275 11 ((M2.1 275 11) + 1)) _ h
    · refine hr_Grun mf_X11_token lb_X11_token_9 (P := True) (pc' := 10) (ls' := [some (.ref 275), none, none]) (st' := [.ref 275]) (M' := M2) rfl rfl trivial ?_
      refine hr_Fb h (fun v6 M6 e6 h => ?_)
      refine hr_Gcv mf_X11_token mf_X11_see lb_X11_token_10 (b := 275) (as := []) (rest := []) (st2 := [.int v6]) (v := some (.int v6)) (M1 := M6) rfl rfl rfl rfl rfl rfl K_275 (g_X11_see  _ _ e6) rfl rfl ?_
      refine hr_Grun mf_X11_token lb_X11_token_13 (P := True) (pc' := if v6 = 32 then 18 else 31) (ls' := [some (.ref 275), none, none]) (st' := []) (M' := M6) rfl rfl trivial ?_
      refine hr_Gif h (fun _ h => ?_) (fun _ h => ?_)
      · refine hr_Grun mf_X11_token lb_X11_token_18 (P := hr_K 275 = 10 ∧ (hr_K 275 = 10 ∧ 275 < hr_n) ∧ True) (pc' := 0) (ls' := [some (.ref 275), none, none]) (st' := []) (M' := hr_si M6 275 11 ((M6.1 275 11) + 1)) rfl rfl ⟨K_275, ⟨K_275, L_275⟩, trivial⟩ ?_
        exact ih (hr_si M6 275 11 ((M6.1 275 11) + 1)) _ h
      · refine hr_Grun mf_X11_token lb_X11_token_31 (P := hr_K 275 = 10 ∧ (hr_K 275 = 10 ∧ 275 < hr_n) ∧ True) (pc' := 40) (ls' := [some (.ref 275), none, none]) (st' := [.ref 275]) (M' := hr_si M6 275 13 (M6.1 275 11)) rfl rfl ⟨K_275, ⟨K_275, L_275⟩, trivial⟩ ?_
        refine hr_Fb h (fun v10 M10 e10 h => ?_)
        refine hr_Gcv mf_X11_token mf_X11_see lb_X11_token_40 (b := 275) (as := []) (rest := []) (st2 := [.int v10]) (v := some (.int v10)) (M1 := M10) rfl rfl rfl rfl rfl rfl K_275 (g_X11_see  _ _ e10) rfl rfl ?_
        refine hr_Grun mf_X11_token lb_X11_token_43 (P := (hr_K 275 = 10 ∧ 275 < hr_n) ∧ True) (pc' := if 0 ≤ v10 then 63 else 55) (ls' := [some (.ref 275), some (.int v10), some (.int 0)]) (st' := []) (M' := hr_sl M10 275 16 0) rfl rfl ⟨⟨K_275, L_275⟩, trivial⟩ ?_
        refine hr_Gif h (fun _ h => ?_) (fun _ h => ?_)
        · refine hr_Grun mf_X11_token lb_X11_token_63 (P := True) (pc' := 68) (ls' := [some (.ref 275), some (.int v10), some (.int 0)]) (st' := [.int 122, .int 97, .int v10]) (M' := hr_sl M10 275 16 0) rfl rfl trivial ?_
          refine hr_Fb h (fun v13 M13 e13 h => ?_)
          refine hr_Gcs mf_X11_token mf_X11_in lb_X11_token_68 (as := [.int v10, .int 97, .int 122]) (rest := []) (st2 := [.int v13]) (v := some (.int v13)) (M1 := M13) rfl rfl rfl rfl rfl rfl (g_X11_in v10 97 122 _ _ e13) rfl rfl ?_
          refine hr_Grun mf_X11_token lb_X11_token_71 (P := True) (pc' := if v13 = 0 then 147 else 74) (ls' := [some (.ref 275), some (.int v10), some (.int 0)]) (st' := []) (M' := M13) rfl rfl trivial ?_
          refine hr_Gif h (fun _ h => ?_) (fun _ h => ?_)
          · refine hr_Grun mf_X11_token lb_X11_token_147 (P := True) (pc' := 152) (ls' := [some (.ref 275), some (.int v10), some (.int 0)]) (st' := [.int 57, .int 48, .int v10]) (M' := M13) rfl rfl trivial ?_
            refine hr_Fb h (fun v16 M16 e16 h => ?_)
            refine hr_Gcs mf_X11_token mf_X11_in lb_X11_token_152 (as := [.int v10, .int 48, .int 57]) (rest := []) (st2 := [.int v16]) (v := some (.int v16)) (M1 := M16) rfl rfl rfl rfl rfl rfl (g_X11_in v10 48 57 _ _ e16) rfl rfl ?_
            refine hr_Grun mf_X11_token lb_X11_token_155 (P := True) (pc' := if v16 = 0 then 241 else 158) (ls' := [some (.ref 275), some (.int v10), some (.int 0)]) (st' := []) (M' := M16) rfl rfl trivial ?_
            refine hr_Gif h (fun _ h => ?_) (fun _ h => ?_)
            · refine hr_Grun mf_X11_token lb_X11_token_241 (P := hr_K 275 = 10 ∧ (hr_K 275 = 10 ∧ 275 < hr_n) ∧ True) (pc' := if v10 = 59 then 258 else 262) (ls' := [some (.ref 275), some (.int v10), some (.int 0)]) (st' := [.ref 275]) (M' := hr_si M16 275 11 ((M16.1 275 11) + 1)) rfl rfl ⟨K_275, ⟨K_275, L_275⟩, trivial⟩ ?_
              refine hr_Gif h (fun _ h => ?_) (fun _ h => ?_)
              · refine hr_Grun mf_X11_token lb_X11_token_258 (P := True) (pc' := 263) (ls' := [some (.ref 275), some (.int v10), some (.int 0)]) (st' := [.int 4, .ref 275]) (M' := hr_si M16 275 11 ((M16.1 275 11) + 1)) rfl rfl trivial ?_
                refine hr_Grun mf_X11_token lb_X11_token_263 (P := (hr_K 275 = 10 ∧ 275 < hr_n) ∧ True) (pc' := 266) (ls' := [some (.ref 275), some (.int v10), some (.int 0)]) (st' := []) (M' := hr_si (hr_si M16 275 11 ((M16.1 275 11) + 1)) 275 14 4) rfl rfl ⟨⟨K_275, L_275⟩, trivial⟩ ?_
                cases h
                exact hr_Gret mf_X11_token lb_X11_token_266 rfl rfl trivial
              · refine hr_Grun mf_X11_token lb_X11_token_262 (P := True) (pc' := 263) (ls' := [some (.ref 275), some (.int v10), some (.int 0)]) (st' := [.int 1, .ref 275]) (M' := hr_si M16 275 11 ((M16.1 275 11) + 1)) rfl rfl trivial ?_
                refine hr_Grun mf_X11_token lb_X11_token_263 (P := (hr_K 275 = 10 ∧ 275 < hr_n) ∧ True) (pc' := 266) (ls' := [some (.ref 275), some (.int v10), some (.int 0)]) (st' := []) (M' := hr_si (hr_si M16 275 11 ((M16.1 275 11) + 1)) 275 14 1) rfl rfl ⟨⟨K_275, L_275⟩, trivial⟩ ?_
                cases h
                exact hr_Gret mf_X11_token lb_X11_token_266 rfl rfl trivial
            · refine hr_Grun mf_X11_token lb_X11_token_158 (P := (hr_K 275 = 10 ∧ 275 < hr_n) ∧ True) (pc' := 163) (ls' := [some (.ref 275), some (.int v10), some (.int 0)]) (st' := []) (M' := hr_si M16 275 15 0) rfl rfl ⟨⟨K_275, L_275⟩, trivial⟩ ?_
              refine hr_Gle (ls := [some (.ref 275), none, some (.int 0)]) (hr_le_s (hr_le_n (hr_le_s hr_le_0))) ?_
              exact g_X11_token_163 FU 0 (hr_si M16 275 15 0) _ h
          · refine hr_Gle (ls := [some (.ref 275), none, some (.int 0)]) (hr_le_s (hr_le_n (hr_le_s hr_le_0))) ?_
            exact g_X11_token_74 FU 0 M13 _ h
        · refine hr_Grun mf_X11_token lb_X11_token_55 (P := (hr_K 275 = 10 ∧ 275 < hr_n) ∧ True) (pc' := 266) (ls' := [some (.ref 275), some (.int v10), some (.int 0)]) (st' := []) (M' := hr_si (hr_sl M10 275 16 0) 275 14 0) rfl rfl ⟨⟨K_275, L_275⟩, trivial⟩ ?_
          cases h
          exact hr_Gret mf_X11_token lb_X11_token_266 rfl rfl trivial
def f_X11_token (M : PM) : Option (Unit × PM) :=
  f_X11_token_0 FU M
theorem g_X11_token  : ∀ (M : PM) (r : Unit × PM), f_X11_token M = some r → hr_G 175 0 [some (.ref 275), none, none] [] M (none, r.2) := by
  intro M r h
  unfold f_X11_token at h
  exact g_X11_token_0 FU M _ h
theorem mf_X11_fails : hr_mf 176 11 0 (some .boolean) 1 0 bk_X11_fails := ⟨rfl, rfl, rfl, rfl, rfl, rfl⟩
theorem lb_X11_fails_0 : bk_X11_fails.lookup 0 = some [(.aload_n 0, 1), (.aload_n 0, 1), (.getfield 130, 3), (.putfield 143, 3), (.iconst 0, 1)] := rfl
theorem lb_X11_fails_9 : bk_X11_fails.lookup 9 = some [(.ireturn, 1)] := rfl
def f_X11_fails (M : PM) : Option (Int32 × PM) :=
  some (0, hr_si M 275 17 (M.1 275 13))
theorem g_X11_fails  : ∀ (M : PM) (r : Int32 × PM), f_X11_fails M = some r → hr_G 176 0 [some (.ref 275)] [] M (some (.int r.1), r.2) := by
  intro M r h
  unfold f_X11_fails at h
  refine hr_Grun mf_X11_fails lb_X11_fails_0 (P := hr_K 275 = 10 ∧ (hr_K 275 = 10 ∧ 275 < hr_n) ∧ True) (pc' := 9) (ls' := [some (.ref 275)]) (st' := [.int 0]) (M' := hr_si M 275 17 (M.1 275 13)) rfl rfl ⟨K_275, ⟨K_275, L_275⟩, trivial⟩ ?_
  cases h
  exact hr_Gret mf_X11_fails lb_X11_fails_9 rfl rfl (Or.inl rfl)
theorem mf_X11_later : hr_mf 177 11 0 none 3 2 bk_X11_later := ⟨rfl, rfl, rfl, rfl, rfl, rfl⟩
theorem lb_X11_later_0 : bk_X11_later.lookup 0 = some [(.aload_n 0, 1), (.getfield 146, 3), (.ifCond .eq 27, 3)] := rfl
theorem lb_X11_later_7 : bk_X11_later.lookup 7 = some [(.iload_n 2, 1), (.aload_n 0, 1), (.getfield 149, 3), (.if_icmp .lt 19, 3)] := rfl
theorem lb_X11_later_15 : bk_X11_later.lookup 15 = some [(.iload_n 2, 1), (.aload_n 0, 1), (.getfield 149, 3), (.if_icmp .ne 21, 3)] := rfl
theorem lb_X11_later_23 : bk_X11_later.lookup 23 = some [(.iload_n 1, 1), (.aload_n 0, 1), (.getfield 146, 3), (.if_icmp .ge 13, 3)] := rfl
theorem lb_X11_later_31 : bk_X11_later.lookup 31 = some [(.aload_n 0, 1), (.iload_n 1, 1), (.putfield 146, 3), (.aload_n 0, 1), (.iload_n 2, 1), (.putfield 149, 3)] := rfl
theorem lb_X11_later_41 : bk_X11_later.lookup 41 = some [(.return_, 1)] := rfl
def f_X11_later (a1 : Int32) (a2 : Int32) (M : PM) : Option (Unit × PM) :=
  if (M.1 275 18) = 0 then
    some ((), hr_si (hr_si M 275 18 a1) 275 19 a2)
  else
    if a2 < (M.1 275 19) then
      some ((), hr_si (hr_si M 275 18 a1) 275 19 a2)
    else
      if a2 = (M.1 275 19) then
        if (M.1 275 18) ≤ a1 then
          some ((), M)
        else
          some ((), hr_si (hr_si M 275 18 a1) 275 19 a2)
      else
        some ((), M)
theorem g_X11_later (a1 : Int32) (a2 : Int32) : ∀ (M : PM) (r : Unit × PM), f_X11_later a1 a2 M = some r → hr_G 177 0 [some (.ref 275), some (.int a1), some (.int a2)] [] M (none, r.2) := by
  intro M r h
  unfold f_X11_later at h
  refine hr_Grun mf_X11_later lb_X11_later_0 (P := hr_K 275 = 10 ∧ True) (pc' := if (M.1 275 18) = 0 then 31 else 7) (ls' := [some (.ref 275), some (.int a1), some (.int a2)]) (st' := []) (M' := M) rfl rfl ⟨K_275, trivial⟩ ?_
  refine hr_Gif h (fun _ h => ?_) (fun _ h => ?_)
  · refine hr_Grun mf_X11_later lb_X11_later_31 (P := (hr_K 275 = 10 ∧ 275 < hr_n) ∧ (hr_K 275 = 10 ∧ 275 < hr_n) ∧ True) (pc' := 41) (ls' := [some (.ref 275), some (.int a1), some (.int a2)]) (st' := []) (M' := hr_si (hr_si M 275 18 a1) 275 19 a2) rfl rfl ⟨⟨K_275, L_275⟩, ⟨K_275, L_275⟩, trivial⟩ ?_
    cases h
    exact hr_Gret mf_X11_later lb_X11_later_41 rfl rfl trivial
  · refine hr_Grun mf_X11_later lb_X11_later_7 (P := hr_K 275 = 10 ∧ True) (pc' := if a2 < (M.1 275 19) then 31 else 15) (ls' := [some (.ref 275), some (.int a1), some (.int a2)]) (st' := []) (M' := M) rfl rfl ⟨K_275, trivial⟩ ?_
    refine hr_Gif h (fun _ h => ?_) (fun _ h => ?_)
    · refine hr_Grun mf_X11_later lb_X11_later_31 (P := (hr_K 275 = 10 ∧ 275 < hr_n) ∧ (hr_K 275 = 10 ∧ 275 < hr_n) ∧ True) (pc' := 41) (ls' := [some (.ref 275), some (.int a1), some (.int a2)]) (st' := []) (M' := hr_si (hr_si M 275 18 a1) 275 19 a2) rfl rfl ⟨⟨K_275, L_275⟩, ⟨K_275, L_275⟩, trivial⟩ ?_
      cases h
      exact hr_Gret mf_X11_later lb_X11_later_41 rfl rfl trivial
    · refine hr_Grun mf_X11_later lb_X11_later_15 (P := hr_K 275 = 10 ∧ True) (pc' := if a2 = (M.1 275 19) then 23 else 41) (ls' := [some (.ref 275), some (.int a1), some (.int a2)]) (st' := []) (M' := M) rfl rfl ⟨K_275, trivial⟩ ?_
      refine hr_Gif h (fun _ h => ?_) (fun _ h => ?_)
      · refine hr_Grun mf_X11_later lb_X11_later_23 (P := hr_K 275 = 10 ∧ True) (pc' := if (M.1 275 18) ≤ a1 then 41 else 31) (ls' := [some (.ref 275), some (.int a1), some (.int a2)]) (st' := []) (M' := M) rfl rfl ⟨K_275, trivial⟩ ?_
        refine hr_Gif h (fun _ h => ?_) (fun _ h => ?_)
        · cases h
          exact hr_Gret mf_X11_later lb_X11_later_41 rfl rfl trivial
        · refine hr_Grun mf_X11_later lb_X11_later_31 (P := (hr_K 275 = 10 ∧ 275 < hr_n) ∧ (hr_K 275 = 10 ∧ 275 < hr_n) ∧ True) (pc' := 41) (ls' := [some (.ref 275), some (.int a1), some (.int a2)]) (st' := []) (M' := hr_si (hr_si M 275 18 a1) 275 19 a2) rfl rfl ⟨⟨K_275, L_275⟩, ⟨K_275, L_275⟩, trivial⟩ ?_
          cases h
          exact hr_Gret mf_X11_later lb_X11_later_41 rfl rfl trivial
      · cases h
        exact hr_Gret mf_X11_later lb_X11_later_41 rfl rfl trivial
theorem mf_X11_takeBut : hr_mf 178 11 2 (some .boolean) 5 4 bk_X11_takeBut := ⟨rfl, rfl, rfl, rfl, rfl, rfl⟩
theorem lb_X11_takeBut_0 : bk_X11_takeBut.lookup 0 = some [(.aload_n 0, 1), (.getfield 137, 3), (.iconst 3, 1), (.if_icmp .eq 8, 3)] := rfl
theorem lb_X11_takeBut_8 : bk_X11_takeBut.lookup 8 = some [(.aload_n 0, 1)] := rfl
theorem lb_X11_takeBut_9 : bk_X11_takeBut.lookup 9 = some [(.invokevirtual 152, 3)] := rfl
theorem lb_X11_takeBut_12 : bk_X11_takeBut.lookup 12 = some [(.ireturn, 1)] := rfl
theorem lb_X11_takeBut_13 : bk_X11_takeBut.lookup 13 = some [(.aload_n 0, 1), (.getfield 44, 3), (.iload_n 1, 1), (.aload_n 0, 1), (.getfield 140, 3), (.iastore, 1), (.aload_n 0, 1), (.getfield 140, 3), (.iload_n 2, 1), (.iload_n 3, 1)] := rfl
theorem lb_X11_takeBut_29 : bk_X11_takeBut.lookup 29 = some [(.invokestatic 112, 3)] := rfl
theorem lb_X11_takeBut_32 : bk_X11_takeBut.lookup 32 = some [(.ifCond .eq 12, 3)] := rfl
theorem lb_X11_takeBut_35 : bk_X11_takeBut.lookup 35 = some [(.aload_n 0, 1), (.getfield 140, 3), (.iload 4, 2), (.if_icmp .ne 17, 3)] := rfl
theorem lb_X11_takeBut_44 : bk_X11_takeBut.lookup 44 = some [(.aload_n 0, 1), (.iconst 2, 1), (.aload_n 0, 1), (.getfield 130, 3)] := rfl
theorem lb_X11_takeBut_50 : bk_X11_takeBut.lookup 50 = some [(.invokevirtual 156, 3)] := rfl
theorem lb_X11_takeBut_53 : bk_X11_takeBut.lookup 53 = some [(.aload_n 0, 1), (.iconst 0, 1), (.putfield 160, 3)] := rfl
theorem lb_X11_takeBut_58 : bk_X11_takeBut.lookup 58 = some [(.aload_n 0, 1)] := rfl
theorem lb_X11_takeBut_59 : bk_X11_takeBut.lookup 59 = some [(.invokevirtual 164, 3)] := rfl
theorem lb_X11_takeBut_62 : bk_X11_takeBut.lookup 62 = some [(.iconst 1, 1)] := rfl
theorem lb_X11_takeBut_63 : bk_X11_takeBut.lookup 63 = some [(.ireturn, 1)] := rfl
def f_X11_takeBut_58 (a1 : Int32) (a2 : Int32) (a3 : Int32) (a4 : Int32) (M : PM) : Option (Int32 × PM) :=
  hr_bd (f_X11_token M) (fun v2 M2 =>
  some (1, M2))
theorem g_X11_takeBut_58 (a1 : Int32) (a2 : Int32) (a3 : Int32) (a4 : Int32)  : ∀ (M : PM) (r : Int32 × PM), f_X11_takeBut_58 a1 a2 a3 a4 M = some r → hr_G 178 58 [some (.ref 275), none, none, none, none] [] M (some (.int r.1), r.2) := by
  intro M r h
  unfold f_X11_takeBut_58 at h
  refine hr_Grun mf_X11_takeBut lb_X11_takeBut_58 (P := True) (pc' := 59) (ls' := [some (.ref 275), none, none, none, none]) (st' := [.ref 275]) (M' := M) rfl rfl trivial ?_
  refine hr_Fb h (fun v2 M2 e2 h => ?_)
  refine hr_Gcv mf_X11_takeBut mf_X11_token lb_X11_takeBut_59 (b := 275) (as := []) (rest := []) (st2 := []) (v := none) (M1 := M2) rfl rfl rfl rfl rfl rfl K_275 (g_X11_token  _ _ e2) rfl rfl ?_
  refine hr_Grun mf_X11_takeBut lb_X11_takeBut_62 (P := True) (pc' := 63) (ls' := [some (.ref 275), none, none, none, none]) (st' := [.int 1]) (M' := M2) rfl rfl trivial ?_
  cases h
  exact hr_Gret mf_X11_takeBut lb_X11_takeBut_63 rfl rfl (Or.inr rfl)
def f_X11_takeBut_44 (a1 : Int32) (a2 : Int32) (a3 : Int32) (a4 : Int32) (M : PM) : Option (Int32 × PM) :=
  hr_bd (f_X11_later 2 (M.1 275 13) M) (fun v2 M2 =>
  f_X11_takeBut_58 a1 a2 a3 a4 (hr_si M2 275 23 0))
theorem g_X11_takeBut_44 (a1 : Int32) (a2 : Int32) (a3 : Int32) (a4 : Int32)  : ∀ (M : PM) (r : Int32 × PM), f_X11_takeBut_44 a1 a2 a3 a4 M = some r → hr_G 178 44 [some (.ref 275), none, none, none, none] [] M (some (.int r.1), r.2) := by
  intro M r h
  unfold f_X11_takeBut_44 at h
  refine hr_Grun mf_X11_takeBut lb_X11_takeBut_44 (P := hr_K 275 = 10 ∧ True) (pc' := 50) (ls' := [some (.ref 275), none, none, none, none]) (st' := [.int (M.1 275 13), .int 2, .ref 275]) (M' := M) rfl rfl ⟨K_275, trivial⟩ ?_
  refine hr_Fb h (fun v2 M2 e2 h => ?_)
  refine hr_Gcv mf_X11_takeBut mf_X11_later lb_X11_takeBut_50 (b := 275) (as := [.int 2, .int (M.1 275 13)]) (rest := []) (st2 := []) (v := none) (M1 := M2) rfl rfl rfl rfl rfl rfl K_275 (g_X11_later 2 (M.1 275 13) _ _ e2) rfl rfl ?_
  refine hr_Grun mf_X11_takeBut lb_X11_takeBut_53 (P := (hr_K 275 = 10 ∧ 275 < hr_n ∧ ((0 : Int32) = 0 ∨ (0 : Int32) = 1)) ∧ True) (pc' := 58) (ls' := [some (.ref 275), none, none, none, none]) (st' := []) (M' := hr_si M2 275 23 0) rfl rfl ⟨⟨K_275, L_275, Or.inl rfl⟩, trivial⟩ ?_
  exact g_X11_takeBut_58 a1 a2 a3 a4 (hr_si M2 275 23 0) _ h
def f_X11_takeBut (a1 : Int32) (a2 : Int32) (a3 : Int32) (a4 : Int32) (M : PM) : Option (Int32 × PM) :=
  if (M.1 275 14) = 3 then
    if inB a1 4 = true then 
    hr_bd (f_X11_in ((hr_si M 287 a1.toNatClampNeg (M.1 275 15)).1 275 15) a2 a3 (hr_si M 287 a1.toNatClampNeg (M.1 275 15))) (fun v3 M3 =>
    if v3 = 0 then
      f_X11_takeBut_44 a1 a2 a3 a4 M3
    else
      if (M3.1 275 15) = a4 then
        f_X11_takeBut_44 a1 a2 a3 a4 M3
      else
        f_X11_takeBut_58 a1 a2 a3 a4 M3) else none
  else
    hr_bd (f_X11_fails M) (fun v7 M7 =>
    if v7 = 0 ∨ v7 = 1 then some (v7, M7) else none)
theorem g_X11_takeBut (a1 : Int32) (a2 : Int32) (a3 : Int32) (a4 : Int32) : ∀ (M : PM) (r : Int32 × PM), f_X11_takeBut a1 a2 a3 a4 M = some r → hr_G 178 0 [some (.ref 275), some (.int a1), some (.int a2), some (.int a3), some (.int a4)] [] M (some (.int r.1), r.2) := by
  intro M r h
  unfold f_X11_takeBut at h
  refine hr_Grun mf_X11_takeBut lb_X11_takeBut_0 (P := hr_K 275 = 10 ∧ True) (pc' := if (M.1 275 14) = 3 then 13 else 8) (ls' := [some (.ref 275), some (.int a1), some (.int a2), some (.int a3), some (.int a4)]) (st' := []) (M' := M) rfl rfl ⟨K_275, trivial⟩ ?_
  refine hr_Gif h (fun _ h => ?_) (fun _ h => ?_)
  · refine hr_Fg h (fun hg2_0 h => ?_)
    refine hr_Grun mf_X11_takeBut lb_X11_takeBut_13 (P := hr_K 275 = 10 ∧ hr_K 275 = 10 ∧ ((hr_K 287 = 12 ∧ 287 < hr_n) ∧ vp_in a1 (hr_N 287)) ∧ hr_K 275 = 10 ∧ True) (pc' := 29) (ls' := [some (.ref 275), some (.int a1), some (.int a2), some (.int a3), some (.int a4)]) (st' := [.int a3, .int a2, .int ((hr_si M 287 a1.toNatClampNeg (M.1 275 15)).1 275 15)]) (M' := hr_si M 287 a1.toNatClampNeg (M.1 275 15)) rfl rfl ⟨K_275, K_275, ⟨⟨K_287, L_287⟩, (inB_N N_287 hg2_0)⟩, K_275, trivial⟩ ?_
    refine hr_Fb h (fun v3 M3 e3 h => ?_)
    refine hr_Gcs mf_X11_takeBut mf_X11_in lb_X11_takeBut_29 (as := [.int ((hr_si M 287 a1.toNatClampNeg (M.1 275 15)).1 275 15), .int a2, .int a3]) (rest := []) (st2 := [.int v3]) (v := some (.int v3)) (M1 := M3) rfl rfl rfl rfl rfl rfl (g_X11_in ((hr_si M 287 a1.toNatClampNeg (M.1 275 15)).1 275 15) a2 a3 _ _ e3) rfl rfl ?_
    refine hr_Grun mf_X11_takeBut lb_X11_takeBut_32 (P := True) (pc' := if v3 = 0 then 44 else 35) (ls' := [some (.ref 275), some (.int a1), some (.int a2), some (.int a3), some (.int a4)]) (st' := []) (M' := M3) rfl rfl trivial ?_
    refine hr_Gif h (fun _ h => ?_) (fun _ h => ?_)
    · refine hr_Gle (ls := [some (.ref 275), none, none, none, none]) (hr_le_s (hr_le_n (hr_le_n (hr_le_n (hr_le_n hr_le_0))))) ?_
      exact g_X11_takeBut_44 a1 a2 a3 a4 M3 _ h
    · refine hr_Grun mf_X11_takeBut lb_X11_takeBut_35 (P := hr_K 275 = 10 ∧ True) (pc' := if (M3.1 275 15) = a4 then 44 else 58) (ls' := [some (.ref 275), some (.int a1), some (.int a2), some (.int a3), some (.int a4)]) (st' := []) (M' := M3) rfl rfl ⟨K_275, trivial⟩ ?_
      refine hr_Gif h (fun _ h => ?_) (fun _ h => ?_)
      · refine hr_Gle (ls := [some (.ref 275), none, none, none, none]) (hr_le_s (hr_le_n (hr_le_n (hr_le_n (hr_le_n hr_le_0))))) ?_
        exact g_X11_takeBut_44 a1 a2 a3 a4 M3 _ h
      · refine hr_Gle (ls := [some (.ref 275), none, none, none, none]) (hr_le_s (hr_le_n (hr_le_n (hr_le_n (hr_le_n hr_le_0))))) ?_
        exact g_X11_takeBut_58 a1 a2 a3 a4 M3 _ h
  · refine hr_Grun mf_X11_takeBut lb_X11_takeBut_8 (P := True) (pc' := 9) (ls' := [some (.ref 275), some (.int a1), some (.int a2), some (.int a3), some (.int a4)]) (st' := [.ref 275]) (M' := M) rfl rfl trivial ?_
    refine hr_Fb h (fun v7 M7 e7 h => ?_)
    refine hr_Gcv mf_X11_takeBut mf_X11_fails lb_X11_takeBut_9 (b := 275) (as := []) (rest := []) (st2 := [.int v7]) (v := some (.int v7)) (M1 := M7) rfl rfl rfl rfl rfl rfl K_275 (g_X11_fails  _ _ e7) rfl rfl ?_
    refine hr_Fg h (fun hz h => ?_)
    cases h
    exact hr_Gret mf_X11_takeBut lb_X11_takeBut_12 rfl rfl hz
theorem mf_X11_take : hr_mf 179 11 3 (some .boolean) 4 3 bk_X11_take := ⟨rfl, rfl, rfl, rfl, rfl, rfl⟩
theorem lb_X11_take_0 : bk_X11_take.lookup 0 = some [(.aload_n 0, 1), (.iload_n 1, 1), (.iload_n 2, 1), (.iload_n 3, 1), (.iconst (-1), 1)] := rfl
theorem lb_X11_take_5 : bk_X11_take.lookup 5 = some [(.invokevirtual 167, 3)] := rfl
theorem lb_X11_take_8 : bk_X11_take.lookup 8 = some [(.ireturn, 1)] := rfl
def f_X11_take (a1 : Int32) (a2 : Int32) (a3 : Int32) (M : PM) : Option (Int32 × PM) :=
  hr_bd (f_X11_takeBut a1 a2 a3 (-1) M) (fun v2 M2 =>
  if v2 = 0 ∨ v2 = 1 then some (v2, M2) else none)
theorem g_X11_take (a1 : Int32) (a2 : Int32) (a3 : Int32) : ∀ (M : PM) (r : Int32 × PM), f_X11_take a1 a2 a3 M = some r → hr_G 179 0 [some (.ref 275), some (.int a1), some (.int a2), some (.int a3)] [] M (some (.int r.1), r.2) := by
  intro M r h
  unfold f_X11_take at h
  refine hr_Grun mf_X11_take lb_X11_take_0 (P := True) (pc' := 5) (ls' := [some (.ref 275), some (.int a1), some (.int a2), some (.int a3)]) (st' := [.int (-1), .int a3, .int a2, .int a1, .ref 275]) (M' := M) rfl rfl trivial ?_
  refine hr_Fb h (fun v2 M2 e2 h => ?_)
  refine hr_Gcv mf_X11_take mf_X11_takeBut lb_X11_take_5 (b := 275) (as := [.int a1, .int a2, .int a3, .int (-1)]) (rest := []) (st2 := [.int v2]) (v := some (.int v2)) (M1 := M2) rfl rfl rfl rfl rfl rfl K_275 (g_X11_takeBut a1 a2 a3 (-1) _ _ e2) rfl rfl ?_
  refine hr_Fg h (fun hz h => ?_)
  cases h
  exact hr_Gret mf_X11_take lb_X11_take_8 rfl rfl hz
theorem mf_X11_full : hr_mf 180 11 1 none 4 3 bk_X11_full := ⟨rfl, rfl, rfl, rfl, rfl, rfl⟩
theorem lb_X11_full_0 : bk_X11_full.lookup 0 = some [(.aload_n 0, 1), (.getfield 41, 3), (.iload_n 1, 1), (.iaload, 1), (.iload_n 2, 1), (.if_icmp .ne 9, 3)] := rfl
theorem lb_X11_full_10 : bk_X11_full.lookup 10 = some [(.aload_n 0, 1), (.iconst 3, 1), (.iload_n 3, 1)] := rfl
theorem lb_X11_full_13 : bk_X11_full.lookup 13 = some [(.invokevirtual 156, 3)] := rfl
theorem lb_X11_full_16 : bk_X11_full.lookup 16 = some [(.return_, 1)] := rfl
def f_X11_full (a1 : Int32) (a2 : Int32) (a3 : Int32) (M : PM) : Option (Unit × PM) :=
  if inB a1 121 = true then if (M.1 286 a1.toNatClampNeg) = a2 then
    hr_bd (f_X11_later 3 a3 M) (fun v3 M3 =>
    some ((), M3))
  else
    some ((), M)
  else none
theorem g_X11_full (a1 : Int32) (a2 : Int32) (a3 : Int32) : ∀ (M : PM) (r : Unit × PM), f_X11_full a1 a2 a3 M = some r → hr_G 180 0 [some (.ref 275), some (.int a1), some (.int a2), some (.int a3)] [] M (none, r.2) := by
  intro M r h
  unfold f_X11_full at h
  refine hr_Fg h (fun hg1_0 h => ?_)
  refine hr_Grun mf_X11_full lb_X11_full_0 (P := hr_K 275 = 10 ∧ (hr_K 286 = 12 ∧ vp_in a1 (hr_N 286)) ∧ True) (pc' := if (M.1 286 a1.toNatClampNeg) = a2 then 10 else 16) (ls' := [some (.ref 275), some (.int a1), some (.int a2), some (.int a3)]) (st' := []) (M' := M) rfl rfl ⟨K_275, ⟨K_286, (inB_N N_286 hg1_0)⟩, trivial⟩ ?_
  refine hr_Gif h (fun _ h => ?_) (fun _ h => ?_)
  · refine hr_Grun mf_X11_full lb_X11_full_10 (P := True) (pc' := 13) (ls' := [some (.ref 275), some (.int a1), some (.int a2), some (.int a3)]) (st' := [.int a3, .int 3, .ref 275]) (M' := M) rfl rfl trivial ?_
    refine hr_Fb h (fun v3 M3 e3 h => ?_)
    refine hr_Gcv mf_X11_full mf_X11_later lb_X11_full_13 (b := 275) (as := [.int 3, .int a3]) (rest := []) (st2 := []) (v := none) (M1 := M3) rfl rfl rfl rfl rfl rfl K_275 (g_X11_later 3 a3 _ _ e3) rfl rfl ?_
    cases h
    exact hr_Gret mf_X11_full lb_X11_full_16 rfl rfl trivial
  · cases h
    exact hr_Gret mf_X11_full lb_X11_full_16 rfl rfl trivial
theorem mf_X11_keep : hr_mf 181 11 0 none 7 4 bk_X11_keep := ⟨rfl, rfl, rfl, rfl, rfl, rfl⟩
theorem lb_X11_keep_0 : bk_X11_keep.lookup 0 = some [(.aload_n 0, 1), (.getfield 41, 3), (.iload_n 1, 1), (.iaload, 1), (.istore 5, 2), (.iload 5, 2), (.iload 4, 2), (.if_icmp .ne 4, 3)] := rfl
theorem lb_X11_keep_15 : bk_X11_keep.lookup 15 = some [(.return_, 1)] := rfl
theorem lb_X11_keep_16 : bk_X11_keep.lookup 16 = some [(.iconst 0, 1), (.istore 6, 2)] := rfl
theorem lb_X11_keep_19 : bk_X11_keep.lookup 19 = some [(.iload 6, 2), (.iload_n 3, 1), (.if_icmp .ge 30, 3)] := rfl
theorem lb_X11_keep_25 : bk_X11_keep.lookup 25 = some [(.aload_n 0, 1), (.getfield 41, 3), (.iload_n 2, 1), (.iload_n 3, 1), (.iload 5, 2), (.imul, 1), (.iadd, 1), (.iload 6, 2), (.iadd, 1), (.aload_n 0, 1), (.getfield 44, 3), (.iload 6, 2), (.iaload, 1), (.iastore, 1), (.iinc 6 1, 3), (.goto (-30), 3)] := rfl
theorem lb_X11_keep_52 : bk_X11_keep.lookup 52 = some [(.aload_n 0, 1), (.getfield 41, 3), (.iload_n 1, 1), (.dup2, 1), (.iaload, 1), (.iconst 1, 1), (.iadd, 1), (.iastore, 1)] := rfl
theorem lb_X11_keep_62 : bk_X11_keep.lookup 62 = some [(.return_, 1)] := rfl
def f_X11_keep_19 (a1 : Int32) (a2 : Int32) (a3 : Int32) (a4 : Int32) : Nat → Int32 → Int32 → PM → Option (Unit × PM)
  | 0, _, _, _ => none
  | f + 1, x5, x6, M =>
    if a3 ≤ x6 then
      if inB a1 121 = true then if inB a1 121 = true then 
      some ((), hr_si M 286 a1.toNatClampNeg ((M.1 286 a1.toNatClampNeg) + 1)) else none else none
    else
      if inB x6 4 = true then if inB ((a2 + (a3 * x5)) + x6) 121 = true then 
      f_X11_keep_19 a1 a2 a3 a4 f x5 (x6 + 1) (hr_si M 286 ((a2 + (a3 * x5)) + x6).toNatClampNeg (M.1 287 x6.toNatClampNeg)) else none else none
theorem g_X11_keep_19 (a1 : Int32) (a2 : Int32) (a3 : Int32) (a4 : Int32)  : ∀ (f : Nat) (x5 : Int32) (x6 : Int32) (M : PM) (r : Unit × PM), f_X11_keep_19 a1 a2 a3 a4 f x5 x6 M = some r → hr_G 181 19 [some (.ref 275), some (.int a1), some (.int a2), some (.int a3), none, some (.int x5), some (.int x6)] [] M (none, r.2) := by
  intro f
  induction f with
  | zero => intro x5 x6 M r h; cases h
  | succ f ih =>
    intro x5 x6 M r h
    rw [f_X11_keep_19.eq_2] at h
    refine hr_Grun mf_X11_keep lb_X11_keep_19 (P := True) (pc' := if a3 ≤ x6 then 52 else 25) (ls' := [some (.ref 275), some (.int a1), some (.int a2), some (.int a3), none, some (.int x5), some (.int x6)]) (st' := []) (M' := M) rfl rfl trivial ?_
    refine hr_Gif h (fun _ h => ?_) (fun _ h => ?_)
    · refine hr_Fg h (fun hg2_0 h => ?_)
      refine hr_Fg h (fun hg2_1 h => ?_)
      refine hr_Grun mf_X11_keep lb_X11_keep_52 (P := hr_K 275 = 10 ∧ (hr_K 286 = 12 ∧ vp_in a1 (hr_N 286)) ∧ ((hr_K 286 = 12 ∧ 286 < hr_n) ∧ vp_in a1 (hr_N 286)) ∧ True) (pc' := 62) (ls' := [some (.ref 275), some (.int a1), some (.int a2), some (.int a3), none, some (.int x5), some (.int x6)]) (st' := []) (M' := hr_si M 286 a1.toNatClampNeg ((M.1 286 a1.toNatClampNeg) + 1)) rfl rfl ⟨K_275, ⟨K_286, (inB_N N_286 hg2_0)⟩, ⟨⟨K_286, L_286⟩, (inB_N N_286 hg2_1)⟩, trivial⟩ ?_
      cases h
      exact hr_Gret mf_X11_keep lb_X11_keep_62 rfl rfl trivial
    · refine hr_Fg h (fun hg3_0 h => ?_)
      refine hr_Fg h (fun hg3_1 h => ?_)
      refine hr_Grun mf_X11_keep lb_X11_keep_25 (P := hr_K 275 = 10 ∧ hr_K 275 = 10 ∧ (hr_K 287 = 12 ∧ vp_in x6 (hr_N 287)) ∧ ((hr_K 286 = 12 ∧ 286 < hr_n) ∧ vp_in ((a2 + (a3 * x5)) + x6) (hr_N 286)) ∧ True) (pc' := 19) (ls' := [some (.ref 275), some (.int a1), some (.int a2), some (.int a3), none, some (.int x5), some (.int (x6 + 1))]) (st' := []) (M' := hr_si M 286 ((a2 + (a3 * x5)) + x6).toNatClampNeg (M.1 287 x6.toNatClampNeg)) rfl rfl ⟨K_275, K_275, ⟨K_287, (inB_N N_287 hg3_0)⟩, ⟨⟨K_286, L_286⟩, (inB_N N_286 hg3_1)⟩, trivial⟩ ?_
      exact ih x5 (x6 + 1) (hr_si M 286 ((a2 + (a3 * x5)) + x6).toNatClampNeg (M.1 287 x6.toNatClampNeg)) _ h
def f_X11_keep (a1 : Int32) (a2 : Int32) (a3 : Int32) (a4 : Int32) (M : PM) : Option (Unit × PM) :=
  if inB a1 121 = true then if (M.1 286 a1.toNatClampNeg) = a4 then
    some ((), M)
  else
    f_X11_keep_19 a1 a2 a3 a4 FU (M.1 286 a1.toNatClampNeg) 0 M
  else none
theorem g_X11_keep (a1 : Int32) (a2 : Int32) (a3 : Int32) (a4 : Int32) : ∀ (M : PM) (r : Unit × PM), f_X11_keep a1 a2 a3 a4 M = some r → hr_G 181 0 [some (.ref 275), some (.int a1), some (.int a2), some (.int a3), some (.int a4), none, none] [] M (none, r.2) := by
  intro M r h
  unfold f_X11_keep at h
  refine hr_Fg h (fun hg1_0 h => ?_)
  refine hr_Grun mf_X11_keep lb_X11_keep_0 (P := hr_K 275 = 10 ∧ (hr_K 286 = 12 ∧ vp_in a1 (hr_N 286)) ∧ True) (pc' := if (M.1 286 a1.toNatClampNeg) = a4 then 15 else 16) (ls' := [some (.ref 275), some (.int a1), some (.int a2), some (.int a3), some (.int a4), some (.int (M.1 286 a1.toNatClampNeg)), none]) (st' := []) (M' := M) rfl rfl ⟨K_275, ⟨K_286, (inB_N N_286 hg1_0)⟩, trivial⟩ ?_
  refine hr_Gif h (fun _ h => ?_) (fun _ h => ?_)
  · cases h
    exact hr_Gret mf_X11_keep lb_X11_keep_15 rfl rfl trivial
  · refine hr_Grun mf_X11_keep lb_X11_keep_16 (P := True) (pc' := 19) (ls' := [some (.ref 275), some (.int a1), some (.int a2), some (.int a3), some (.int a4), some (.int (M.1 286 a1.toNatClampNeg)), some (.int 0)]) (st' := []) (M' := M) rfl rfl trivial ?_
    refine hr_Gle (ls := [some (.ref 275), some (.int a1), some (.int a2), some (.int a3), none, some (.int (M.1 286 a1.toNatClampNeg)), some (.int 0)]) (hr_le_s (hr_le_s (hr_le_s (hr_le_s (hr_le_n (hr_le_s (hr_le_s hr_le_0))))))) ?_
    exact g_X11_keep_19 a1 a2 a3 a4 FU (M.1 286 a1.toNatClampNeg) 0 M _ h
theorem mf_X11_hueLine : hr_mf 182 11 4 (some .boolean) 1 0 bk_X11_hueLine := ⟨rfl, rfl, rfl, rfl, rfl, rfl⟩
theorem lb_X11_hueLine_0 : bk_X11_hueLine.lookup 0 = some [(.aload_n 0, 1), (.iconst 0, 1), (.iconst 0, 1), (.bipush 9, 2)] := rfl
theorem lb_X11_hueLine_5 : bk_X11_hueLine.lookup 5 = some [(.invokevirtual 171, 3)] := rfl
theorem lb_X11_hueLine_8 : bk_X11_hueLine.lookup 8 = some [(.ifCond .eq 25, 3)] := rfl
theorem lb_X11_hueLine_11 : bk_X11_hueLine.lookup 11 = some [(.aload_n 0, 1), (.iconst 1, 1), (.iconst 0, 1), (.bipush 9, 2)] := rfl
theorem lb_X11_hueLine_16 : bk_X11_hueLine.lookup 16 = some [(.invokevirtual 171, 3)] := rfl
theorem lb_X11_hueLine_19 : bk_X11_hueLine.lookup 19 = some [(.ifCond .eq 14, 3)] := rfl
theorem lb_X11_hueLine_22 : bk_X11_hueLine.lookup 22 = some [(.aload_n 0, 1), (.iconst 2, 1), (.iconst 0, 1), (.bipush 9, 2)] := rfl
theorem lb_X11_hueLine_27 : bk_X11_hueLine.lookup 27 = some [(.invokevirtual 171, 3)] := rfl
theorem lb_X11_hueLine_30 : bk_X11_hueLine.lookup 30 = some [(.ifCond .ne 5, 3)] := rfl
theorem lb_X11_hueLine_33 : bk_X11_hueLine.lookup 33 = some [(.iconst 0, 1)] := rfl
theorem lb_X11_hueLine_34 : bk_X11_hueLine.lookup 34 = some [(.ireturn, 1)] := rfl
theorem lb_X11_hueLine_35 : bk_X11_hueLine.lookup 35 = some [(.aload_n 0, 1), (.iconst 0, 1), (.iconst 2, 1), (.iconst 3, 1), (.bipush 10, 2)] := rfl
theorem lb_X11_hueLine_41 : bk_X11_hueLine.lookup 41 = some [(.invokevirtual 174, 3)] := rfl
theorem lb_X11_hueLine_44 : bk_X11_hueLine.lookup 44 = some [(.iconst 1, 1)] := rfl
theorem lb_X11_hueLine_45 : bk_X11_hueLine.lookup 45 = some [(.ireturn, 1)] := rfl
def f_X11_hueLine (M : PM) : Option (Int32 × PM) :=
  hr_bd (f_X11_take 0 0 9 M) (fun v2 M2 =>
  if v2 = 0 then
    some (0, M2)
  else
    hr_bd (f_X11_take 1 0 9 M2) (fun v6 M6 =>
    if v6 = 0 then
      some (0, M6)
    else
      hr_bd (f_X11_take 2 0 9 M6) (fun v10 M10 =>
      if v10 = 0 then
        some (0, M10)
      else
        hr_bd (f_X11_keep 0 2 3 10 M10) (fun v14 M14 =>
        some (1, M14)))))
theorem g_X11_hueLine  : ∀ (M : PM) (r : Int32 × PM), f_X11_hueLine M = some r → hr_G 182 0 [some (.ref 275)] [] M (some (.int r.1), r.2) := by
  intro M r h
  unfold f_X11_hueLine at h
  refine hr_Grun mf_X11_hueLine lb_X11_hueLine_0 (P := True) (pc' := 5) (ls' := [some (.ref 275)]) (st' := [.int 9, .int 0, .int 0, .ref 275]) (M' := M) rfl rfl trivial ?_
  refine hr_Fb h (fun v2 M2 e2 h => ?_)
  refine hr_Gcv mf_X11_hueLine mf_X11_take lb_X11_hueLine_5 (b := 275) (as := [.int 0, .int 0, .int 9]) (rest := []) (st2 := [.int v2]) (v := some (.int v2)) (M1 := M2) rfl rfl rfl rfl rfl rfl K_275 (g_X11_take 0 0 9 _ _ e2) rfl rfl ?_
  refine hr_Grun mf_X11_hueLine lb_X11_hueLine_8 (P := True) (pc' := if v2 = 0 then 33 else 11) (ls' := [some (.ref 275)]) (st' := []) (M' := M2) rfl rfl trivial ?_
  refine hr_Gif h (fun _ h => ?_) (fun _ h => ?_)
  · refine hr_Grun mf_X11_hueLine lb_X11_hueLine_33 (P := True) (pc' := 34) (ls' := [some (.ref 275)]) (st' := [.int 0]) (M' := M2) rfl rfl trivial ?_
    cases h
    exact hr_Gret mf_X11_hueLine lb_X11_hueLine_34 rfl rfl (Or.inl rfl)
  · refine hr_Grun mf_X11_hueLine lb_X11_hueLine_11 (P := True) (pc' := 16) (ls' := [some (.ref 275)]) (st' := [.int 9, .int 0, .int 1, .ref 275]) (M' := M2) rfl rfl trivial ?_
    refine hr_Fb h (fun v6 M6 e6 h => ?_)
    refine hr_Gcv mf_X11_hueLine mf_X11_take lb_X11_hueLine_16 (b := 275) (as := [.int 1, .int 0, .int 9]) (rest := []) (st2 := [.int v6]) (v := some (.int v6)) (M1 := M6) rfl rfl rfl rfl rfl rfl K_275 (g_X11_take 1 0 9 _ _ e6) rfl rfl ?_
    refine hr_Grun mf_X11_hueLine lb_X11_hueLine_19 (P := True) (pc' := if v6 = 0 then 33 else 22) (ls' := [some (.ref 275)]) (st' := []) (M' := M6) rfl rfl trivial ?_
    refine hr_Gif h (fun _ h => ?_) (fun _ h => ?_)
    · refine hr_Grun mf_X11_hueLine lb_X11_hueLine_33 (P := True) (pc' := 34) (ls' := [some (.ref 275)]) (st' := [.int 0]) (M' := M6) rfl rfl trivial ?_
      cases h
      exact hr_Gret mf_X11_hueLine lb_X11_hueLine_34 rfl rfl (Or.inl rfl)
    · refine hr_Grun mf_X11_hueLine lb_X11_hueLine_22 (P := True) (pc' := 27) (ls' := [some (.ref 275)]) (st' := [.int 9, .int 0, .int 2, .ref 275]) (M' := M6) rfl rfl trivial ?_
      refine hr_Fb h (fun v10 M10 e10 h => ?_)
      refine hr_Gcv mf_X11_hueLine mf_X11_take lb_X11_hueLine_27 (b := 275) (as := [.int 2, .int 0, .int 9]) (rest := []) (st2 := [.int v10]) (v := some (.int v10)) (M1 := M10) rfl rfl rfl rfl rfl rfl K_275 (g_X11_take 2 0 9 _ _ e10) rfl rfl ?_
      refine hr_Grun mf_X11_hueLine lb_X11_hueLine_30 (P := True) (pc' := if v10 = 0 then 33 else 35) (ls' := [some (.ref 275)]) (st' := []) (M' := M10) rfl rfl trivial ?_
      refine hr_Gif h (fun _ h => ?_) (fun _ h => ?_)
      · refine hr_Grun mf_X11_hueLine lb_X11_hueLine_33 (P := True) (pc' := 34) (ls' := [some (.ref 275)]) (st' := [.int 0]) (M' := M10) rfl rfl trivial ?_
        cases h
        exact hr_Gret mf_X11_hueLine lb_X11_hueLine_34 rfl rfl (Or.inl rfl)
      · refine hr_Grun mf_X11_hueLine lb_X11_hueLine_35 (P := True) (pc' := 41) (ls' := [some (.ref 275)]) (st' := [.int 10, .int 3, .int 2, .int 0, .ref 275]) (M' := M10) rfl rfl trivial ?_
        refine hr_Fb h (fun v14 M14 e14 h => ?_)
        refine hr_Gcv mf_X11_hueLine mf_X11_keep lb_X11_hueLine_41 (b := 275) (as := [.int 0, .int 2, .int 3, .int 10]) (rest := []) (st2 := []) (v := none) (M1 := M14) rfl rfl rfl rfl rfl rfl K_275 (g_X11_keep 0 2 3 10 _ _ e14) rfl rfl ?_
        refine hr_Grun mf_X11_hueLine lb_X11_hueLine_44 (P := True) (pc' := 45) (ls' := [some (.ref 275)]) (st' := [.int 1]) (M' := M14) rfl rfl trivial ?_
        cases h
        exact hr_Gret mf_X11_hueLine lb_X11_hueLine_45 rfl rfl (Or.inr rfl)
theorem mf_X11_likesLine : hr_mf 183 11 4 (some .boolean) 1 0 bk_X11_likesLine := ⟨rfl, rfl, rfl, rfl, rfl, rfl⟩
theorem lb_X11_likesLine_0 : bk_X11_likesLine.lookup 0 = some [(.aload_n 0, 1), (.iconst 0, 1), (.iconst 0, 1), (.iconst 1, 1)] := rfl
theorem lb_X11_likesLine_4 : bk_X11_likesLine.lookup 4 = some [(.invokevirtual 171, 3)] := rfl
theorem lb_X11_likesLine_7 : bk_X11_likesLine.lookup 7 = some [(.ifCond .eq 25, 3)] := rfl
theorem lb_X11_likesLine_10 : bk_X11_likesLine.lookup 10 = some [(.aload_n 0, 1), (.iconst 1, 1), (.iconst 0, 1), (.bipush 9, 2)] := rfl
theorem lb_X11_likesLine_15 : bk_X11_likesLine.lookup 15 = some [(.invokevirtual 171, 3)] := rfl
theorem lb_X11_likesLine_18 : bk_X11_likesLine.lookup 18 = some [(.ifCond .eq 14, 3)] := rfl
theorem lb_X11_likesLine_21 : bk_X11_likesLine.lookup 21 = some [(.aload_n 0, 1), (.iconst 2, 1), (.iconst 0, 1), (.bipush 9, 2)] := rfl
theorem lb_X11_likesLine_26 : bk_X11_likesLine.lookup 26 = some [(.invokevirtual 171, 3)] := rfl
theorem lb_X11_likesLine_29 : bk_X11_likesLine.lookup 29 = some [(.ifCond .ne 5, 3)] := rfl
theorem lb_X11_likesLine_32 : bk_X11_likesLine.lookup 32 = some [(.iconst 0, 1)] := rfl
theorem lb_X11_likesLine_33 : bk_X11_likesLine.lookup 33 = some [(.ireturn, 1)] := rfl
theorem lb_X11_likesLine_34 : bk_X11_likesLine.lookup 34 = some [(.aload_n 0, 1), (.aload_n 0, 1), (.getfield 178, 3), (.aload_n 0, 1), (.getfield 44, 3), (.iconst 1, 1), (.iaload, 1)] := rfl
theorem lb_X11_likesLine_45 : bk_X11_likesLine.lookup 45 = some [(.invokestatic 181, 3)] := rfl
theorem lb_X11_likesLine_48 : bk_X11_likesLine.lookup 48 = some [(.putfield 178, 3), (.aload_n 0, 1), (.getfield 160, 3), (.ifCond .eq 33, 3)] := rfl
theorem lb_X11_likesLine_58 : bk_X11_likesLine.lookup 58 = some [(.aload_n 0, 1), (.getfield 41, 3), (.bipush 50, 2), (.bipush 10, 2), (.aload_n 0, 1), (.getfield 44, 3), (.iconst 0, 1), (.iaload, 1), (.imul, 1), (.iadd, 1), (.aload_n 0, 1), (.getfield 44, 3), (.iconst 1, 1), (.iaload, 1), (.iadd, 1), (.aload_n 0, 1), (.getfield 44, 3), (.iconst 2, 1), (.iaload, 1), (.iastore, 1)] := rfl
theorem lb_X11_likesLine_88 : bk_X11_likesLine.lookup 88 = some [(.iconst 1, 1)] := rfl
theorem lb_X11_likesLine_89 : bk_X11_likesLine.lookup 89 = some [(.ireturn, 1)] := rfl
def f_X11_likesLine (M : PM) : Option (Int32 × PM) :=
  hr_bd (f_X11_take 0 0 1 M) (fun v2 M2 =>
  if v2 = 0 then
    some (0, M2)
  else
    hr_bd (f_X11_take 1 0 9 M2) (fun v6 M6 =>
    if v6 = 0 then
      some (0, M6)
    else
      hr_bd (f_X11_take 2 0 9 M6) (fun v10 M10 =>
      if v10 = 0 then
        some (0, M10)
      else
        if inB 1 4 = true then 
        hr_bd (f_X11_greater (M10.1 275 22) (M10.1 287 (1 : Int32).toNatClampNeg) M10) (fun v14 M14 =>
        if ((hr_si M14 275 22 v14).1 275 23) = 0 then
          some (1, hr_si M14 275 22 v14)
        else
          if inB 0 4 = true then if inB 1 4 = true then if inB 2 4 = true then if inB ((50 + (10 * ((hr_si M14 275 22 v14).1 287 (0 : Int32).toNatClampNeg))) + ((hr_si M14 275 22 v14).1 287 (1 : Int32).toNatClampNeg)) 121 = true then 
          some (1, hr_si (hr_si M14 275 22 v14) 286 ((50 + (10 * ((hr_si M14 275 22 v14).1 287 (0 : Int32).toNatClampNeg))) + ((hr_si M14 275 22 v14).1 287 (1 : Int32).toNatClampNeg)).toNatClampNeg ((hr_si M14 275 22 v14).1 287 (2 : Int32).toNatClampNeg)) else none else none else none else none) else none)))
theorem g_X11_likesLine  : ∀ (M : PM) (r : Int32 × PM), f_X11_likesLine M = some r → hr_G 183 0 [some (.ref 275)] [] M (some (.int r.1), r.2) := by
  intro M r h
  unfold f_X11_likesLine at h
  refine hr_Grun mf_X11_likesLine lb_X11_likesLine_0 (P := True) (pc' := 4) (ls' := [some (.ref 275)]) (st' := [.int 1, .int 0, .int 0, .ref 275]) (M' := M) rfl rfl trivial ?_
  refine hr_Fb h (fun v2 M2 e2 h => ?_)
  refine hr_Gcv mf_X11_likesLine mf_X11_take lb_X11_likesLine_4 (b := 275) (as := [.int 0, .int 0, .int 1]) (rest := []) (st2 := [.int v2]) (v := some (.int v2)) (M1 := M2) rfl rfl rfl rfl rfl rfl K_275 (g_X11_take 0 0 1 _ _ e2) rfl rfl ?_
  refine hr_Grun mf_X11_likesLine lb_X11_likesLine_7 (P := True) (pc' := if v2 = 0 then 32 else 10) (ls' := [some (.ref 275)]) (st' := []) (M' := M2) rfl rfl trivial ?_
  refine hr_Gif h (fun _ h => ?_) (fun _ h => ?_)
  · refine hr_Grun mf_X11_likesLine lb_X11_likesLine_32 (P := True) (pc' := 33) (ls' := [some (.ref 275)]) (st' := [.int 0]) (M' := M2) rfl rfl trivial ?_
    cases h
    exact hr_Gret mf_X11_likesLine lb_X11_likesLine_33 rfl rfl (Or.inl rfl)
  · refine hr_Grun mf_X11_likesLine lb_X11_likesLine_10 (P := True) (pc' := 15) (ls' := [some (.ref 275)]) (st' := [.int 9, .int 0, .int 1, .ref 275]) (M' := M2) rfl rfl trivial ?_
    refine hr_Fb h (fun v6 M6 e6 h => ?_)
    refine hr_Gcv mf_X11_likesLine mf_X11_take lb_X11_likesLine_15 (b := 275) (as := [.int 1, .int 0, .int 9]) (rest := []) (st2 := [.int v6]) (v := some (.int v6)) (M1 := M6) rfl rfl rfl rfl rfl rfl K_275 (g_X11_take 1 0 9 _ _ e6) rfl rfl ?_
    refine hr_Grun mf_X11_likesLine lb_X11_likesLine_18 (P := True) (pc' := if v6 = 0 then 32 else 21) (ls' := [some (.ref 275)]) (st' := []) (M' := M6) rfl rfl trivial ?_
    refine hr_Gif h (fun _ h => ?_) (fun _ h => ?_)
    · refine hr_Grun mf_X11_likesLine lb_X11_likesLine_32 (P := True) (pc' := 33) (ls' := [some (.ref 275)]) (st' := [.int 0]) (M' := M6) rfl rfl trivial ?_
      cases h
      exact hr_Gret mf_X11_likesLine lb_X11_likesLine_33 rfl rfl (Or.inl rfl)
    · refine hr_Grun mf_X11_likesLine lb_X11_likesLine_21 (P := True) (pc' := 26) (ls' := [some (.ref 275)]) (st' := [.int 9, .int 0, .int 2, .ref 275]) (M' := M6) rfl rfl trivial ?_
      refine hr_Fb h (fun v10 M10 e10 h => ?_)
      refine hr_Gcv mf_X11_likesLine mf_X11_take lb_X11_likesLine_26 (b := 275) (as := [.int 2, .int 0, .int 9]) (rest := []) (st2 := [.int v10]) (v := some (.int v10)) (M1 := M10) rfl rfl rfl rfl rfl rfl K_275 (g_X11_take 2 0 9 _ _ e10) rfl rfl ?_
      refine hr_Grun mf_X11_likesLine lb_X11_likesLine_29 (P := True) (pc' := if v10 = 0 then 32 else 34) (ls' := [some (.ref 275)]) (st' := []) (M' := M10) rfl rfl trivial ?_
      refine hr_Gif h (fun _ h => ?_) (fun _ h => ?_)
      · refine hr_Grun mf_X11_likesLine lb_X11_likesLine_32 (P := True) (pc' := 33) (ls' := [some (.ref 275)]) (st' := [.int 0]) (M' := M10) rfl rfl trivial ?_
        cases h
        exact hr_Gret mf_X11_likesLine lb_X11_likesLine_33 rfl rfl (Or.inl rfl)
      · refine hr_Fg h (fun hg13_0 h => ?_)
        refine hr_Grun mf_X11_likesLine lb_X11_likesLine_34 (P := hr_K 275 = 10 ∧ hr_K 275 = 10 ∧ (hr_K 287 = 12 ∧ vp_in 1 (hr_N 287)) ∧ True) (pc' := 45) (ls' := [some (.ref 275)]) (st' := [.int (M10.1 287 (1 : Int32).toNatClampNeg), .int (M10.1 275 22), .ref 275]) (M' := M10) rfl rfl ⟨K_275, K_275, ⟨K_287, (inB_N N_287 hg13_0)⟩, trivial⟩ ?_
        refine hr_Fb h (fun v14 M14 e14 h => ?_)
        refine hr_Gcs mf_X11_likesLine mf_X11_greater lb_X11_likesLine_45 (as := [.int (M10.1 275 22), .int (M10.1 287 (1 : Int32).toNatClampNeg)]) (rest := [.ref 275]) (st2 := [.int v14, .ref 275]) (v := some (.int v14)) (M1 := M14) rfl rfl rfl rfl rfl rfl (g_X11_greater (M10.1 275 22) (M10.1 287 (1 : Int32).toNatClampNeg) _ _ e14) rfl rfl ?_
        refine hr_Grun mf_X11_likesLine lb_X11_likesLine_48 (P := (hr_K 275 = 10 ∧ 275 < hr_n) ∧ hr_K 275 = 10 ∧ True) (pc' := if ((hr_si M14 275 22 v14).1 275 23) = 0 then 88 else 58) (ls' := [some (.ref 275)]) (st' := []) (M' := hr_si M14 275 22 v14) rfl rfl ⟨⟨K_275, L_275⟩, K_275, trivial⟩ ?_
        refine hr_Gif h (fun _ h => ?_) (fun _ h => ?_)
        · refine hr_Grun mf_X11_likesLine lb_X11_likesLine_88 (P := True) (pc' := 89) (ls' := [some (.ref 275)]) (st' := [.int 1]) (M' := hr_si M14 275 22 v14) rfl rfl trivial ?_
          cases h
          exact hr_Gret mf_X11_likesLine lb_X11_likesLine_89 rfl rfl (Or.inr rfl)
        · refine hr_Fg h (fun hg17_0 h => ?_)
          refine hr_Fg h (fun hg17_1 h => ?_)
          refine hr_Fg h (fun hg17_2 h => ?_)
          refine hr_Fg h (fun hg17_3 h => ?_)
          refine hr_Grun mf_X11_likesLine lb_X11_likesLine_58 (P := hr_K 275 = 10 ∧ hr_K 275 = 10 ∧ (hr_K 287 = 12 ∧ vp_in 0 (hr_N 287)) ∧ hr_K 275 = 10 ∧ (hr_K 287 = 12 ∧ vp_in 1 (hr_N 287)) ∧ hr_K 275 = 10 ∧ (hr_K 287 = 12 ∧ vp_in 2 (hr_N 287)) ∧ ((hr_K 286 = 12 ∧ 286 < hr_n) ∧ vp_in ((50 + (10 * ((hr_si M14 275 22 v14).1 287 (0 : Int32).toNatClampNeg))) + ((hr_si M14 275 22 v14).1 287 (1 : Int32).toNatClampNeg)) (hr_N 286)) ∧ True) (pc' := 88) (ls' := [some (.ref 275)]) (st' := []) (M' := hr_si (hr_si M14 275 22 v14) 286 ((50 + (10 * ((hr_si M14 275 22 v14).1 287 (0 : Int32).toNatClampNeg))) + ((hr_si M14 275 22 v14).1 287 (1 : Int32).toNatClampNeg)).toNatClampNeg ((hr_si M14 275 22 v14).1 287 (2 : Int32).toNatClampNeg)) rfl rfl ⟨K_275, K_275, ⟨K_287, (inB_N N_287 hg17_0)⟩, K_275, ⟨K_287, (inB_N N_287 hg17_1)⟩, K_275, ⟨K_287, (inB_N N_287 hg17_2)⟩, ⟨⟨K_286, L_286⟩, (inB_N N_286 hg17_3)⟩, trivial⟩ ?_
          refine hr_Grun mf_X11_likesLine lb_X11_likesLine_88 (P := True) (pc' := 89) (ls' := [some (.ref 275)]) (st' := [.int 1]) (M' := hr_si (hr_si M14 275 22 v14) 286 ((50 + (10 * ((hr_si M14 275 22 v14).1 287 (0 : Int32).toNatClampNeg))) + ((hr_si M14 275 22 v14).1 287 (1 : Int32).toNatClampNeg)).toNatClampNeg ((hr_si M14 275 22 v14).1 287 (2 : Int32).toNatClampNeg)) rfl rfl trivial ?_
          cases h
          exact hr_Gret mf_X11_likesLine lb_X11_likesLine_89 rfl rfl (Or.inr rfl)
theorem mf_X11_ruleNumbers : hr_mf 184 11 4 (some .boolean) 2 1 bk_X11_ruleNumbers := ⟨rfl, rfl, rfl, rfl, rfl, rfl⟩
theorem lb_X11_ruleNumbers_0 : bk_X11_ruleNumbers.lookup 0 = some [(.iload_n 1, 1), (.tableswitch 133 0 3 #[31, 64, 91, 99], 31)] := rfl
theorem lb_X11_ruleNumbers_32 : bk_X11_ruleNumbers.lookup 32 = some [(.aload_n 0, 1), (.iconst 1, 1), (.iconst 0, 1), (.bipush 54, 2)] := rfl
theorem lb_X11_ruleNumbers_37 : bk_X11_ruleNumbers.lookup 37 = some [(.invokevirtual 171, 3)] := rfl
theorem lb_X11_ruleNumbers_40 : bk_X11_ruleNumbers.lookup 40 = some [(.ifCond .eq 23, 3)] := rfl
theorem lb_X11_ruleNumbers_43 : bk_X11_ruleNumbers.lookup 43 = some [(.aload_n 0, 1), (.iconst 2, 1), (.aload_n 0, 1), (.getfield 44, 3), (.iconst 1, 1), (.iaload, 1), (.bipush 54, 2)] := rfl
theorem lb_X11_ruleNumbers_53 : bk_X11_ruleNumbers.lookup 53 = some [(.invokevirtual 171, 3)] := rfl
theorem lb_X11_ruleNumbers_56 : bk_X11_ruleNumbers.lookup 56 = some [(.ifCond .eq 7, 3)] := rfl
theorem lb_X11_ruleNumbers_59 : bk_X11_ruleNumbers.lookup 59 = some [(.iconst 1, 1), (.goto 4, 3)] := rfl
theorem lb_X11_ruleNumbers_63 : bk_X11_ruleNumbers.lookup 63 = some [(.iconst 0, 1)] := rfl
theorem lb_X11_ruleNumbers_64 : bk_X11_ruleNumbers.lookup 64 = some [(.ireturn, 1)] := rfl
theorem lb_X11_ruleNumbers_65 : bk_X11_ruleNumbers.lookup 65 = some [(.aload_n 0, 1), (.iconst 1, 1), (.iconst 0, 1), (.iconst 2, 1)] := rfl
theorem lb_X11_ruleNumbers_69 : bk_X11_ruleNumbers.lookup 69 = some [(.invokevirtual 171, 3)] := rfl
theorem lb_X11_ruleNumbers_72 : bk_X11_ruleNumbers.lookup 72 = some [(.ifCond .eq 18, 3)] := rfl
theorem lb_X11_ruleNumbers_75 : bk_X11_ruleNumbers.lookup 75 = some [(.aload_n 0, 1), (.iconst 2, 1), (.iconst 1, 1), (.bipush 9, 2)] := rfl
theorem lb_X11_ruleNumbers_80 : bk_X11_ruleNumbers.lookup 80 = some [(.invokevirtual 171, 3)] := rfl
theorem lb_X11_ruleNumbers_83 : bk_X11_ruleNumbers.lookup 83 = some [(.ifCond .eq 7, 3)] := rfl
theorem lb_X11_ruleNumbers_86 : bk_X11_ruleNumbers.lookup 86 = some [(.iconst 1, 1), (.goto 4, 3)] := rfl
theorem lb_X11_ruleNumbers_90 : bk_X11_ruleNumbers.lookup 90 = some [(.iconst 0, 1)] := rfl
theorem lb_X11_ruleNumbers_91 : bk_X11_ruleNumbers.lookup 91 = some [(.ireturn, 1)] := rfl
theorem lb_X11_ruleNumbers_92 : bk_X11_ruleNumbers.lookup 92 = some [(.aload_n 0, 1), (.iconst 1, 1), (.iconst 0, 1), (.iconst 2, 1)] := rfl
theorem lb_X11_ruleNumbers_96 : bk_X11_ruleNumbers.lookup 96 = some [(.invokevirtual 171, 3)] := rfl
theorem lb_X11_ruleNumbers_99 : bk_X11_ruleNumbers.lookup 99 = some [(.ireturn, 1)] := rfl
theorem lb_X11_ruleNumbers_100 : bk_X11_ruleNumbers.lookup 100 = some [(.aload_n 0, 1), (.iconst 1, 1), (.iconst 0, 1), (.bipush 9, 2)] := rfl
theorem lb_X11_ruleNumbers_105 : bk_X11_ruleNumbers.lookup 105 = some [(.invokevirtual 171, 3)] := rfl
theorem lb_X11_ruleNumbers_108 : bk_X11_ruleNumbers.lookup 108 = some [(.ifCond .eq 24, 3)] := rfl
theorem lb_X11_ruleNumbers_111 : bk_X11_ruleNumbers.lookup 111 = some [(.aload_n 0, 1), (.iconst 2, 1), (.iconst 0, 1), (.bipush 9, 2), (.aload_n 0, 1), (.getfield 44, 3), (.iconst 1, 1), (.iaload, 1)] := rfl
theorem lb_X11_ruleNumbers_122 : bk_X11_ruleNumbers.lookup 122 = some [(.invokevirtual 167, 3)] := rfl
theorem lb_X11_ruleNumbers_125 : bk_X11_ruleNumbers.lookup 125 = some [(.ifCond .eq 7, 3)] := rfl
theorem lb_X11_ruleNumbers_128 : bk_X11_ruleNumbers.lookup 128 = some [(.iconst 1, 1), (.goto 4, 3)] := rfl
theorem lb_X11_ruleNumbers_132 : bk_X11_ruleNumbers.lookup 132 = some [(.iconst 0, 1)] := rfl
theorem lb_X11_ruleNumbers_133 : bk_X11_ruleNumbers.lookup 133 = some [(.ireturn, 1)] := rfl
theorem lb_X11_ruleNumbers_134 : bk_X11_ruleNumbers.lookup 134 = some [(.aload_n 0, 1), (.iconst 1, 1), (.iconst 0, 1), (.iconst 2, 1)] := rfl
theorem lb_X11_ruleNumbers_138 : bk_X11_ruleNumbers.lookup 138 = some [(.invokevirtual 171, 3)] := rfl
theorem lb_X11_ruleNumbers_141 : bk_X11_ruleNumbers.lookup 141 = some [(.ifCond .eq 18, 3)] := rfl
theorem lb_X11_ruleNumbers_144 : bk_X11_ruleNumbers.lookup 144 = some [(.aload_n 0, 1), (.iconst 2, 1), (.iconst 1, 1), (.bipush 18, 2)] := rfl
theorem lb_X11_ruleNumbers_149 : bk_X11_ruleNumbers.lookup 149 = some [(.invokevirtual 171, 3)] := rfl
theorem lb_X11_ruleNumbers_152 : bk_X11_ruleNumbers.lookup 152 = some [(.ifCond .eq 7, 3)] := rfl
theorem lb_X11_ruleNumbers_155 : bk_X11_ruleNumbers.lookup 155 = some [(.iconst 1, 1), (.goto 4, 3)] := rfl
theorem lb_X11_ruleNumbers_159 : bk_X11_ruleNumbers.lookup 159 = some [(.iconst 0, 1)] := rfl
theorem lb_X11_ruleNumbers_160 : bk_X11_ruleNumbers.lookup 160 = some [(.ireturn, 1)] := rfl
def f_X11_ruleNumbers (a1 : Int32) (M : PM) : Option (Int32 × PM) :=
  if a1 = 0 then
    hr_bd (f_X11_take 1 0 54 M) (fun v3 M3 =>
    if v3 = 0 then
      some (0, M3)
    else
      if inB 1 4 = true then 
      hr_bd (f_X11_take 2 (M3.1 287 (1 : Int32).toNatClampNeg) 54 M3) (fun v7 M7 =>
      if v7 = 0 then
        some (0, M7)
      else
        some (1, M7)) else none)
  else if a1 = 1 then
    hr_bd (f_X11_take 1 0 2 M) (fun v12 M12 =>
    if v12 = 0 then
      some (0, M12)
    else
      hr_bd (f_X11_take 2 1 9 M12) (fun v16 M16 =>
      if v16 = 0 then
        some (0, M16)
      else
        some (1, M16)))
  else if a1 = 2 then
    hr_bd (f_X11_take 1 0 2 M) (fun v21 M21 =>
    if v21 = 0 ∨ v21 = 1 then some (v21, M21) else none)
  else if a1 = 3 then
    hr_bd (f_X11_take 1 0 9 M) (fun v23 M23 =>
    if v23 = 0 then
      some (0, M23)
    else
      if inB 1 4 = true then 
      hr_bd (f_X11_takeBut 2 0 9 (M23.1 287 (1 : Int32).toNatClampNeg) M23) (fun v27 M27 =>
      if v27 = 0 then
        some (0, M27)
      else
        some (1, M27)) else none)
  else 
    hr_bd (f_X11_take 1 0 2 M) (fun v32 M32 =>
    if v32 = 0 then
      some (0, M32)
    else
      hr_bd (f_X11_take 2 1 18 M32) (fun v36 M36 =>
      if v36 = 0 then
        some (0, M36)
      else
        some (1, M36)))
theorem g_X11_ruleNumbers (a1 : Int32) : ∀ (M : PM) (r : Int32 × PM), f_X11_ruleNumbers a1 M = some r → hr_G 184 0 [some (.ref 275), some (.int a1)] [] M (some (.int r.1), r.2) := by
  intro M r h
  unfold f_X11_ruleNumbers at h
  refine hr_Grun mf_X11_ruleNumbers lb_X11_ruleNumbers_0 (P := True) (pc' := if a1 = 0 then 32 else if a1 = 1 then 65 else if a1 = 2 then 92 else if a1 = 3 then 100 else 134) (ls' := [some (.ref 275), some (.int a1)]) (st' := []) (M' := M) rfl rfl trivial ?_
  refine hr_Gif h (fun _ h => ?_) (fun _ h => ?_)
  · refine hr_Grun mf_X11_ruleNumbers lb_X11_ruleNumbers_32 (P := True) (pc' := 37) (ls' := [some (.ref 275), some (.int a1)]) (st' := [.int 54, .int 0, .int 1, .ref 275]) (M' := M) rfl rfl trivial ?_
    refine hr_Fb h (fun v3 M3 e3 h => ?_)
    refine hr_Gcv mf_X11_ruleNumbers mf_X11_take lb_X11_ruleNumbers_37 (b := 275) (as := [.int 1, .int 0, .int 54]) (rest := []) (st2 := [.int v3]) (v := some (.int v3)) (M1 := M3) rfl rfl rfl rfl rfl rfl K_275 (g_X11_take 1 0 54 _ _ e3) rfl rfl ?_
    refine hr_Grun mf_X11_ruleNumbers lb_X11_ruleNumbers_40 (P := True) (pc' := if v3 = 0 then 63 else 43) (ls' := [some (.ref 275), some (.int a1)]) (st' := []) (M' := M3) rfl rfl trivial ?_
    refine hr_Gif h (fun _ h => ?_) (fun _ h => ?_)
    · refine hr_Grun mf_X11_ruleNumbers lb_X11_ruleNumbers_63 (P := True) (pc' := 64) (ls' := [some (.ref 275), some (.int a1)]) (st' := [.int 0]) (M' := M3) rfl rfl trivial ?_
      cases h
      exact hr_Gret mf_X11_ruleNumbers lb_X11_ruleNumbers_64 rfl rfl (Or.inl rfl)
    · refine hr_Fg h (fun hg6_0 h => ?_)
      refine hr_Grun mf_X11_ruleNumbers lb_X11_ruleNumbers_43 (P := hr_K 275 = 10 ∧ (hr_K 287 = 12 ∧ vp_in 1 (hr_N 287)) ∧ True) (pc' := 53) (ls' := [some (.ref 275), some (.int a1)]) (st' := [.int 54, .int (M3.1 287 (1 : Int32).toNatClampNeg), .int 2, .ref 275]) (M' := M3) rfl rfl ⟨K_275, ⟨K_287, (inB_N N_287 hg6_0)⟩, trivial⟩ ?_
      refine hr_Fb h (fun v7 M7 e7 h => ?_)
      refine hr_Gcv mf_X11_ruleNumbers mf_X11_take lb_X11_ruleNumbers_53 (b := 275) (as := [.int 2, .int (M3.1 287 (1 : Int32).toNatClampNeg), .int 54]) (rest := []) (st2 := [.int v7]) (v := some (.int v7)) (M1 := M7) rfl rfl rfl rfl rfl rfl K_275 (g_X11_take 2 (M3.1 287 (1 : Int32).toNatClampNeg) 54 _ _ e7) rfl rfl ?_
      refine hr_Grun mf_X11_ruleNumbers lb_X11_ruleNumbers_56 (P := True) (pc' := if v7 = 0 then 63 else 59) (ls' := [some (.ref 275), some (.int a1)]) (st' := []) (M' := M7) rfl rfl trivial ?_
      refine hr_Gif h (fun _ h => ?_) (fun _ h => ?_)
      · refine hr_Grun mf_X11_ruleNumbers lb_X11_ruleNumbers_63 (P := True) (pc' := 64) (ls' := [some (.ref 275), some (.int a1)]) (st' := [.int 0]) (M' := M7) rfl rfl trivial ?_
        cases h
        exact hr_Gret mf_X11_ruleNumbers lb_X11_ruleNumbers_64 rfl rfl (Or.inl rfl)
      · refine hr_Grun mf_X11_ruleNumbers lb_X11_ruleNumbers_59 (P := True) (pc' := 64) (ls' := [some (.ref 275), some (.int a1)]) (st' := [.int 1]) (M' := M7) rfl rfl trivial ?_
        cases h
        exact hr_Gret mf_X11_ruleNumbers lb_X11_ruleNumbers_64 rfl rfl (Or.inr rfl)
  refine hr_Gif h (fun _ h => ?_) (fun _ h => ?_)
  · refine hr_Grun mf_X11_ruleNumbers lb_X11_ruleNumbers_65 (P := True) (pc' := 69) (ls' := [some (.ref 275), some (.int a1)]) (st' := [.int 2, .int 0, .int 1, .ref 275]) (M' := M) rfl rfl trivial ?_
    refine hr_Fb h (fun v12 M12 e12 h => ?_)
    refine hr_Gcv mf_X11_ruleNumbers mf_X11_take lb_X11_ruleNumbers_69 (b := 275) (as := [.int 1, .int 0, .int 2]) (rest := []) (st2 := [.int v12]) (v := some (.int v12)) (M1 := M12) rfl rfl rfl rfl rfl rfl K_275 (g_X11_take 1 0 2 _ _ e12) rfl rfl ?_
    refine hr_Grun mf_X11_ruleNumbers lb_X11_ruleNumbers_72 (P := True) (pc' := if v12 = 0 then 90 else 75) (ls' := [some (.ref 275), some (.int a1)]) (st' := []) (M' := M12) rfl rfl trivial ?_
    refine hr_Gif h (fun _ h => ?_) (fun _ h => ?_)
    · refine hr_Grun mf_X11_ruleNumbers lb_X11_ruleNumbers_90 (P := True) (pc' := 91) (ls' := [some (.ref 275), some (.int a1)]) (st' := [.int 0]) (M' := M12) rfl rfl trivial ?_
      cases h
      exact hr_Gret mf_X11_ruleNumbers lb_X11_ruleNumbers_91 rfl rfl (Or.inl rfl)
    · refine hr_Grun mf_X11_ruleNumbers lb_X11_ruleNumbers_75 (P := True) (pc' := 80) (ls' := [some (.ref 275), some (.int a1)]) (st' := [.int 9, .int 1, .int 2, .ref 275]) (M' := M12) rfl rfl trivial ?_
      refine hr_Fb h (fun v16 M16 e16 h => ?_)
      refine hr_Gcv mf_X11_ruleNumbers mf_X11_take lb_X11_ruleNumbers_80 (b := 275) (as := [.int 2, .int 1, .int 9]) (rest := []) (st2 := [.int v16]) (v := some (.int v16)) (M1 := M16) rfl rfl rfl rfl rfl rfl K_275 (g_X11_take 2 1 9 _ _ e16) rfl rfl ?_
      refine hr_Grun mf_X11_ruleNumbers lb_X11_ruleNumbers_83 (P := True) (pc' := if v16 = 0 then 90 else 86) (ls' := [some (.ref 275), some (.int a1)]) (st' := []) (M' := M16) rfl rfl trivial ?_
      refine hr_Gif h (fun _ h => ?_) (fun _ h => ?_)
      · refine hr_Grun mf_X11_ruleNumbers lb_X11_ruleNumbers_90 (P := True) (pc' := 91) (ls' := [some (.ref 275), some (.int a1)]) (st' := [.int 0]) (M' := M16) rfl rfl trivial ?_
        cases h
        exact hr_Gret mf_X11_ruleNumbers lb_X11_ruleNumbers_91 rfl rfl (Or.inl rfl)
      · refine hr_Grun mf_X11_ruleNumbers lb_X11_ruleNumbers_86 (P := True) (pc' := 91) (ls' := [some (.ref 275), some (.int a1)]) (st' := [.int 1]) (M' := M16) rfl rfl trivial ?_
        cases h
        exact hr_Gret mf_X11_ruleNumbers lb_X11_ruleNumbers_91 rfl rfl (Or.inr rfl)
  refine hr_Gif h (fun _ h => ?_) (fun _ h => ?_)
  · refine hr_Grun mf_X11_ruleNumbers lb_X11_ruleNumbers_92 (P := True) (pc' := 96) (ls' := [some (.ref 275), some (.int a1)]) (st' := [.int 2, .int 0, .int 1, .ref 275]) (M' := M) rfl rfl trivial ?_
    refine hr_Fb h (fun v21 M21 e21 h => ?_)
    refine hr_Gcv mf_X11_ruleNumbers mf_X11_take lb_X11_ruleNumbers_96 (b := 275) (as := [.int 1, .int 0, .int 2]) (rest := []) (st2 := [.int v21]) (v := some (.int v21)) (M1 := M21) rfl rfl rfl rfl rfl rfl K_275 (g_X11_take 1 0 2 _ _ e21) rfl rfl ?_
    refine hr_Fg h (fun hz h => ?_)
    cases h
    exact hr_Gret mf_X11_ruleNumbers lb_X11_ruleNumbers_99 rfl rfl hz
  refine hr_Gif h (fun _ h => ?_) (fun _ h => ?_)
  · refine hr_Grun mf_X11_ruleNumbers lb_X11_ruleNumbers_100 (P := True) (pc' := 105) (ls' := [some (.ref 275), some (.int a1)]) (st' := [.int 9, .int 0, .int 1, .ref 275]) (M' := M) rfl rfl trivial ?_
    refine hr_Fb h (fun v23 M23 e23 h => ?_)
    refine hr_Gcv mf_X11_ruleNumbers mf_X11_take lb_X11_ruleNumbers_105 (b := 275) (as := [.int 1, .int 0, .int 9]) (rest := []) (st2 := [.int v23]) (v := some (.int v23)) (M1 := M23) rfl rfl rfl rfl rfl rfl K_275 (g_X11_take 1 0 9 _ _ e23) rfl rfl ?_
    refine hr_Grun mf_X11_ruleNumbers lb_X11_ruleNumbers_108 (P := True) (pc' := if v23 = 0 then 132 else 111) (ls' := [some (.ref 275), some (.int a1)]) (st' := []) (M' := M23) rfl rfl trivial ?_
    refine hr_Gif h (fun _ h => ?_) (fun _ h => ?_)
    · refine hr_Grun mf_X11_ruleNumbers lb_X11_ruleNumbers_132 (P := True) (pc' := 133) (ls' := [some (.ref 275), some (.int a1)]) (st' := [.int 0]) (M' := M23) rfl rfl trivial ?_
      cases h
      exact hr_Gret mf_X11_ruleNumbers lb_X11_ruleNumbers_133 rfl rfl (Or.inl rfl)
    · refine hr_Fg h (fun hg26_0 h => ?_)
      refine hr_Grun mf_X11_ruleNumbers lb_X11_ruleNumbers_111 (P := hr_K 275 = 10 ∧ (hr_K 287 = 12 ∧ vp_in 1 (hr_N 287)) ∧ True) (pc' := 122) (ls' := [some (.ref 275), some (.int a1)]) (st' := [.int (M23.1 287 (1 : Int32).toNatClampNeg), .int 9, .int 0, .int 2, .ref 275]) (M' := M23) rfl rfl ⟨K_275, ⟨K_287, (inB_N N_287 hg26_0)⟩, trivial⟩ ?_
      refine hr_Fb h (fun v27 M27 e27 h => ?_)
      refine hr_Gcv mf_X11_ruleNumbers mf_X11_takeBut lb_X11_ruleNumbers_122 (b := 275) (as := [.int 2, .int 0, .int 9, .int (M23.1 287 (1 : Int32).toNatClampNeg)]) (rest := []) (st2 := [.int v27]) (v := some (.int v27)) (M1 := M27) rfl rfl rfl rfl rfl rfl K_275 (g_X11_takeBut 2 0 9 (M23.1 287 (1 : Int32).toNatClampNeg) _ _ e27) rfl rfl ?_
      refine hr_Grun mf_X11_ruleNumbers lb_X11_ruleNumbers_125 (P := True) (pc' := if v27 = 0 then 132 else 128) (ls' := [some (.ref 275), some (.int a1)]) (st' := []) (M' := M27) rfl rfl trivial ?_
      refine hr_Gif h (fun _ h => ?_) (fun _ h => ?_)
      · refine hr_Grun mf_X11_ruleNumbers lb_X11_ruleNumbers_132 (P := True) (pc' := 133) (ls' := [some (.ref 275), some (.int a1)]) (st' := [.int 0]) (M' := M27) rfl rfl trivial ?_
        cases h
        exact hr_Gret mf_X11_ruleNumbers lb_X11_ruleNumbers_133 rfl rfl (Or.inl rfl)
      · refine hr_Grun mf_X11_ruleNumbers lb_X11_ruleNumbers_128 (P := True) (pc' := 133) (ls' := [some (.ref 275), some (.int a1)]) (st' := [.int 1]) (M' := M27) rfl rfl trivial ?_
        cases h
        exact hr_Gret mf_X11_ruleNumbers lb_X11_ruleNumbers_133 rfl rfl (Or.inr rfl)
  · refine hr_Grun mf_X11_ruleNumbers lb_X11_ruleNumbers_134 (P := True) (pc' := 138) (ls' := [some (.ref 275), some (.int a1)]) (st' := [.int 2, .int 0, .int 1, .ref 275]) (M' := M) rfl rfl trivial ?_
    refine hr_Fb h (fun v32 M32 e32 h => ?_)
    refine hr_Gcv mf_X11_ruleNumbers mf_X11_take lb_X11_ruleNumbers_138 (b := 275) (as := [.int 1, .int 0, .int 2]) (rest := []) (st2 := [.int v32]) (v := some (.int v32)) (M1 := M32) rfl rfl rfl rfl rfl rfl K_275 (g_X11_take 1 0 2 _ _ e32) rfl rfl ?_
    refine hr_Grun mf_X11_ruleNumbers lb_X11_ruleNumbers_141 (P := True) (pc' := if v32 = 0 then 159 else 144) (ls' := [some (.ref 275), some (.int a1)]) (st' := []) (M' := M32) rfl rfl trivial ?_
    refine hr_Gif h (fun _ h => ?_) (fun _ h => ?_)
    · refine hr_Grun mf_X11_ruleNumbers lb_X11_ruleNumbers_159 (P := True) (pc' := 160) (ls' := [some (.ref 275), some (.int a1)]) (st' := [.int 0]) (M' := M32) rfl rfl trivial ?_
      cases h
      exact hr_Gret mf_X11_ruleNumbers lb_X11_ruleNumbers_160 rfl rfl (Or.inl rfl)
    · refine hr_Grun mf_X11_ruleNumbers lb_X11_ruleNumbers_144 (P := True) (pc' := 149) (ls' := [some (.ref 275), some (.int a1)]) (st' := [.int 18, .int 1, .int 2, .ref 275]) (M' := M32) rfl rfl trivial ?_
      refine hr_Fb h (fun v36 M36 e36 h => ?_)
      refine hr_Gcv mf_X11_ruleNumbers mf_X11_take lb_X11_ruleNumbers_149 (b := 275) (as := [.int 2, .int 1, .int 18]) (rest := []) (st2 := [.int v36]) (v := some (.int v36)) (M1 := M36) rfl rfl rfl rfl rfl rfl K_275 (g_X11_take 2 1 18 _ _ e36) rfl rfl ?_
      refine hr_Grun mf_X11_ruleNumbers lb_X11_ruleNumbers_152 (P := True) (pc' := if v36 = 0 then 159 else 155) (ls' := [some (.ref 275), some (.int a1)]) (st' := []) (M' := M36) rfl rfl trivial ?_
      refine hr_Gif h (fun _ h => ?_) (fun _ h => ?_)
      · refine hr_Grun mf_X11_ruleNumbers lb_X11_ruleNumbers_159 (P := True) (pc' := 160) (ls' := [some (.ref 275), some (.int a1)]) (st' := [.int 0]) (M' := M36) rfl rfl trivial ?_
        cases h
        exact hr_Gret mf_X11_ruleNumbers lb_X11_ruleNumbers_160 rfl rfl (Or.inl rfl)
      · refine hr_Grun mf_X11_ruleNumbers lb_X11_ruleNumbers_155 (P := True) (pc' := 160) (ls' := [some (.ref 275), some (.int a1)]) (st' := [.int 1]) (M' := M36) rfl rfl trivial ?_
        cases h
        exact hr_Gret mf_X11_ruleNumbers lb_X11_ruleNumbers_160 rfl rfl (Or.inr rfl)
theorem mf_X11_paletteLine : hr_mf 185 11 5 (some .boolean) 5 2 bk_X11_paletteLine := ⟨rfl, rfl, rfl, rfl, rfl, rfl⟩
theorem lb_X11_paletteLine_0 : bk_X11_paletteLine.lookup 0 = some [(.lload_n 1, 1), (.ldc2_w 185, 3), (.lcmp, 1), (.ifCond .ne 7, 3)] := rfl
theorem lb_X11_paletteLine_8 : bk_X11_paletteLine.lookup 8 = some [(.iconst 0, 1), (.goto 52, 3)] := rfl
theorem lb_X11_paletteLine_12 : bk_X11_paletteLine.lookup 12 = some [(.lload_n 1, 1), (.ldc2_w 187, 3), (.lcmp, 1), (.ifCond .ne 7, 3)] := rfl
theorem lb_X11_paletteLine_20 : bk_X11_paletteLine.lookup 20 = some [(.iconst 1, 1), (.goto 40, 3)] := rfl
theorem lb_X11_paletteLine_24 : bk_X11_paletteLine.lookup 24 = some [(.lload_n 1, 1), (.ldc2_w 189, 3), (.lcmp, 1), (.ifCond .ne 7, 3)] := rfl
theorem lb_X11_paletteLine_32 : bk_X11_paletteLine.lookup 32 = some [(.iconst 2, 1), (.goto 28, 3)] := rfl
theorem lb_X11_paletteLine_36 : bk_X11_paletteLine.lookup 36 = some [(.lload_n 1, 1), (.ldc2_w 191, 3), (.lcmp, 1), (.ifCond .ne 7, 3)] := rfl
theorem lb_X11_paletteLine_44 : bk_X11_paletteLine.lookup 44 = some [(.iconst 3, 1), (.goto 16, 3)] := rfl
theorem lb_X11_paletteLine_48 : bk_X11_paletteLine.lookup 48 = some [(.lload_n 1, 1), (.ldc2_w 193, 3), (.lcmp, 1), (.ifCond .ne 7, 3)] := rfl
theorem lb_X11_paletteLine_56 : bk_X11_paletteLine.lookup 56 = some [(.iconst 4, 1), (.goto 4, 3)] := rfl
theorem lb_X11_paletteLine_60 : bk_X11_paletteLine.lookup 60 = some [(.iconst (-1), 1)] := rfl
theorem lb_X11_paletteLine_61 : bk_X11_paletteLine.lookup 61 = some [(.istore 4, 2), (.iload 4, 2), (.iconst (-1), 1), (.if_icmp .ne 24, 3)] := rfl
theorem lb_X11_paletteLine_69 : bk_X11_paletteLine.lookup 69 = some [(.lload_n 1, 1), (.ldc2_w 195, 3), (.lcmp, 1), (.ifCond .eq 16, 3)] := rfl
theorem lb_X11_paletteLine_77 : bk_X11_paletteLine.lookup 77 = some [(.lload_n 1, 1), (.ldc2_w 197, 3), (.lcmp, 1), (.ifCond .eq 8, 3)] := rfl
theorem lb_X11_paletteLine_85 : bk_X11_paletteLine.lookup 85 = some [(.aload_n 0, 1)] := rfl
theorem lb_X11_paletteLine_86 : bk_X11_paletteLine.lookup 86 = some [(.invokevirtual 152, 3)] := rfl
theorem lb_X11_paletteLine_89 : bk_X11_paletteLine.lookup 89 = some [(.ireturn, 1)] := rfl
theorem lb_X11_paletteLine_90 : bk_X11_paletteLine.lookup 90 = some [(.lload_n 1, 1), (.ldc2_w 195, 3), (.lcmp, 1), (.ifCond .ne 14, 3)] := rfl
theorem lb_X11_paletteLine_98 : bk_X11_paletteLine.lookup 98 = some [(.aload_n 0, 1), (.iconst 0, 1), (.bipush 10, 2), (.iload_n 3, 1)] := rfl
theorem lb_X11_paletteLine_103 : bk_X11_paletteLine.lookup 103 = some [(.invokevirtual 199, 3)] := rfl
theorem lb_X11_paletteLine_106 : bk_X11_paletteLine.lookup 106 = some [(.goto 19, 3)] := rfl
theorem lb_X11_paletteLine_109 : bk_X11_paletteLine.lookup 109 = some [(.lload_n 1, 1), (.ldc2_w 197, 3), (.lcmp, 1), (.ifCond .eq 11, 3)] := rfl
theorem lb_X11_paletteLine_117 : bk_X11_paletteLine.lookup 117 = some [(.aload_n 0, 1), (.iconst 1, 1), (.bipush 6, 2), (.iload_n 3, 1)] := rfl
theorem lb_X11_paletteLine_122 : bk_X11_paletteLine.lookup 122 = some [(.invokevirtual 199, 3)] := rfl
theorem lb_X11_paletteLine_125 : bk_X11_paletteLine.lookup 125 = some [(.aload_n 0, 1)] := rfl
theorem lb_X11_paletteLine_126 : bk_X11_paletteLine.lookup 126 = some [(.invokevirtual 164, 3)] := rfl
theorem lb_X11_paletteLine_129 : bk_X11_paletteLine.lookup 129 = some [(.iload 4, 2), (.iconst (-1), 1), (.if_icmp .ne 23, 3)] := rfl
theorem lb_X11_paletteLine_135 : bk_X11_paletteLine.lookup 135 = some [(.lload_n 1, 1), (.ldc2_w 195, 3), (.lcmp, 1), (.ifCond .ne 10, 3)] := rfl
theorem lb_X11_paletteLine_143 : bk_X11_paletteLine.lookup 143 = some [(.aload_n 0, 1)] := rfl
theorem lb_X11_paletteLine_144 : bk_X11_paletteLine.lookup 144 = some [(.invokevirtual 203, 3)] := rfl
theorem lb_X11_paletteLine_147 : bk_X11_paletteLine.lookup 147 = some [(.goto 7, 3)] := rfl
theorem lb_X11_paletteLine_150 : bk_X11_paletteLine.lookup 150 = some [(.aload_n 0, 1)] := rfl
theorem lb_X11_paletteLine_151 : bk_X11_paletteLine.lookup 151 = some [(.invokevirtual 206, 3)] := rfl
theorem lb_X11_paletteLine_154 : bk_X11_paletteLine.lookup 154 = some [(.ireturn, 1)] := rfl
theorem lb_X11_paletteLine_155 : bk_X11_paletteLine.lookup 155 = some [(.aload_n 0, 1), (.getfield 44, 3), (.iconst 2, 1), (.iconst (-1), 1), (.iastore, 1), (.aload_n 0, 1), (.iload 4, 2)] := rfl
theorem lb_X11_paletteLine_165 : bk_X11_paletteLine.lookup 165 = some [(.invokevirtual 209, 3)] := rfl
theorem lb_X11_paletteLine_168 : bk_X11_paletteLine.lookup 168 = some [(.ifCond .ne 5, 3)] := rfl
theorem lb_X11_paletteLine_171 : bk_X11_paletteLine.lookup 171 = some [(.iconst 0, 1)] := rfl
theorem lb_X11_paletteLine_172 : bk_X11_paletteLine.lookup 172 = some [(.ireturn, 1)] := rfl
theorem lb_X11_paletteLine_173 : bk_X11_paletteLine.lookup 173 = some [(.aload_n 0, 1), (.iload 4, 2), (.iconst 3, 1), (.if_icmp .ne 28, 3)] := rfl
theorem lb_X11_paletteLine_180 : bk_X11_paletteLine.lookup 180 = some [(.aload_n 0, 1), (.getfield 178, 3), (.aload_n 0, 1), (.getfield 44, 3), (.iconst 1, 1), (.iaload, 1), (.aload_n 0, 1), (.getfield 44, 3), (.iconst 2, 1), (.iaload, 1)] := rfl
theorem lb_X11_paletteLine_196 : bk_X11_paletteLine.lookup 196 = some [(.invokestatic 181, 3)] := rfl
theorem lb_X11_paletteLine_199 : bk_X11_paletteLine.lookup 199 = some [(.invokestatic 181, 3)] := rfl
theorem lb_X11_paletteLine_202 : bk_X11_paletteLine.lookup 202 = some [(.goto 7, 3)] := rfl
theorem lb_X11_paletteLine_205 : bk_X11_paletteLine.lookup 205 = some [(.aload_n 0, 1), (.getfield 178, 3)] := rfl
theorem lb_X11_paletteLine_209 : bk_X11_paletteLine.lookup 209 = some [(.putfield 178, 3), (.aload_n 0, 1), (.getfield 44, 3), (.iconst 0, 1), (.iload 4, 2), (.iastore, 1), (.aload_n 0, 1), (.iconst 1, 1), (.bipush 32, 2), (.iconst 3, 1), (.bipush 6, 2)] := rfl
theorem lb_X11_paletteLine_227 : bk_X11_paletteLine.lookup 227 = some [(.invokevirtual 174, 3)] := rfl
theorem lb_X11_paletteLine_230 : bk_X11_paletteLine.lookup 230 = some [(.iconst 1, 1)] := rfl
theorem lb_X11_paletteLine_231 : bk_X11_paletteLine.lookup 231 = some [(.ireturn, 1)] := rfl
def f_X11_paletteLine_209 (a1 : Int64) (a3 : Int32) (x4 : Int32) (s0 : Int32) (M : PM) : Option (Int32 × PM) :=
  if inB 0 4 = true then 
  hr_bd (f_X11_keep 1 32 3 6 (hr_si (hr_si M 275 22 s0) 287 (0 : Int32).toNatClampNeg x4)) (fun v2 M2 =>
  some (1, M2)) else none
theorem g_X11_paletteLine_209 (a1 : Int64) (a3 : Int32)  : ∀ (x4 : Int32) (s0 : Int32) (M : PM) (r : Int32 × PM), f_X11_paletteLine_209 a1 a3 x4 s0 M = some r → hr_G 185 209 [some (.ref 275), none, none, none, some (.int x4)] [.int s0, .ref 275] M (some (.int r.1), r.2) := by
  intro x4 s0 M r h
  unfold f_X11_paletteLine_209 at h
  refine hr_Fg h (fun hg1_0 h => ?_)
  refine hr_Grun mf_X11_paletteLine lb_X11_paletteLine_209 (P := (hr_K 275 = 10 ∧ 275 < hr_n) ∧ hr_K 275 = 10 ∧ ((hr_K 287 = 12 ∧ 287 < hr_n) ∧ vp_in 0 (hr_N 287)) ∧ True) (pc' := 227) (ls' := [some (.ref 275), none, none, none, some (.int x4)]) (st' := [.int 6, .int 3, .int 32, .int 1, .ref 275]) (M' := hr_si (hr_si M 275 22 s0) 287 (0 : Int32).toNatClampNeg x4) rfl rfl ⟨⟨K_275, L_275⟩, K_275, ⟨⟨K_287, L_287⟩, (inB_N N_287 hg1_0)⟩, trivial⟩ ?_
  refine hr_Fb h (fun v2 M2 e2 h => ?_)
  refine hr_Gcv mf_X11_paletteLine mf_X11_keep lb_X11_paletteLine_227 (b := 275) (as := [.int 1, .int 32, .int 3, .int 6]) (rest := []) (st2 := []) (v := none) (M1 := M2) rfl rfl rfl rfl rfl rfl K_275 (g_X11_keep 1 32 3 6 _ _ e2) rfl rfl ?_
  refine hr_Grun mf_X11_paletteLine lb_X11_paletteLine_230 (P := True) (pc' := 231) (ls' := [some (.ref 275), none, none, none, some (.int x4)]) (st' := [.int 1]) (M' := M2) rfl rfl trivial ?_
  cases h
  exact hr_Gret mf_X11_paletteLine lb_X11_paletteLine_231 rfl rfl (Or.inr rfl)
def f_X11_paletteLine_125 (a1 : Int64) (a3 : Int32) (x4 : Int32) (M : PM) : Option (Int32 × PM) :=
  hr_bd (f_X11_token M) (fun v2 M2 =>
  if x4 = (-1) then
    if (lg_cmp a1 6845797) = 0 then
      hr_bd (f_X11_hueLine M2) (fun v6 M6 =>
      if v6 = 0 ∨ v6 = 1 then some (v6, M6) else none)
    else
      hr_bd (f_X11_likesLine M2) (fun v9 M9 =>
      if v9 = 0 ∨ v9 = 1 then some (v9, M9) else none)
  else
    if inB 2 4 = true then 
    hr_bd (f_X11_ruleNumbers x4 (hr_si M2 287 (2 : Int32).toNatClampNeg (-1))) (fun v11 M11 =>
    if v11 = 0 then
      some (0, M11)
    else
      if x4 = 3 then
        if inB 1 4 = true then if inB 2 4 = true then 
        hr_bd (f_X11_greater (M11.1 287 (1 : Int32).toNatClampNeg) (M11.1 287 (2 : Int32).toNatClampNeg) M11) (fun v16 M16 =>
        hr_bd (f_X11_greater (M11.1 275 22) v16 M16) (fun v17 M17 =>
        f_X11_paletteLine_209 a1 a3 x4 v17 M17)) else none else none
      else
        f_X11_paletteLine_209 a1 a3 x4 (M11.1 275 22) M11) else none)
theorem g_X11_paletteLine_125 (a1 : Int64) (a3 : Int32)  : ∀ (x4 : Int32) (M : PM) (r : Int32 × PM), f_X11_paletteLine_125 a1 a3 x4 M = some r → hr_G 185 125 [some (.ref 275), some (.long a1), none, none, some (.int x4)] [] M (some (.int r.1), r.2) := by
  intro x4 M r h
  unfold f_X11_paletteLine_125 at h
  refine hr_Grun mf_X11_paletteLine lb_X11_paletteLine_125 (P := True) (pc' := 126) (ls' := [some (.ref 275), some (.long a1), none, none, some (.int x4)]) (st' := [.ref 275]) (M' := M) rfl rfl trivial ?_
  refine hr_Fb h (fun v2 M2 e2 h => ?_)
  refine hr_Gcv mf_X11_paletteLine mf_X11_token lb_X11_paletteLine_126 (b := 275) (as := []) (rest := []) (st2 := []) (v := none) (M1 := M2) rfl rfl rfl rfl rfl rfl K_275 (g_X11_token  _ _ e2) rfl rfl ?_
  refine hr_Grun mf_X11_paletteLine lb_X11_paletteLine_129 (P := True) (pc' := if x4 = (-1) then 135 else 155) (ls' := [some (.ref 275), some (.long a1), none, none, some (.int x4)]) (st' := []) (M' := M2) rfl rfl trivial ?_
  refine hr_Gif h (fun _ h => ?_) (fun _ h => ?_)
  · refine hr_Grun mf_X11_paletteLine lb_X11_paletteLine_135 (P := True) (pc' := if (lg_cmp a1 6845797) = 0 then 143 else 150) (ls' := [some (.ref 275), some (.long a1), none, none, some (.int x4)]) (st' := []) (M' := M2) rfl rfl trivial ?_
    refine hr_Gif h (fun _ h => ?_) (fun _ h => ?_)
    · refine hr_Grun mf_X11_paletteLine lb_X11_paletteLine_143 (P := True) (pc' := 144) (ls' := [some (.ref 275), some (.long a1), none, none, some (.int x4)]) (st' := [.ref 275]) (M' := M2) rfl rfl trivial ?_
      refine hr_Fb h (fun v6 M6 e6 h => ?_)
      refine hr_Gcv mf_X11_paletteLine mf_X11_hueLine lb_X11_paletteLine_144 (b := 275) (as := []) (rest := []) (st2 := [.int v6]) (v := some (.int v6)) (M1 := M6) rfl rfl rfl rfl rfl rfl K_275 (g_X11_hueLine  _ _ e6) rfl rfl ?_
      refine hr_Grun mf_X11_paletteLine lb_X11_paletteLine_147 (P := True) (pc' := 154) (ls' := [some (.ref 275), some (.long a1), none, none, some (.int x4)]) (st' := [.int v6]) (M' := M6) rfl rfl trivial ?_
      refine hr_Fg h (fun hz h => ?_)
      cases h
      exact hr_Gret mf_X11_paletteLine lb_X11_paletteLine_154 rfl rfl hz
    · refine hr_Grun mf_X11_paletteLine lb_X11_paletteLine_150 (P := True) (pc' := 151) (ls' := [some (.ref 275), some (.long a1), none, none, some (.int x4)]) (st' := [.ref 275]) (M' := M2) rfl rfl trivial ?_
      refine hr_Fb h (fun v9 M9 e9 h => ?_)
      refine hr_Gcv mf_X11_paletteLine mf_X11_likesLine lb_X11_paletteLine_151 (b := 275) (as := []) (rest := []) (st2 := [.int v9]) (v := some (.int v9)) (M1 := M9) rfl rfl rfl rfl rfl rfl K_275 (g_X11_likesLine  _ _ e9) rfl rfl ?_
      refine hr_Fg h (fun hz h => ?_)
      cases h
      exact hr_Gret mf_X11_paletteLine lb_X11_paletteLine_154 rfl rfl hz
  · refine hr_Fg h (fun hg10_0 h => ?_)
    refine hr_Grun mf_X11_paletteLine lb_X11_paletteLine_155 (P := hr_K 275 = 10 ∧ ((hr_K 287 = 12 ∧ 287 < hr_n) ∧ vp_in 2 (hr_N 287)) ∧ True) (pc' := 165) (ls' := [some (.ref 275), some (.long a1), none, none, some (.int x4)]) (st' := [.int x4, .ref 275]) (M' := hr_si M2 287 (2 : Int32).toNatClampNeg (-1)) rfl rfl ⟨K_275, ⟨⟨K_287, L_287⟩, (inB_N N_287 hg10_0)⟩, trivial⟩ ?_
    refine hr_Fb h (fun v11 M11 e11 h => ?_)
    refine hr_Gcv mf_X11_paletteLine mf_X11_ruleNumbers lb_X11_paletteLine_165 (b := 275) (as := [.int x4]) (rest := []) (st2 := [.int v11]) (v := some (.int v11)) (M1 := M11) rfl rfl rfl rfl rfl rfl K_275 (g_X11_ruleNumbers x4 _ _ e11) rfl rfl ?_
    refine hr_Grun mf_X11_paletteLine lb_X11_paletteLine_168 (P := True) (pc' := if v11 = 0 then 171 else 173) (ls' := [some (.ref 275), some (.long a1), none, none, some (.int x4)]) (st' := []) (M' := M11) rfl rfl trivial ?_
    refine hr_Gif h (fun _ h => ?_) (fun _ h => ?_)
    · refine hr_Grun mf_X11_paletteLine lb_X11_paletteLine_171 (P := True) (pc' := 172) (ls' := [some (.ref 275), some (.long a1), none, none, some (.int x4)]) (st' := [.int 0]) (M' := M11) rfl rfl trivial ?_
      cases h
      exact hr_Gret mf_X11_paletteLine lb_X11_paletteLine_172 rfl rfl (Or.inl rfl)
    · refine hr_Grun mf_X11_paletteLine lb_X11_paletteLine_173 (P := True) (pc' := if x4 = 3 then 180 else 205) (ls' := [some (.ref 275), some (.long a1), none, none, some (.int x4)]) (st' := [.ref 275]) (M' := M11) rfl rfl trivial ?_
      refine hr_Gif h (fun _ h => ?_) (fun _ h => ?_)
      · refine hr_Fg h (fun hg15_0 h => ?_)
        refine hr_Fg h (fun hg15_1 h => ?_)
        refine hr_Grun mf_X11_paletteLine lb_X11_paletteLine_180 (P := hr_K 275 = 10 ∧ hr_K 275 = 10 ∧ (hr_K 287 = 12 ∧ vp_in 1 (hr_N 287)) ∧ hr_K 275 = 10 ∧ (hr_K 287 = 12 ∧ vp_in 2 (hr_N 287)) ∧ True) (pc' := 196) (ls' := [some (.ref 275), some (.long a1), none, none, some (.int x4)]) (st' := [.int (M11.1 287 (2 : Int32).toNatClampNeg), .int (M11.1 287 (1 : Int32).toNatClampNeg), .int (M11.1 275 22), .ref 275]) (M' := M11) rfl rfl ⟨K_275, K_275, ⟨K_287, (inB_N N_287 hg15_0)⟩, K_275, ⟨K_287, (inB_N N_287 hg15_1)⟩, trivial⟩ ?_
        refine hr_Fb h (fun v16 M16 e16 h => ?_)
        refine hr_Gcs mf_X11_paletteLine mf_X11_greater lb_X11_paletteLine_196 (as := [.int (M11.1 287 (1 : Int32).toNatClampNeg), .int (M11.1 287 (2 : Int32).toNatClampNeg)]) (rest := [.int (M11.1 275 22), .ref 275]) (st2 := [.int v16, .int (M11.1 275 22), .ref 275]) (v := some (.int v16)) (M1 := M16) rfl rfl rfl rfl rfl rfl (g_X11_greater (M11.1 287 (1 : Int32).toNatClampNeg) (M11.1 287 (2 : Int32).toNatClampNeg) _ _ e16) rfl rfl ?_
        refine hr_Fb h (fun v17 M17 e17 h => ?_)
        refine hr_Gcs mf_X11_paletteLine mf_X11_greater lb_X11_paletteLine_199 (as := [.int (M11.1 275 22), .int v16]) (rest := [.ref 275]) (st2 := [.int v17, .ref 275]) (v := some (.int v17)) (M1 := M17) rfl rfl rfl rfl rfl rfl (g_X11_greater (M11.1 275 22) v16 _ _ e17) rfl rfl ?_
        refine hr_Grun mf_X11_paletteLine lb_X11_paletteLine_202 (P := True) (pc' := 209) (ls' := [some (.ref 275), some (.long a1), none, none, some (.int x4)]) (st' := [.int v17, .ref 275]) (M' := M17) rfl rfl trivial ?_
        refine hr_Gle (ls := [some (.ref 275), none, none, none, some (.int x4)]) (hr_le_s (hr_le_n (hr_le_n (hr_le_n (hr_le_s hr_le_0))))) ?_
        exact g_X11_paletteLine_209 a1 a3 x4 v17 M17 _ h
      · refine hr_Grun mf_X11_paletteLine lb_X11_paletteLine_205 (P := hr_K 275 = 10 ∧ True) (pc' := 209) (ls' := [some (.ref 275), some (.long a1), none, none, some (.int x4)]) (st' := [.int (M11.1 275 22), .ref 275]) (M' := M11) rfl rfl ⟨K_275, trivial⟩ ?_
        refine hr_Gle (ls := [some (.ref 275), none, none, none, some (.int x4)]) (hr_le_s (hr_le_n (hr_le_n (hr_le_n (hr_le_s hr_le_0))))) ?_
        exact g_X11_paletteLine_209 a1 a3 x4 (M11.1 275 22) M11 _ h
def f_X11_paletteLine_90 (a1 : Int64) (a3 : Int32) (x4 : Int32) (M : PM) : Option (Int32 × PM) :=
  if (lg_cmp a1 6845797) = 0 then
    hr_bd (f_X11_full 0 10 a3 M) (fun v3 M3 =>
    f_X11_paletteLine_125 a1 a3 x4 M3)
  else
    if (lg_cmp a1 465625113971) = 0 then
      f_X11_paletteLine_125 a1 a3 x4 M
    else
      hr_bd (f_X11_full 1 6 a3 M) (fun v7 M7 =>
      f_X11_paletteLine_125 a1 a3 x4 M7)
theorem g_X11_paletteLine_90 (a1 : Int64) (a3 : Int32)  : ∀ (x4 : Int32) (M : PM) (r : Int32 × PM), f_X11_paletteLine_90 a1 a3 x4 M = some r → hr_G 185 90 [some (.ref 275), some (.long a1), none, some (.int a3), some (.int x4)] [] M (some (.int r.1), r.2) := by
  intro x4 M r h
  unfold f_X11_paletteLine_90 at h
  refine hr_Grun mf_X11_paletteLine lb_X11_paletteLine_90 (P := True) (pc' := if (lg_cmp a1 6845797) = 0 then 98 else 109) (ls' := [some (.ref 275), some (.long a1), none, some (.int a3), some (.int x4)]) (st' := []) (M' := M) rfl rfl trivial ?_
  refine hr_Gif h (fun _ h => ?_) (fun _ h => ?_)
  · refine hr_Grun mf_X11_paletteLine lb_X11_paletteLine_98 (P := True) (pc' := 103) (ls' := [some (.ref 275), some (.long a1), none, some (.int a3), some (.int x4)]) (st' := [.int a3, .int 10, .int 0, .ref 275]) (M' := M) rfl rfl trivial ?_
    refine hr_Fb h (fun v3 M3 e3 h => ?_)
    refine hr_Gcv mf_X11_paletteLine mf_X11_full lb_X11_paletteLine_103 (b := 275) (as := [.int 0, .int 10, .int a3]) (rest := []) (st2 := []) (v := none) (M1 := M3) rfl rfl rfl rfl rfl rfl K_275 (g_X11_full 0 10 a3 _ _ e3) rfl rfl ?_
    refine hr_Grun mf_X11_paletteLine lb_X11_paletteLine_106 (P := True) (pc' := 125) (ls' := [some (.ref 275), some (.long a1), none, some (.int a3), some (.int x4)]) (st' := []) (M' := M3) rfl rfl trivial ?_
    refine hr_Gle (ls := [some (.ref 275), some (.long a1), none, none, some (.int x4)]) (hr_le_s (hr_le_s (hr_le_n (hr_le_n (hr_le_s hr_le_0))))) ?_
    exact g_X11_paletteLine_125 a1 a3 x4 M3 _ h
  · refine hr_Grun mf_X11_paletteLine lb_X11_paletteLine_109 (P := True) (pc' := if (lg_cmp a1 465625113971) = 0 then 125 else 117) (ls' := [some (.ref 275), some (.long a1), none, some (.int a3), some (.int x4)]) (st' := []) (M' := M) rfl rfl trivial ?_
    refine hr_Gif h (fun _ h => ?_) (fun _ h => ?_)
    · refine hr_Gle (ls := [some (.ref 275), some (.long a1), none, none, some (.int x4)]) (hr_le_s (hr_le_s (hr_le_n (hr_le_n (hr_le_s hr_le_0))))) ?_
      exact g_X11_paletteLine_125 a1 a3 x4 M _ h
    · refine hr_Grun mf_X11_paletteLine lb_X11_paletteLine_117 (P := True) (pc' := 122) (ls' := [some (.ref 275), some (.long a1), none, some (.int a3), some (.int x4)]) (st' := [.int a3, .int 6, .int 1, .ref 275]) (M' := M) rfl rfl trivial ?_
      refine hr_Fb h (fun v7 M7 e7 h => ?_)
      refine hr_Gcv mf_X11_paletteLine mf_X11_full lb_X11_paletteLine_122 (b := 275) (as := [.int 1, .int 6, .int a3]) (rest := []) (st2 := []) (v := none) (M1 := M7) rfl rfl rfl rfl rfl rfl K_275 (g_X11_full 1 6 a3 _ _ e7) rfl rfl ?_
      refine hr_Gle (ls := [some (.ref 275), some (.long a1), none, none, some (.int x4)]) (hr_le_s (hr_le_s (hr_le_n (hr_le_n (hr_le_s hr_le_0))))) ?_
      exact g_X11_paletteLine_125 a1 a3 x4 M7 _ h
def f_X11_paletteLine_61 (a1 : Int64) (a3 : Int32) (s0 : Int32) (M : PM) : Option (Int32 × PM) :=
  if s0 = (-1) then
    if (lg_cmp a1 6845797) = 0 then
      f_X11_paletteLine_90 a1 a3 s0 M
    else
      if (lg_cmp a1 465625113971) = 0 then
        f_X11_paletteLine_90 a1 a3 s0 M
      else
        hr_bd (f_X11_fails M) (fun v5 M5 =>
        if v5 = 0 ∨ v5 = 1 then some (v5, M5) else none)
  else
    f_X11_paletteLine_90 a1 a3 s0 M
theorem g_X11_paletteLine_61 (a1 : Int64) (a3 : Int32)  : ∀ (s0 : Int32) (M : PM) (r : Int32 × PM), f_X11_paletteLine_61 a1 a3 s0 M = some r → hr_G 185 61 [some (.ref 275), some (.long a1), none, some (.int a3), none] [.int s0] M (some (.int r.1), r.2) := by
  intro s0 M r h
  unfold f_X11_paletteLine_61 at h
  refine hr_Grun mf_X11_paletteLine lb_X11_paletteLine_61 (P := True) (pc' := if s0 = (-1) then 69 else 90) (ls' := [some (.ref 275), some (.long a1), none, some (.int a3), some (.int s0)]) (st' := []) (M' := M) rfl rfl trivial ?_
  refine hr_Gif h (fun _ h => ?_) (fun _ h => ?_)
  · refine hr_Grun mf_X11_paletteLine lb_X11_paletteLine_69 (P := True) (pc' := if (lg_cmp a1 6845797) = 0 then 90 else 77) (ls' := [some (.ref 275), some (.long a1), none, some (.int a3), some (.int s0)]) (st' := []) (M' := M) rfl rfl trivial ?_
    refine hr_Gif h (fun _ h => ?_) (fun _ h => ?_)
    · exact g_X11_paletteLine_90 a1 a3 s0 M _ h
    · refine hr_Grun mf_X11_paletteLine lb_X11_paletteLine_77 (P := True) (pc' := if (lg_cmp a1 465625113971) = 0 then 90 else 85) (ls' := [some (.ref 275), some (.long a1), none, some (.int a3), some (.int s0)]) (st' := []) (M' := M) rfl rfl trivial ?_
      refine hr_Gif h (fun _ h => ?_) (fun _ h => ?_)
      · exact g_X11_paletteLine_90 a1 a3 s0 M _ h
      · refine hr_Grun mf_X11_paletteLine lb_X11_paletteLine_85 (P := True) (pc' := 86) (ls' := [some (.ref 275), some (.long a1), none, some (.int a3), some (.int s0)]) (st' := [.ref 275]) (M' := M) rfl rfl trivial ?_
        refine hr_Fb h (fun v5 M5 e5 h => ?_)
        refine hr_Gcv mf_X11_paletteLine mf_X11_fails lb_X11_paletteLine_86 (b := 275) (as := []) (rest := []) (st2 := [.int v5]) (v := some (.int v5)) (M1 := M5) rfl rfl rfl rfl rfl rfl K_275 (g_X11_fails  _ _ e5) rfl rfl ?_
        refine hr_Fg h (fun hz h => ?_)
        cases h
        exact hr_Gret mf_X11_paletteLine lb_X11_paletteLine_89 rfl rfl hz
  · exact g_X11_paletteLine_90 a1 a3 s0 M _ h
def f_X11_paletteLine (a1 : Int64) (a3 : Int32) (M : PM) : Option (Int32 × PM) :=
  if (lg_cmp a1 7566701) = 0 then
    f_X11_paletteLine_61 a1 a3 0 M
  else
    if (lg_cmp a1 6775152) = 0 then
      f_X11_paletteLine_61 a1 a3 1 M
    else
      if (lg_cmp a1 1818848101) = 0 then
        f_X11_paletteLine_61 a1 a3 2 M
      else
        if (lg_cmp a1 1885432178) = 0 then
          f_X11_paletteLine_61 a1 a3 3 M
        else
          if (lg_cmp a1 1668641381) = 0 then
            f_X11_paletteLine_61 a1 a3 4 M
          else
            f_X11_paletteLine_61 a1 a3 (-1) M
theorem g_X11_paletteLine (a1 : Int64) (a3 : Int32) : ∀ (M : PM) (r : Int32 × PM), f_X11_paletteLine a1 a3 M = some r → hr_G 185 0 [some (.ref 275), some (.long a1), none, some (.int a3), none] [] M (some (.int r.1), r.2) := by
  intro M r h
  unfold f_X11_paletteLine at h
  refine hr_Grun mf_X11_paletteLine lb_X11_paletteLine_0 (P := True) (pc' := if (lg_cmp a1 7566701) = 0 then 8 else 12) (ls' := [some (.ref 275), some (.long a1), none, some (.int a3), none]) (st' := []) (M' := M) rfl rfl trivial ?_
  refine hr_Gif h (fun _ h => ?_) (fun _ h => ?_)
  · refine hr_Grun mf_X11_paletteLine lb_X11_paletteLine_8 (P := True) (pc' := 61) (ls' := [some (.ref 275), some (.long a1), none, some (.int a3), none]) (st' := [.int 0]) (M' := M) rfl rfl trivial ?_
    exact g_X11_paletteLine_61 a1 a3 0 M _ h
  · refine hr_Grun mf_X11_paletteLine lb_X11_paletteLine_12 (P := True) (pc' := if (lg_cmp a1 6775152) = 0 then 20 else 24) (ls' := [some (.ref 275), some (.long a1), none, some (.int a3), none]) (st' := []) (M' := M) rfl rfl trivial ?_
    refine hr_Gif h (fun _ h => ?_) (fun _ h => ?_)
    · refine hr_Grun mf_X11_paletteLine lb_X11_paletteLine_20 (P := True) (pc' := 61) (ls' := [some (.ref 275), some (.long a1), none, some (.int a3), none]) (st' := [.int 1]) (M' := M) rfl rfl trivial ?_
      exact g_X11_paletteLine_61 a1 a3 1 M _ h
    · refine hr_Grun mf_X11_paletteLine lb_X11_paletteLine_24 (P := True) (pc' := if (lg_cmp a1 1818848101) = 0 then 32 else 36) (ls' := [some (.ref 275), some (.long a1), none, some (.int a3), none]) (st' := []) (M' := M) rfl rfl trivial ?_
      refine hr_Gif h (fun _ h => ?_) (fun _ h => ?_)
      · refine hr_Grun mf_X11_paletteLine lb_X11_paletteLine_32 (P := True) (pc' := 61) (ls' := [some (.ref 275), some (.long a1), none, some (.int a3), none]) (st' := [.int 2]) (M' := M) rfl rfl trivial ?_
        exact g_X11_paletteLine_61 a1 a3 2 M _ h
      · refine hr_Grun mf_X11_paletteLine lb_X11_paletteLine_36 (P := True) (pc' := if (lg_cmp a1 1885432178) = 0 then 44 else 48) (ls' := [some (.ref 275), some (.long a1), none, some (.int a3), none]) (st' := []) (M' := M) rfl rfl trivial ?_
        refine hr_Gif h (fun _ h => ?_) (fun _ h => ?_)
        · refine hr_Grun mf_X11_paletteLine lb_X11_paletteLine_44 (P := True) (pc' := 61) (ls' := [some (.ref 275), some (.long a1), none, some (.int a3), none]) (st' := [.int 3]) (M' := M) rfl rfl trivial ?_
          exact g_X11_paletteLine_61 a1 a3 3 M _ h
        · refine hr_Grun mf_X11_paletteLine lb_X11_paletteLine_48 (P := True) (pc' := if (lg_cmp a1 1668641381) = 0 then 56 else 60) (ls' := [some (.ref 275), some (.long a1), none, some (.int a3), none]) (st' := []) (M' := M) rfl rfl trivial ?_
          refine hr_Gif h (fun _ h => ?_) (fun _ h => ?_)
          · refine hr_Grun mf_X11_paletteLine lb_X11_paletteLine_56 (P := True) (pc' := 61) (ls' := [some (.ref 275), some (.long a1), none, some (.int a3), none]) (st' := [.int 4]) (M' := M) rfl rfl trivial ?_
            exact g_X11_paletteLine_61 a1 a3 4 M _ h
          · refine hr_Grun mf_X11_paletteLine lb_X11_paletteLine_60 (P := True) (pc' := 61) (ls' := [some (.ref 275), some (.long a1), none, some (.int a3), none]) (st' := [.int (-1)]) (M' := M) rfl rfl trivial ?_
            exact g_X11_paletteLine_61 a1 a3 (-1) M _ h
theorem mf_X11_galleryLine : hr_mf 186 11 4 (some .boolean) 4 2 bk_X11_galleryLine := ⟨rfl, rfl, rfl, rfl, rfl, rfl⟩
theorem lb_X11_galleryLine_0 : bk_X11_galleryLine.lookup 0 = some [(.lload_n 1, 1), (.ldc2_w 213, 3), (.lcmp, 1), (.ifCond .eq 16, 3)] := rfl
theorem lb_X11_galleryLine_8 : bk_X11_galleryLine.lookup 8 = some [(.lload_n 1, 1), (.ldc2_w 215, 3), (.lcmp, 1), (.ifCond .eq 8, 3)] := rfl
theorem lb_X11_galleryLine_16 : bk_X11_galleryLine.lookup 16 = some [(.aload_n 0, 1)] := rfl
theorem lb_X11_galleryLine_17 : bk_X11_galleryLine.lookup 17 = some [(.invokevirtual 152, 3)] := rfl
theorem lb_X11_galleryLine_20 : bk_X11_galleryLine.lookup 20 = some [(.ireturn, 1)] := rfl
theorem lb_X11_galleryLine_21 : bk_X11_galleryLine.lookup 21 = some [(.lload_n 1, 1), (.ldc2_w 213, 3), (.lcmp, 1), (.ifCond .ne 11, 3)] := rfl
theorem lb_X11_galleryLine_29 : bk_X11_galleryLine.lookup 29 = some [(.aload_n 0, 1), (.iconst 0, 1), (.bipush 9, 2), (.iload_n 3, 1)] := rfl
theorem lb_X11_galleryLine_34 : bk_X11_galleryLine.lookup 34 = some [(.invokevirtual 199, 3)] := rfl
theorem lb_X11_galleryLine_37 : bk_X11_galleryLine.lookup 37 = some [(.aload_n 0, 1)] := rfl
theorem lb_X11_galleryLine_38 : bk_X11_galleryLine.lookup 38 = some [(.invokevirtual 164, 3)] := rfl
theorem lb_X11_galleryLine_41 : bk_X11_galleryLine.lookup 41 = some [(.lload_n 1, 1), (.ldc2_w 215, 3), (.lcmp, 1), (.ifCond .ne 30, 3)] := rfl
theorem lb_X11_galleryLine_49 : bk_X11_galleryLine.lookup 49 = some [(.aload_n 0, 1), (.iconst 0, 1), (.iconst 0, 1), (.bipush 99, 2)] := rfl
theorem lb_X11_galleryLine_54 : bk_X11_galleryLine.lookup 54 = some [(.invokevirtual 171, 3)] := rfl
theorem lb_X11_galleryLine_57 : bk_X11_galleryLine.lookup 57 = some [(.ifCond .ne 5, 3)] := rfl
theorem lb_X11_galleryLine_60 : bk_X11_galleryLine.lookup 60 = some [(.iconst 0, 1)] := rfl
theorem lb_X11_galleryLine_61 : bk_X11_galleryLine.lookup 61 = some [(.ireturn, 1)] := rfl
theorem lb_X11_galleryLine_62 : bk_X11_galleryLine.lookup 62 = some [(.aload_n 0, 1), (.getfield 41, 3), (.iconst 1, 1), (.aload_n 0, 1), (.getfield 44, 3), (.iconst 0, 1), (.iaload, 1), (.iastore, 1), (.iconst 1, 1)] := rfl
theorem lb_X11_galleryLine_75 : bk_X11_galleryLine.lookup 75 = some [(.ireturn, 1)] := rfl
theorem lb_X11_galleryLine_76 : bk_X11_galleryLine.lookup 76 = some [(.aload_n 0, 1), (.iconst 0, 1), (.iconst 0, 1), (.bipush 9, 2)] := rfl
theorem lb_X11_galleryLine_81 : bk_X11_galleryLine.lookup 81 = some [(.invokevirtual 171, 3)] := rfl
theorem lb_X11_galleryLine_84 : bk_X11_galleryLine.lookup 84 = some [(.ifCond .eq 14, 3)] := rfl
theorem lb_X11_galleryLine_87 : bk_X11_galleryLine.lookup 87 = some [(.aload_n 0, 1), (.iconst 1, 1), (.iconst 1, 1), (.bipush 9, 2)] := rfl
theorem lb_X11_galleryLine_92 : bk_X11_galleryLine.lookup 92 = some [(.invokevirtual 171, 3)] := rfl
theorem lb_X11_galleryLine_95 : bk_X11_galleryLine.lookup 95 = some [(.ifCond .ne 5, 3)] := rfl
theorem lb_X11_galleryLine_98 : bk_X11_galleryLine.lookup 98 = some [(.iconst 0, 1)] := rfl
theorem lb_X11_galleryLine_99 : bk_X11_galleryLine.lookup 99 = some [(.ireturn, 1)] := rfl
theorem lb_X11_galleryLine_100 : bk_X11_galleryLine.lookup 100 = some [(.aload_n 0, 1), (.iconst 0, 1), (.iconst 2, 1), (.iconst 2, 1), (.bipush 9, 2)] := rfl
theorem lb_X11_galleryLine_106 : bk_X11_galleryLine.lookup 106 = some [(.invokevirtual 174, 3)] := rfl
theorem lb_X11_galleryLine_109 : bk_X11_galleryLine.lookup 109 = some [(.iconst 1, 1)] := rfl
theorem lb_X11_galleryLine_110 : bk_X11_galleryLine.lookup 110 = some [(.ireturn, 1)] := rfl
def f_X11_galleryLine_37 (a1 : Int64) (a3 : Int32) (M : PM) : Option (Int32 × PM) :=
  hr_bd (f_X11_token M) (fun v2 M2 =>
  if (lg_cmp a1 465625246068) = 0 then
    hr_bd (f_X11_take 0 0 99 M2) (fun v5 M5 =>
    if v5 = 0 then
      some (0, M5)
    else
      if inB 0 4 = true then if inB 1 121 = true then 
      some (1, hr_si M5 286 (1 : Int32).toNatClampNeg (M5.1 287 (0 : Int32).toNatClampNeg)) else none else none)
  else
    hr_bd (f_X11_take 0 0 9 M2) (fun v10 M10 =>
    if v10 = 0 then
      some (0, M10)
    else
      hr_bd (f_X11_take 1 1 9 M10) (fun v14 M14 =>
      if v14 = 0 then
        some (0, M14)
      else
        hr_bd (f_X11_keep 0 2 2 9 M14) (fun v18 M18 =>
        some (1, M18)))))
theorem g_X11_galleryLine_37 (a1 : Int64) (a3 : Int32)  : ∀ (M : PM) (r : Int32 × PM), f_X11_galleryLine_37 a1 a3 M = some r → hr_G 186 37 [some (.ref 275), some (.long a1), none, none] [] M (some (.int r.1), r.2) := by
  intro M r h
  unfold f_X11_galleryLine_37 at h
  refine hr_Grun mf_X11_galleryLine lb_X11_galleryLine_37 (P := True) (pc' := 38) (ls' := [some (.ref 275), some (.long a1), none, none]) (st' := [.ref 275]) (M' := M) rfl rfl trivial ?_
  refine hr_Fb h (fun v2 M2 e2 h => ?_)
  refine hr_Gcv mf_X11_galleryLine mf_X11_token lb_X11_galleryLine_38 (b := 275) (as := []) (rest := []) (st2 := []) (v := none) (M1 := M2) rfl rfl rfl rfl rfl rfl K_275 (g_X11_token  _ _ e2) rfl rfl ?_
  refine hr_Grun mf_X11_galleryLine lb_X11_galleryLine_41 (P := True) (pc' := if (lg_cmp a1 465625246068) = 0 then 49 else 76) (ls' := [some (.ref 275), some (.long a1), none, none]) (st' := []) (M' := M2) rfl rfl trivial ?_
  refine hr_Gif h (fun _ h => ?_) (fun _ h => ?_)
  · refine hr_Grun mf_X11_galleryLine lb_X11_galleryLine_49 (P := True) (pc' := 54) (ls' := [some (.ref 275), some (.long a1), none, none]) (st' := [.int 99, .int 0, .int 0, .ref 275]) (M' := M2) rfl rfl trivial ?_
    refine hr_Fb h (fun v5 M5 e5 h => ?_)
    refine hr_Gcv mf_X11_galleryLine mf_X11_take lb_X11_galleryLine_54 (b := 275) (as := [.int 0, .int 0, .int 99]) (rest := []) (st2 := [.int v5]) (v := some (.int v5)) (M1 := M5) rfl rfl rfl rfl rfl rfl K_275 (g_X11_take 0 0 99 _ _ e5) rfl rfl ?_
    refine hr_Grun mf_X11_galleryLine lb_X11_galleryLine_57 (P := True) (pc' := if v5 = 0 then 60 else 62) (ls' := [some (.ref 275), some (.long a1), none, none]) (st' := []) (M' := M5) rfl rfl trivial ?_
    refine hr_Gif h (fun _ h => ?_) (fun _ h => ?_)
    · refine hr_Grun mf_X11_galleryLine lb_X11_galleryLine_60 (P := True) (pc' := 61) (ls' := [some (.ref 275), some (.long a1), none, none]) (st' := [.int 0]) (M' := M5) rfl rfl trivial ?_
      cases h
      exact hr_Gret mf_X11_galleryLine lb_X11_galleryLine_61 rfl rfl (Or.inl rfl)
    · refine hr_Fg h (fun hg8_0 h => ?_)
      refine hr_Fg h (fun hg8_1 h => ?_)
      refine hr_Grun mf_X11_galleryLine lb_X11_galleryLine_62 (P := hr_K 275 = 10 ∧ hr_K 275 = 10 ∧ (hr_K 287 = 12 ∧ vp_in 0 (hr_N 287)) ∧ ((hr_K 286 = 12 ∧ 286 < hr_n) ∧ vp_in 1 (hr_N 286)) ∧ True) (pc' := 75) (ls' := [some (.ref 275), some (.long a1), none, none]) (st' := [.int 1]) (M' := hr_si M5 286 (1 : Int32).toNatClampNeg (M5.1 287 (0 : Int32).toNatClampNeg)) rfl rfl ⟨K_275, K_275, ⟨K_287, (inB_N N_287 hg8_0)⟩, ⟨⟨K_286, L_286⟩, (inB_N N_286 hg8_1)⟩, trivial⟩ ?_
      cases h
      exact hr_Gret mf_X11_galleryLine lb_X11_galleryLine_75 rfl rfl (Or.inr rfl)
  · refine hr_Grun mf_X11_galleryLine lb_X11_galleryLine_76 (P := True) (pc' := 81) (ls' := [some (.ref 275), some (.long a1), none, none]) (st' := [.int 9, .int 0, .int 0, .ref 275]) (M' := M2) rfl rfl trivial ?_
    refine hr_Fb h (fun v10 M10 e10 h => ?_)
    refine hr_Gcv mf_X11_galleryLine mf_X11_take lb_X11_galleryLine_81 (b := 275) (as := [.int 0, .int 0, .int 9]) (rest := []) (st2 := [.int v10]) (v := some (.int v10)) (M1 := M10) rfl rfl rfl rfl rfl rfl K_275 (g_X11_take 0 0 9 _ _ e10) rfl rfl ?_
    refine hr_Grun mf_X11_galleryLine lb_X11_galleryLine_84 (P := True) (pc' := if v10 = 0 then 98 else 87) (ls' := [some (.ref 275), some (.long a1), none, none]) (st' := []) (M' := M10) rfl rfl trivial ?_
    refine hr_Gif h (fun _ h => ?_) (fun _ h => ?_)
    · refine hr_Grun mf_X11_galleryLine lb_X11_galleryLine_98 (P := True) (pc' := 99) (ls' := [some (.ref 275), some (.long a1), none, none]) (st' := [.int 0]) (M' := M10) rfl rfl trivial ?_
      cases h
      exact hr_Gret mf_X11_galleryLine lb_X11_galleryLine_99 rfl rfl (Or.inl rfl)
    · refine hr_Grun mf_X11_galleryLine lb_X11_galleryLine_87 (P := True) (pc' := 92) (ls' := [some (.ref 275), some (.long a1), none, none]) (st' := [.int 9, .int 1, .int 1, .ref 275]) (M' := M10) rfl rfl trivial ?_
      refine hr_Fb h (fun v14 M14 e14 h => ?_)
      refine hr_Gcv mf_X11_galleryLine mf_X11_take lb_X11_galleryLine_92 (b := 275) (as := [.int 1, .int 1, .int 9]) (rest := []) (st2 := [.int v14]) (v := some (.int v14)) (M1 := M14) rfl rfl rfl rfl rfl rfl K_275 (g_X11_take 1 1 9 _ _ e14) rfl rfl ?_
      refine hr_Grun mf_X11_galleryLine lb_X11_galleryLine_95 (P := True) (pc' := if v14 = 0 then 98 else 100) (ls' := [some (.ref 275), some (.long a1), none, none]) (st' := []) (M' := M14) rfl rfl trivial ?_
      refine hr_Gif h (fun _ h => ?_) (fun _ h => ?_)
      · refine hr_Grun mf_X11_galleryLine lb_X11_galleryLine_98 (P := True) (pc' := 99) (ls' := [some (.ref 275), some (.long a1), none, none]) (st' := [.int 0]) (M' := M14) rfl rfl trivial ?_
        cases h
        exact hr_Gret mf_X11_galleryLine lb_X11_galleryLine_99 rfl rfl (Or.inl rfl)
      · refine hr_Grun mf_X11_galleryLine lb_X11_galleryLine_100 (P := True) (pc' := 106) (ls' := [some (.ref 275), some (.long a1), none, none]) (st' := [.int 9, .int 2, .int 2, .int 0, .ref 275]) (M' := M14) rfl rfl trivial ?_
        refine hr_Fb h (fun v18 M18 e18 h => ?_)
        refine hr_Gcv mf_X11_galleryLine mf_X11_keep lb_X11_galleryLine_106 (b := 275) (as := [.int 0, .int 2, .int 2, .int 9]) (rest := []) (st2 := []) (v := none) (M1 := M18) rfl rfl rfl rfl rfl rfl K_275 (g_X11_keep 0 2 2 9 _ _ e18) rfl rfl ?_
        refine hr_Grun mf_X11_galleryLine lb_X11_galleryLine_109 (P := True) (pc' := 110) (ls' := [some (.ref 275), some (.long a1), none, none]) (st' := [.int 1]) (M' := M18) rfl rfl trivial ?_
        cases h
        exact hr_Gret mf_X11_galleryLine lb_X11_galleryLine_110 rfl rfl (Or.inr rfl)
def f_X11_galleryLine_21 (a1 : Int64) (a3 : Int32) (M : PM) : Option (Int32 × PM) :=
  if (lg_cmp a1 31641073268126309) = 0 then
    hr_bd (f_X11_full 0 9 a3 M) (fun v3 M3 =>
    f_X11_galleryLine_37 a1 a3 M3)
  else
    f_X11_galleryLine_37 a1 a3 M
theorem g_X11_galleryLine_21 (a1 : Int64) (a3 : Int32)  : ∀ (M : PM) (r : Int32 × PM), f_X11_galleryLine_21 a1 a3 M = some r → hr_G 186 21 [some (.ref 275), some (.long a1), none, some (.int a3)] [] M (some (.int r.1), r.2) := by
  intro M r h
  unfold f_X11_galleryLine_21 at h
  refine hr_Grun mf_X11_galleryLine lb_X11_galleryLine_21 (P := True) (pc' := if (lg_cmp a1 31641073268126309) = 0 then 29 else 37) (ls' := [some (.ref 275), some (.long a1), none, some (.int a3)]) (st' := []) (M' := M) rfl rfl trivial ?_
  refine hr_Gif h (fun _ h => ?_) (fun _ h => ?_)
  · refine hr_Grun mf_X11_galleryLine lb_X11_galleryLine_29 (P := True) (pc' := 34) (ls' := [some (.ref 275), some (.long a1), none, some (.int a3)]) (st' := [.int a3, .int 9, .int 0, .ref 275]) (M' := M) rfl rfl trivial ?_
    refine hr_Fb h (fun v3 M3 e3 h => ?_)
    refine hr_Gcv mf_X11_galleryLine mf_X11_full lb_X11_galleryLine_34 (b := 275) (as := [.int 0, .int 9, .int a3]) (rest := []) (st2 := []) (v := none) (M1 := M3) rfl rfl rfl rfl rfl rfl K_275 (g_X11_full 0 9 a3 _ _ e3) rfl rfl ?_
    refine hr_Gle (ls := [some (.ref 275), some (.long a1), none, none]) (hr_le_s (hr_le_s (hr_le_n (hr_le_n hr_le_0)))) ?_
    exact g_X11_galleryLine_37 a1 a3 M3 _ h
  · refine hr_Gle (ls := [some (.ref 275), some (.long a1), none, none]) (hr_le_s (hr_le_s (hr_le_n (hr_le_n hr_le_0)))) ?_
    exact g_X11_galleryLine_37 a1 a3 M _ h
def f_X11_galleryLine (a1 : Int64) (a3 : Int32) (M : PM) : Option (Int32 × PM) :=
  if (lg_cmp a1 31641073268126309) = 0 then
    f_X11_galleryLine_21 a1 a3 M
  else
    if (lg_cmp a1 465625246068) = 0 then
      f_X11_galleryLine_21 a1 a3 M
    else
      hr_bd (f_X11_fails M) (fun v4 M4 =>
      if v4 = 0 ∨ v4 = 1 then some (v4, M4) else none)
theorem g_X11_galleryLine (a1 : Int64) (a3 : Int32) : ∀ (M : PM) (r : Int32 × PM), f_X11_galleryLine a1 a3 M = some r → hr_G 186 0 [some (.ref 275), some (.long a1), none, some (.int a3)] [] M (some (.int r.1), r.2) := by
  intro M r h
  unfold f_X11_galleryLine at h
  refine hr_Grun mf_X11_galleryLine lb_X11_galleryLine_0 (P := True) (pc' := if (lg_cmp a1 31641073268126309) = 0 then 21 else 8) (ls' := [some (.ref 275), some (.long a1), none, some (.int a3)]) (st' := []) (M' := M) rfl rfl trivial ?_
  refine hr_Gif h (fun _ h => ?_) (fun _ h => ?_)
  · exact g_X11_galleryLine_21 a1 a3 M _ h
  · refine hr_Grun mf_X11_galleryLine lb_X11_galleryLine_8 (P := True) (pc' := if (lg_cmp a1 465625246068) = 0 then 21 else 16) (ls' := [some (.ref 275), some (.long a1), none, some (.int a3)]) (st' := []) (M' := M) rfl rfl trivial ?_
    refine hr_Gif h (fun _ h => ?_) (fun _ h => ?_)
    · exact g_X11_galleryLine_21 a1 a3 M _ h
    · refine hr_Grun mf_X11_galleryLine lb_X11_galleryLine_16 (P := True) (pc' := 17) (ls' := [some (.ref 275), some (.long a1), none, some (.int a3)]) (st' := [.ref 275]) (M' := M) rfl rfl trivial ?_
      refine hr_Fb h (fun v4 M4 e4 h => ?_)
      refine hr_Gcv mf_X11_galleryLine mf_X11_fails lb_X11_galleryLine_17 (b := 275) (as := []) (rest := []) (st2 := [.int v4]) (v := some (.int v4)) (M1 := M4) rfl rfl rfl rfl rfl rfl K_275 (g_X11_fails  _ _ e4) rfl rfl ?_
      refine hr_Fg h (fun hz h => ?_)
      cases h
      exact hr_Gret mf_X11_galleryLine lb_X11_galleryLine_20 rfl rfl hz
theorem mf_X11_deedBy : hr_mf 187 11 0 (some .int) 2 1 bk_X11_deedBy := ⟨rfl, rfl, rfl, rfl, rfl, rfl⟩
theorem lb_X11_deedBy_0 : bk_X11_deedBy.lookup 0 = some [(.lload_n 0, 1), (.ldc2_w 217, 3), (.lcmp, 1), (.ifCond .ne 7, 3)] := rfl
theorem lb_X11_deedBy_8 : bk_X11_deedBy.lookup 8 = some [(.iconst 0, 1), (.goto 64, 3)] := rfl
theorem lb_X11_deedBy_12 : bk_X11_deedBy.lookup 12 = some [(.lload_n 0, 1), (.ldc2_w 219, 3), (.lcmp, 1), (.ifCond .ne 7, 3)] := rfl
theorem lb_X11_deedBy_20 : bk_X11_deedBy.lookup 20 = some [(.iconst 1, 1), (.goto 52, 3)] := rfl
theorem lb_X11_deedBy_24 : bk_X11_deedBy.lookup 24 = some [(.lload_n 0, 1), (.ldc2_w 221, 3), (.lcmp, 1), (.ifCond .ne 7, 3)] := rfl
theorem lb_X11_deedBy_32 : bk_X11_deedBy.lookup 32 = some [(.iconst 2, 1), (.goto 40, 3)] := rfl
theorem lb_X11_deedBy_36 : bk_X11_deedBy.lookup 36 = some [(.lload_n 0, 1), (.ldc2_w 223, 3), (.lcmp, 1), (.ifCond .ne 7, 3)] := rfl
theorem lb_X11_deedBy_44 : bk_X11_deedBy.lookup 44 = some [(.iconst 3, 1), (.goto 28, 3)] := rfl
theorem lb_X11_deedBy_48 : bk_X11_deedBy.lookup 48 = some [(.lload_n 0, 1), (.ldc2_w 225, 3), (.lcmp, 1), (.ifCond .ne 7, 3)] := rfl
theorem lb_X11_deedBy_56 : bk_X11_deedBy.lookup 56 = some [(.iconst 4, 1), (.goto 16, 3)] := rfl
theorem lb_X11_deedBy_60 : bk_X11_deedBy.lookup 60 = some [(.lload_n 0, 1), (.ldc2_w 227, 3), (.lcmp, 1), (.ifCond .ne 7, 3)] := rfl
theorem lb_X11_deedBy_68 : bk_X11_deedBy.lookup 68 = some [(.iconst 5, 1), (.goto 4, 3)] := rfl
theorem lb_X11_deedBy_72 : bk_X11_deedBy.lookup 72 = some [(.iconst (-1), 1)] := rfl
theorem lb_X11_deedBy_73 : bk_X11_deedBy.lookup 73 = some [(.ireturn, 1)] := rfl
def f_X11_deedBy (a0 : Int64) (M : PM) : Option (Int32 × PM) :=
  if (lg_cmp a0 1751215719) = 0 then
    some (0, M)
  else
    if (lg_cmp a0 1952541541) = 0 then
      some (1, M)
    else
      if (lg_cmp a0 2003132786) = 0 then
        some (2, M)
      else
        if (lg_cmp a0 435644818802) = 0 then
          some (3, M)
        else
          if (lg_cmp a0 465557354085) = 0 then
            some (4, M)
          else
            if (lg_cmp a0 1752135026) = 0 then
              some (5, M)
            else
              some ((-1), M)
theorem g_X11_deedBy (a0 : Int64) : ∀ (M : PM) (r : Int32 × PM), f_X11_deedBy a0 M = some r → hr_G 187 0 [some (.long a0), none] [] M (some (.int r.1), r.2) := by
  intro M r h
  unfold f_X11_deedBy at h
  refine hr_Grun mf_X11_deedBy lb_X11_deedBy_0 (P := True) (pc' := if (lg_cmp a0 1751215719) = 0 then 8 else 12) (ls' := [some (.long a0), none]) (st' := []) (M' := M) rfl rfl trivial ?_
  refine hr_Gif h (fun _ h => ?_) (fun _ h => ?_)
  · refine hr_Grun mf_X11_deedBy lb_X11_deedBy_8 (P := True) (pc' := 73) (ls' := [some (.long a0), none]) (st' := [.int 0]) (M' := M) rfl rfl trivial ?_
    cases h
    exact hr_Gret mf_X11_deedBy lb_X11_deedBy_73 rfl rfl trivial
  · refine hr_Grun mf_X11_deedBy lb_X11_deedBy_12 (P := True) (pc' := if (lg_cmp a0 1952541541) = 0 then 20 else 24) (ls' := [some (.long a0), none]) (st' := []) (M' := M) rfl rfl trivial ?_
    refine hr_Gif h (fun _ h => ?_) (fun _ h => ?_)
    · refine hr_Grun mf_X11_deedBy lb_X11_deedBy_20 (P := True) (pc' := 73) (ls' := [some (.long a0), none]) (st' := [.int 1]) (M' := M) rfl rfl trivial ?_
      cases h
      exact hr_Gret mf_X11_deedBy lb_X11_deedBy_73 rfl rfl trivial
    · refine hr_Grun mf_X11_deedBy lb_X11_deedBy_24 (P := True) (pc' := if (lg_cmp a0 2003132786) = 0 then 32 else 36) (ls' := [some (.long a0), none]) (st' := []) (M' := M) rfl rfl trivial ?_
      refine hr_Gif h (fun _ h => ?_) (fun _ h => ?_)
      · refine hr_Grun mf_X11_deedBy lb_X11_deedBy_32 (P := True) (pc' := 73) (ls' := [some (.long a0), none]) (st' := [.int 2]) (M' := M) rfl rfl trivial ?_
        cases h
        exact hr_Gret mf_X11_deedBy lb_X11_deedBy_73 rfl rfl trivial
      · refine hr_Grun mf_X11_deedBy lb_X11_deedBy_36 (P := True) (pc' := if (lg_cmp a0 435644818802) = 0 then 44 else 48) (ls' := [some (.long a0), none]) (st' := []) (M' := M) rfl rfl trivial ?_
        refine hr_Gif h (fun _ h => ?_) (fun _ h => ?_)
        · refine hr_Grun mf_X11_deedBy lb_X11_deedBy_44 (P := True) (pc' := 73) (ls' := [some (.long a0), none]) (st' := [.int 3]) (M' := M) rfl rfl trivial ?_
          cases h
          exact hr_Gret mf_X11_deedBy lb_X11_deedBy_73 rfl rfl trivial
        · refine hr_Grun mf_X11_deedBy lb_X11_deedBy_48 (P := True) (pc' := if (lg_cmp a0 465557354085) = 0 then 56 else 60) (ls' := [some (.long a0), none]) (st' := []) (M' := M) rfl rfl trivial ?_
          refine hr_Gif h (fun _ h => ?_) (fun _ h => ?_)
          · refine hr_Grun mf_X11_deedBy lb_X11_deedBy_56 (P := True) (pc' := 73) (ls' := [some (.long a0), none]) (st' := [.int 4]) (M' := M) rfl rfl trivial ?_
            cases h
            exact hr_Gret mf_X11_deedBy lb_X11_deedBy_73 rfl rfl trivial
          · refine hr_Grun mf_X11_deedBy lb_X11_deedBy_60 (P := True) (pc' := if (lg_cmp a0 1752135026) = 0 then 68 else 72) (ls' := [some (.long a0), none]) (st' := []) (M' := M) rfl rfl trivial ?_
            refine hr_Gif h (fun _ h => ?_) (fun _ h => ?_)
            · refine hr_Grun mf_X11_deedBy lb_X11_deedBy_68 (P := True) (pc' := 73) (ls' := [some (.long a0), none]) (st' := [.int 5]) (M' := M) rfl rfl trivial ?_
              cases h
              exact hr_Gret mf_X11_deedBy lb_X11_deedBy_73 rfl rfl trivial
            · refine hr_Grun mf_X11_deedBy lb_X11_deedBy_72 (P := True) (pc' := 73) (ls' := [some (.long a0), none]) (st' := [.int (-1)]) (M' := M) rfl rfl trivial ?_
              cases h
              exact hr_Gret mf_X11_deedBy lb_X11_deedBy_73 rfl rfl trivial
theorem mf_X11_deedNumbers : hr_mf 188 11 4 (some .boolean) 2 1 bk_X11_deedNumbers := ⟨rfl, rfl, rfl, rfl, rfl, rfl⟩
theorem lb_X11_deedNumbers_0 : bk_X11_deedNumbers.lookup 0 = some [(.iload_n 1, 1), (.tableswitch 132 0 4 #[35, 62, 71, 98, 124], 35)] := rfl
theorem lb_X11_deedNumbers_36 : bk_X11_deedNumbers.lookup 36 = some [(.aload_n 0, 1), (.iconst 1, 1), (.iconst 0, 1), (.bipush 8, 2)] := rfl
theorem lb_X11_deedNumbers_41 : bk_X11_deedNumbers.lookup 41 = some [(.invokevirtual 171, 3)] := rfl
theorem lb_X11_deedNumbers_44 : bk_X11_deedNumbers.lookup 44 = some [(.ifCond .eq 17, 3)] := rfl
theorem lb_X11_deedNumbers_47 : bk_X11_deedNumbers.lookup 47 = some [(.aload_n 0, 1), (.iconst 2, 1), (.iconst 0, 1), (.iconst 3, 1)] := rfl
theorem lb_X11_deedNumbers_51 : bk_X11_deedNumbers.lookup 51 = some [(.invokevirtual 171, 3)] := rfl
theorem lb_X11_deedNumbers_54 : bk_X11_deedNumbers.lookup 54 = some [(.ifCond .eq 7, 3)] := rfl
theorem lb_X11_deedNumbers_57 : bk_X11_deedNumbers.lookup 57 = some [(.iconst 1, 1), (.goto 4, 3)] := rfl
theorem lb_X11_deedNumbers_61 : bk_X11_deedNumbers.lookup 61 = some [(.iconst 0, 1)] := rfl
theorem lb_X11_deedNumbers_62 : bk_X11_deedNumbers.lookup 62 = some [(.ireturn, 1)] := rfl
theorem lb_X11_deedNumbers_63 : bk_X11_deedNumbers.lookup 63 = some [(.aload_n 0, 1), (.iconst 1, 1), (.iconst 0, 1), (.bipush 8, 2)] := rfl
theorem lb_X11_deedNumbers_68 : bk_X11_deedNumbers.lookup 68 = some [(.invokevirtual 171, 3)] := rfl
theorem lb_X11_deedNumbers_71 : bk_X11_deedNumbers.lookup 71 = some [(.ireturn, 1)] := rfl
theorem lb_X11_deedNumbers_72 : bk_X11_deedNumbers.lookup 72 = some [(.aload_n 0, 1), (.iconst 1, 1), (.iconst 0, 1), (.iconst 5, 1)] := rfl
theorem lb_X11_deedNumbers_76 : bk_X11_deedNumbers.lookup 76 = some [(.invokevirtual 171, 3)] := rfl
theorem lb_X11_deedNumbers_79 : bk_X11_deedNumbers.lookup 79 = some [(.ifCond .eq 18, 3)] := rfl
theorem lb_X11_deedNumbers_82 : bk_X11_deedNumbers.lookup 82 = some [(.aload_n 0, 1), (.iconst 2, 1), (.iconst 0, 1), (.bipush 9, 2)] := rfl
theorem lb_X11_deedNumbers_87 : bk_X11_deedNumbers.lookup 87 = some [(.invokevirtual 171, 3)] := rfl
theorem lb_X11_deedNumbers_90 : bk_X11_deedNumbers.lookup 90 = some [(.ifCond .eq 7, 3)] := rfl
theorem lb_X11_deedNumbers_93 : bk_X11_deedNumbers.lookup 93 = some [(.iconst 1, 1), (.goto 4, 3)] := rfl
theorem lb_X11_deedNumbers_97 : bk_X11_deedNumbers.lookup 97 = some [(.iconst 0, 1)] := rfl
theorem lb_X11_deedNumbers_98 : bk_X11_deedNumbers.lookup 98 = some [(.ireturn, 1)] := rfl
theorem lb_X11_deedNumbers_99 : bk_X11_deedNumbers.lookup 99 = some [(.aload_n 0, 1), (.iconst 1, 1), (.iconst 0, 1), (.iconst 5, 1)] := rfl
theorem lb_X11_deedNumbers_103 : bk_X11_deedNumbers.lookup 103 = some [(.invokevirtual 171, 3)] := rfl
theorem lb_X11_deedNumbers_106 : bk_X11_deedNumbers.lookup 106 = some [(.ifCond .eq 17, 3)] := rfl
theorem lb_X11_deedNumbers_109 : bk_X11_deedNumbers.lookup 109 = some [(.aload_n 0, 1), (.iconst 2, 1), (.iconst 0, 1), (.iconst 3, 1)] := rfl
theorem lb_X11_deedNumbers_113 : bk_X11_deedNumbers.lookup 113 = some [(.invokevirtual 171, 3)] := rfl
theorem lb_X11_deedNumbers_116 : bk_X11_deedNumbers.lookup 116 = some [(.ifCond .eq 7, 3)] := rfl
theorem lb_X11_deedNumbers_119 : bk_X11_deedNumbers.lookup 119 = some [(.iconst 1, 1), (.goto 4, 3)] := rfl
theorem lb_X11_deedNumbers_123 : bk_X11_deedNumbers.lookup 123 = some [(.iconst 0, 1)] := rfl
theorem lb_X11_deedNumbers_124 : bk_X11_deedNumbers.lookup 124 = some [(.ireturn, 1)] := rfl
theorem lb_X11_deedNumbers_125 : bk_X11_deedNumbers.lookup 125 = some [(.aload_n 0, 1), (.iconst 1, 1), (.iconst 0, 1), (.iconst 5, 1)] := rfl
theorem lb_X11_deedNumbers_129 : bk_X11_deedNumbers.lookup 129 = some [(.invokevirtual 171, 3)] := rfl
theorem lb_X11_deedNumbers_132 : bk_X11_deedNumbers.lookup 132 = some [(.ireturn, 1)] := rfl
theorem lb_X11_deedNumbers_133 : bk_X11_deedNumbers.lookup 133 = some [(.iconst 1, 1)] := rfl
theorem lb_X11_deedNumbers_134 : bk_X11_deedNumbers.lookup 134 = some [(.ireturn, 1)] := rfl
def f_X11_deedNumbers (a1 : Int32) (M : PM) : Option (Int32 × PM) :=
  if a1 = 0 then
    hr_bd (f_X11_take 1 0 8 M) (fun v3 M3 =>
    if v3 = 0 then
      some (0, M3)
    else
      hr_bd (f_X11_take 2 0 3 M3) (fun v7 M7 =>
      if v7 = 0 then
        some (0, M7)
      else
        some (1, M7)))
  else if a1 = 1 then
    hr_bd (f_X11_take 1 0 8 M) (fun v12 M12 =>
    if v12 = 0 ∨ v12 = 1 then some (v12, M12) else none)
  else if a1 = 2 then
    hr_bd (f_X11_take 1 0 5 M) (fun v14 M14 =>
    if v14 = 0 then
      some (0, M14)
    else
      hr_bd (f_X11_take 2 0 9 M14) (fun v18 M18 =>
      if v18 = 0 then
        some (0, M18)
      else
        some (1, M18)))
  else if a1 = 3 then
    hr_bd (f_X11_take 1 0 5 M) (fun v23 M23 =>
    if v23 = 0 then
      some (0, M23)
    else
      hr_bd (f_X11_take 2 0 3 M23) (fun v27 M27 =>
      if v27 = 0 then
        some (0, M27)
      else
        some (1, M27)))
  else if a1 = 4 then
    hr_bd (f_X11_take 1 0 5 M) (fun v32 M32 =>
    if v32 = 0 ∨ v32 = 1 then some (v32, M32) else none)
  else 
    some (1, M)
theorem g_X11_deedNumbers (a1 : Int32) : ∀ (M : PM) (r : Int32 × PM), f_X11_deedNumbers a1 M = some r → hr_G 188 0 [some (.ref 275), some (.int a1)] [] M (some (.int r.1), r.2) := by
  intro M r h
  unfold f_X11_deedNumbers at h
  refine hr_Grun mf_X11_deedNumbers lb_X11_deedNumbers_0 (P := True) (pc' := if a1 = 0 then 36 else if a1 = 1 then 63 else if a1 = 2 then 72 else if a1 = 3 then 99 else if a1 = 4 then 125 else 133) (ls' := [some (.ref 275), some (.int a1)]) (st' := []) (M' := M) rfl rfl trivial ?_
  refine hr_Gif h (fun _ h => ?_) (fun _ h => ?_)
  · refine hr_Grun mf_X11_deedNumbers lb_X11_deedNumbers_36 (P := True) (pc' := 41) (ls' := [some (.ref 275), some (.int a1)]) (st' := [.int 8, .int 0, .int 1, .ref 275]) (M' := M) rfl rfl trivial ?_
    refine hr_Fb h (fun v3 M3 e3 h => ?_)
    refine hr_Gcv mf_X11_deedNumbers mf_X11_take lb_X11_deedNumbers_41 (b := 275) (as := [.int 1, .int 0, .int 8]) (rest := []) (st2 := [.int v3]) (v := some (.int v3)) (M1 := M3) rfl rfl rfl rfl rfl rfl K_275 (g_X11_take 1 0 8 _ _ e3) rfl rfl ?_
    refine hr_Grun mf_X11_deedNumbers lb_X11_deedNumbers_44 (P := True) (pc' := if v3 = 0 then 61 else 47) (ls' := [some (.ref 275), some (.int a1)]) (st' := []) (M' := M3) rfl rfl trivial ?_
    refine hr_Gif h (fun _ h => ?_) (fun _ h => ?_)
    · refine hr_Grun mf_X11_deedNumbers lb_X11_deedNumbers_61 (P := True) (pc' := 62) (ls' := [some (.ref 275), some (.int a1)]) (st' := [.int 0]) (M' := M3) rfl rfl trivial ?_
      cases h
      exact hr_Gret mf_X11_deedNumbers lb_X11_deedNumbers_62 rfl rfl (Or.inl rfl)
    · refine hr_Grun mf_X11_deedNumbers lb_X11_deedNumbers_47 (P := True) (pc' := 51) (ls' := [some (.ref 275), some (.int a1)]) (st' := [.int 3, .int 0, .int 2, .ref 275]) (M' := M3) rfl rfl trivial ?_
      refine hr_Fb h (fun v7 M7 e7 h => ?_)
      refine hr_Gcv mf_X11_deedNumbers mf_X11_take lb_X11_deedNumbers_51 (b := 275) (as := [.int 2, .int 0, .int 3]) (rest := []) (st2 := [.int v7]) (v := some (.int v7)) (M1 := M7) rfl rfl rfl rfl rfl rfl K_275 (g_X11_take 2 0 3 _ _ e7) rfl rfl ?_
      refine hr_Grun mf_X11_deedNumbers lb_X11_deedNumbers_54 (P := True) (pc' := if v7 = 0 then 61 else 57) (ls' := [some (.ref 275), some (.int a1)]) (st' := []) (M' := M7) rfl rfl trivial ?_
      refine hr_Gif h (fun _ h => ?_) (fun _ h => ?_)
      · refine hr_Grun mf_X11_deedNumbers lb_X11_deedNumbers_61 (P := True) (pc' := 62) (ls' := [some (.ref 275), some (.int a1)]) (st' := [.int 0]) (M' := M7) rfl rfl trivial ?_
        cases h
        exact hr_Gret mf_X11_deedNumbers lb_X11_deedNumbers_62 rfl rfl (Or.inl rfl)
      · refine hr_Grun mf_X11_deedNumbers lb_X11_deedNumbers_57 (P := True) (pc' := 62) (ls' := [some (.ref 275), some (.int a1)]) (st' := [.int 1]) (M' := M7) rfl rfl trivial ?_
        cases h
        exact hr_Gret mf_X11_deedNumbers lb_X11_deedNumbers_62 rfl rfl (Or.inr rfl)
  refine hr_Gif h (fun _ h => ?_) (fun _ h => ?_)
  · refine hr_Grun mf_X11_deedNumbers lb_X11_deedNumbers_63 (P := True) (pc' := 68) (ls' := [some (.ref 275), some (.int a1)]) (st' := [.int 8, .int 0, .int 1, .ref 275]) (M' := M) rfl rfl trivial ?_
    refine hr_Fb h (fun v12 M12 e12 h => ?_)
    refine hr_Gcv mf_X11_deedNumbers mf_X11_take lb_X11_deedNumbers_68 (b := 275) (as := [.int 1, .int 0, .int 8]) (rest := []) (st2 := [.int v12]) (v := some (.int v12)) (M1 := M12) rfl rfl rfl rfl rfl rfl K_275 (g_X11_take 1 0 8 _ _ e12) rfl rfl ?_
    refine hr_Fg h (fun hz h => ?_)
    cases h
    exact hr_Gret mf_X11_deedNumbers lb_X11_deedNumbers_71 rfl rfl hz
  refine hr_Gif h (fun _ h => ?_) (fun _ h => ?_)
  · refine hr_Grun mf_X11_deedNumbers lb_X11_deedNumbers_72 (P := True) (pc' := 76) (ls' := [some (.ref 275), some (.int a1)]) (st' := [.int 5, .int 0, .int 1, .ref 275]) (M' := M) rfl rfl trivial ?_
    refine hr_Fb h (fun v14 M14 e14 h => ?_)
    refine hr_Gcv mf_X11_deedNumbers mf_X11_take lb_X11_deedNumbers_76 (b := 275) (as := [.int 1, .int 0, .int 5]) (rest := []) (st2 := [.int v14]) (v := some (.int v14)) (M1 := M14) rfl rfl rfl rfl rfl rfl K_275 (g_X11_take 1 0 5 _ _ e14) rfl rfl ?_
    refine hr_Grun mf_X11_deedNumbers lb_X11_deedNumbers_79 (P := True) (pc' := if v14 = 0 then 97 else 82) (ls' := [some (.ref 275), some (.int a1)]) (st' := []) (M' := M14) rfl rfl trivial ?_
    refine hr_Gif h (fun _ h => ?_) (fun _ h => ?_)
    · refine hr_Grun mf_X11_deedNumbers lb_X11_deedNumbers_97 (P := True) (pc' := 98) (ls' := [some (.ref 275), some (.int a1)]) (st' := [.int 0]) (M' := M14) rfl rfl trivial ?_
      cases h
      exact hr_Gret mf_X11_deedNumbers lb_X11_deedNumbers_98 rfl rfl (Or.inl rfl)
    · refine hr_Grun mf_X11_deedNumbers lb_X11_deedNumbers_82 (P := True) (pc' := 87) (ls' := [some (.ref 275), some (.int a1)]) (st' := [.int 9, .int 0, .int 2, .ref 275]) (M' := M14) rfl rfl trivial ?_
      refine hr_Fb h (fun v18 M18 e18 h => ?_)
      refine hr_Gcv mf_X11_deedNumbers mf_X11_take lb_X11_deedNumbers_87 (b := 275) (as := [.int 2, .int 0, .int 9]) (rest := []) (st2 := [.int v18]) (v := some (.int v18)) (M1 := M18) rfl rfl rfl rfl rfl rfl K_275 (g_X11_take 2 0 9 _ _ e18) rfl rfl ?_
      refine hr_Grun mf_X11_deedNumbers lb_X11_deedNumbers_90 (P := True) (pc' := if v18 = 0 then 97 else 93) (ls' := [some (.ref 275), some (.int a1)]) (st' := []) (M' := M18) rfl rfl trivial ?_
      refine hr_Gif h (fun _ h => ?_) (fun _ h => ?_)
      · refine hr_Grun mf_X11_deedNumbers lb_X11_deedNumbers_97 (P := True) (pc' := 98) (ls' := [some (.ref 275), some (.int a1)]) (st' := [.int 0]) (M' := M18) rfl rfl trivial ?_
        cases h
        exact hr_Gret mf_X11_deedNumbers lb_X11_deedNumbers_98 rfl rfl (Or.inl rfl)
      · refine hr_Grun mf_X11_deedNumbers lb_X11_deedNumbers_93 (P := True) (pc' := 98) (ls' := [some (.ref 275), some (.int a1)]) (st' := [.int 1]) (M' := M18) rfl rfl trivial ?_
        cases h
        exact hr_Gret mf_X11_deedNumbers lb_X11_deedNumbers_98 rfl rfl (Or.inr rfl)
  refine hr_Gif h (fun _ h => ?_) (fun _ h => ?_)
  · refine hr_Grun mf_X11_deedNumbers lb_X11_deedNumbers_99 (P := True) (pc' := 103) (ls' := [some (.ref 275), some (.int a1)]) (st' := [.int 5, .int 0, .int 1, .ref 275]) (M' := M) rfl rfl trivial ?_
    refine hr_Fb h (fun v23 M23 e23 h => ?_)
    refine hr_Gcv mf_X11_deedNumbers mf_X11_take lb_X11_deedNumbers_103 (b := 275) (as := [.int 1, .int 0, .int 5]) (rest := []) (st2 := [.int v23]) (v := some (.int v23)) (M1 := M23) rfl rfl rfl rfl rfl rfl K_275 (g_X11_take 1 0 5 _ _ e23) rfl rfl ?_
    refine hr_Grun mf_X11_deedNumbers lb_X11_deedNumbers_106 (P := True) (pc' := if v23 = 0 then 123 else 109) (ls' := [some (.ref 275), some (.int a1)]) (st' := []) (M' := M23) rfl rfl trivial ?_
    refine hr_Gif h (fun _ h => ?_) (fun _ h => ?_)
    · refine hr_Grun mf_X11_deedNumbers lb_X11_deedNumbers_123 (P := True) (pc' := 124) (ls' := [some (.ref 275), some (.int a1)]) (st' := [.int 0]) (M' := M23) rfl rfl trivial ?_
      cases h
      exact hr_Gret mf_X11_deedNumbers lb_X11_deedNumbers_124 rfl rfl (Or.inl rfl)
    · refine hr_Grun mf_X11_deedNumbers lb_X11_deedNumbers_109 (P := True) (pc' := 113) (ls' := [some (.ref 275), some (.int a1)]) (st' := [.int 3, .int 0, .int 2, .ref 275]) (M' := M23) rfl rfl trivial ?_
      refine hr_Fb h (fun v27 M27 e27 h => ?_)
      refine hr_Gcv mf_X11_deedNumbers mf_X11_take lb_X11_deedNumbers_113 (b := 275) (as := [.int 2, .int 0, .int 3]) (rest := []) (st2 := [.int v27]) (v := some (.int v27)) (M1 := M27) rfl rfl rfl rfl rfl rfl K_275 (g_X11_take 2 0 3 _ _ e27) rfl rfl ?_
      refine hr_Grun mf_X11_deedNumbers lb_X11_deedNumbers_116 (P := True) (pc' := if v27 = 0 then 123 else 119) (ls' := [some (.ref 275), some (.int a1)]) (st' := []) (M' := M27) rfl rfl trivial ?_
      refine hr_Gif h (fun _ h => ?_) (fun _ h => ?_)
      · refine hr_Grun mf_X11_deedNumbers lb_X11_deedNumbers_123 (P := True) (pc' := 124) (ls' := [some (.ref 275), some (.int a1)]) (st' := [.int 0]) (M' := M27) rfl rfl trivial ?_
        cases h
        exact hr_Gret mf_X11_deedNumbers lb_X11_deedNumbers_124 rfl rfl (Or.inl rfl)
      · refine hr_Grun mf_X11_deedNumbers lb_X11_deedNumbers_119 (P := True) (pc' := 124) (ls' := [some (.ref 275), some (.int a1)]) (st' := [.int 1]) (M' := M27) rfl rfl trivial ?_
        cases h
        exact hr_Gret mf_X11_deedNumbers lb_X11_deedNumbers_124 rfl rfl (Or.inr rfl)
  refine hr_Gif h (fun _ h => ?_) (fun _ h => ?_)
  · refine hr_Grun mf_X11_deedNumbers lb_X11_deedNumbers_125 (P := True) (pc' := 129) (ls' := [some (.ref 275), some (.int a1)]) (st' := [.int 5, .int 0, .int 1, .ref 275]) (M' := M) rfl rfl trivial ?_
    refine hr_Fb h (fun v32 M32 e32 h => ?_)
    refine hr_Gcv mf_X11_deedNumbers mf_X11_take lb_X11_deedNumbers_129 (b := 275) (as := [.int 1, .int 0, .int 5]) (rest := []) (st2 := [.int v32]) (v := some (.int v32)) (M1 := M32) rfl rfl rfl rfl rfl rfl K_275 (g_X11_take 1 0 5 _ _ e32) rfl rfl ?_
    refine hr_Fg h (fun hz h => ?_)
    cases h
    exact hr_Gret mf_X11_deedNumbers lb_X11_deedNumbers_132 rfl rfl hz
  · refine hr_Grun mf_X11_deedNumbers lb_X11_deedNumbers_133 (P := True) (pc' := 134) (ls' := [some (.ref 275), some (.int a1)]) (st' := [.int 1]) (M' := M) rfl rfl trivial ?_
    cases h
    exact hr_Gret mf_X11_deedNumbers lb_X11_deedNumbers_134 rfl rfl (Or.inr rfl)
theorem mf_X11_dayLine : hr_mf 189 11 5 (some .boolean) 5 2 bk_X11_dayLine := ⟨rfl, rfl, rfl, rfl, rfl, rfl⟩
theorem lb_X11_dayLine_0 : bk_X11_dayLine.lookup 0 = some [(.lload_n 1, 1)] := rfl
theorem lb_X11_dayLine_1 : bk_X11_dayLine.lookup 1 = some [(.invokestatic 229, 3)] := rfl
theorem lb_X11_dayLine_4 : bk_X11_dayLine.lookup 4 = some [(.istore 4, 2), (.iload 4, 2), (.iconst (-1), 1), (.if_icmp .ne 8, 3)] := rfl
theorem lb_X11_dayLine_12 : bk_X11_dayLine.lookup 12 = some [(.aload_n 0, 1)] := rfl
theorem lb_X11_dayLine_13 : bk_X11_dayLine.lookup 13 = some [(.invokevirtual 152, 3)] := rfl
theorem lb_X11_dayLine_16 : bk_X11_dayLine.lookup 16 = some [(.ireturn, 1)] := rfl
theorem lb_X11_dayLine_17 : bk_X11_dayLine.lookup 17 = some [(.aload_n 0, 1), (.iconst 0, 1), (.bipush 40, 2), (.iload_n 3, 1)] := rfl
theorem lb_X11_dayLine_22 : bk_X11_dayLine.lookup 22 = some [(.invokevirtual 199, 3)] := rfl
theorem lb_X11_dayLine_25 : bk_X11_dayLine.lookup 25 = some [(.aload_n 0, 1)] := rfl
theorem lb_X11_dayLine_26 : bk_X11_dayLine.lookup 26 = some [(.invokevirtual 164, 3)] := rfl
theorem lb_X11_dayLine_29 : bk_X11_dayLine.lookup 29 = some [(.aload_n 0, 1), (.getfield 44, 3), (.iconst 1, 1), (.iconst (-1), 1), (.iastore, 1), (.aload_n 0, 1), (.getfield 44, 3), (.iconst 2, 1), (.iconst (-1), 1), (.iastore, 1), (.aload_n 0, 1), (.iload 4, 2)] := rfl
theorem lb_X11_dayLine_46 : bk_X11_dayLine.lookup 46 = some [(.invokevirtual 233, 3)] := rfl
theorem lb_X11_dayLine_49 : bk_X11_dayLine.lookup 49 = some [(.ifCond .ne 5, 3)] := rfl
theorem lb_X11_dayLine_52 : bk_X11_dayLine.lookup 52 = some [(.iconst 0, 1)] := rfl
theorem lb_X11_dayLine_53 : bk_X11_dayLine.lookup 53 = some [(.ireturn, 1)] := rfl
theorem lb_X11_dayLine_54 : bk_X11_dayLine.lookup 54 = some [(.aload_n 0, 1), (.getfield 44, 3), (.iconst 0, 1), (.iload 4, 2), (.iastore, 1), (.aload_n 0, 1), (.iconst 0, 1), (.iconst 1, 1), (.iconst 3, 1), (.bipush 40, 2)] := rfl
theorem lb_X11_dayLine_68 : bk_X11_dayLine.lookup 68 = some [(.invokevirtual 174, 3)] := rfl
theorem lb_X11_dayLine_71 : bk_X11_dayLine.lookup 71 = some [(.iconst 1, 1)] := rfl
theorem lb_X11_dayLine_72 : bk_X11_dayLine.lookup 72 = some [(.ireturn, 1)] := rfl
def f_X11_dayLine (a1 : Int64) (a3 : Int32) (M : PM) : Option (Int32 × PM) :=
  hr_bd (f_X11_deedBy a1 M) (fun v2 M2 =>
  if v2 = (-1) then
    hr_bd (f_X11_fails M2) (fun v5 M5 =>
    if v5 = 0 ∨ v5 = 1 then some (v5, M5) else none)
  else
    hr_bd (f_X11_full 0 40 a3 M2) (fun v7 M7 =>
    hr_bd (f_X11_token M7) (fun v9 M9 =>
    if inB 1 4 = true then if inB 2 4 = true then 
    hr_bd (f_X11_deedNumbers v2 (hr_si (hr_si M9 287 (1 : Int32).toNatClampNeg (-1)) 287 (2 : Int32).toNatClampNeg (-1))) (fun v11 M11 =>
    if v11 = 0 then
      some (0, M11)
    else
      if inB 0 4 = true then 
      hr_bd (f_X11_keep 0 1 3 40 (hr_si M11 287 (0 : Int32).toNatClampNeg v2)) (fun v15 M15 =>
      some (1, M15)) else none) else none else none)))
theorem g_X11_dayLine (a1 : Int64) (a3 : Int32) : ∀ (M : PM) (r : Int32 × PM), f_X11_dayLine a1 a3 M = some r → hr_G 189 0 [some (.ref 275), some (.long a1), none, some (.int a3), none] [] M (some (.int r.1), r.2) := by
  intro M r h
  unfold f_X11_dayLine at h
  refine hr_Grun mf_X11_dayLine lb_X11_dayLine_0 (P := True) (pc' := 1) (ls' := [some (.ref 275), some (.long a1), none, some (.int a3), none]) (st' := [.long a1]) (M' := M) rfl rfl trivial ?_
  refine hr_Fb h (fun v2 M2 e2 h => ?_)
  refine hr_Gcs mf_X11_dayLine mf_X11_deedBy lb_X11_dayLine_1 (as := [.long a1]) (rest := []) (st2 := [.int v2]) (v := some (.int v2)) (M1 := M2) rfl rfl rfl rfl rfl rfl (g_X11_deedBy a1 _ _ e2) rfl rfl ?_
  refine hr_Grun mf_X11_dayLine lb_X11_dayLine_4 (P := True) (pc' := if v2 = (-1) then 12 else 17) (ls' := [some (.ref 275), some (.long a1), none, some (.int a3), some (.int v2)]) (st' := []) (M' := M2) rfl rfl trivial ?_
  refine hr_Gif h (fun _ h => ?_) (fun _ h => ?_)
  · refine hr_Grun mf_X11_dayLine lb_X11_dayLine_12 (P := True) (pc' := 13) (ls' := [some (.ref 275), some (.long a1), none, some (.int a3), some (.int v2)]) (st' := [.ref 275]) (M' := M2) rfl rfl trivial ?_
    refine hr_Fb h (fun v5 M5 e5 h => ?_)
    refine hr_Gcv mf_X11_dayLine mf_X11_fails lb_X11_dayLine_13 (b := 275) (as := []) (rest := []) (st2 := [.int v5]) (v := some (.int v5)) (M1 := M5) rfl rfl rfl rfl rfl rfl K_275 (g_X11_fails  _ _ e5) rfl rfl ?_
    refine hr_Fg h (fun hz h => ?_)
    cases h
    exact hr_Gret mf_X11_dayLine lb_X11_dayLine_16 rfl rfl hz
  · refine hr_Grun mf_X11_dayLine lb_X11_dayLine_17 (P := True) (pc' := 22) (ls' := [some (.ref 275), some (.long a1), none, some (.int a3), some (.int v2)]) (st' := [.int a3, .int 40, .int 0, .ref 275]) (M' := M2) rfl rfl trivial ?_
    refine hr_Fb h (fun v7 M7 e7 h => ?_)
    refine hr_Gcv mf_X11_dayLine mf_X11_full lb_X11_dayLine_22 (b := 275) (as := [.int 0, .int 40, .int a3]) (rest := []) (st2 := []) (v := none) (M1 := M7) rfl rfl rfl rfl rfl rfl K_275 (g_X11_full 0 40 a3 _ _ e7) rfl rfl ?_
    refine hr_Grun mf_X11_dayLine lb_X11_dayLine_25 (P := True) (pc' := 26) (ls' := [some (.ref 275), some (.long a1), none, some (.int a3), some (.int v2)]) (st' := [.ref 275]) (M' := M7) rfl rfl trivial ?_
    refine hr_Fb h (fun v9 M9 e9 h => ?_)
    refine hr_Gcv mf_X11_dayLine mf_X11_token lb_X11_dayLine_26 (b := 275) (as := []) (rest := []) (st2 := []) (v := none) (M1 := M9) rfl rfl rfl rfl rfl rfl K_275 (g_X11_token  _ _ e9) rfl rfl ?_
    refine hr_Fg h (fun hg10_0 h => ?_)
    refine hr_Fg h (fun hg10_1 h => ?_)
    refine hr_Grun mf_X11_dayLine lb_X11_dayLine_29 (P := hr_K 275 = 10 ∧ ((hr_K 287 = 12 ∧ 287 < hr_n) ∧ vp_in 1 (hr_N 287)) ∧ hr_K 275 = 10 ∧ ((hr_K 287 = 12 ∧ 287 < hr_n) ∧ vp_in 2 (hr_N 287)) ∧ True) (pc' := 46) (ls' := [some (.ref 275), some (.long a1), none, some (.int a3), some (.int v2)]) (st' := [.int v2, .ref 275]) (M' := hr_si (hr_si M9 287 (1 : Int32).toNatClampNeg (-1)) 287 (2 : Int32).toNatClampNeg (-1)) rfl rfl ⟨K_275, ⟨⟨K_287, L_287⟩, (inB_N N_287 hg10_0)⟩, K_275, ⟨⟨K_287, L_287⟩, (inB_N N_287 hg10_1)⟩, trivial⟩ ?_
    refine hr_Fb h (fun v11 M11 e11 h => ?_)
    refine hr_Gcv mf_X11_dayLine mf_X11_deedNumbers lb_X11_dayLine_46 (b := 275) (as := [.int v2]) (rest := []) (st2 := [.int v11]) (v := some (.int v11)) (M1 := M11) rfl rfl rfl rfl rfl rfl K_275 (g_X11_deedNumbers v2 _ _ e11) rfl rfl ?_
    refine hr_Grun mf_X11_dayLine lb_X11_dayLine_49 (P := True) (pc' := if v11 = 0 then 52 else 54) (ls' := [some (.ref 275), some (.long a1), none, some (.int a3), some (.int v2)]) (st' := []) (M' := M11) rfl rfl trivial ?_
    refine hr_Gif h (fun _ h => ?_) (fun _ h => ?_)
    · refine hr_Grun mf_X11_dayLine lb_X11_dayLine_52 (P := True) (pc' := 53) (ls' := [some (.ref 275), some (.long a1), none, some (.int a3), some (.int v2)]) (st' := [.int 0]) (M' := M11) rfl rfl trivial ?_
      cases h
      exact hr_Gret mf_X11_dayLine lb_X11_dayLine_53 rfl rfl (Or.inl rfl)
    · refine hr_Fg h (fun hg14_0 h => ?_)
      refine hr_Grun mf_X11_dayLine lb_X11_dayLine_54 (P := hr_K 275 = 10 ∧ ((hr_K 287 = 12 ∧ 287 < hr_n) ∧ vp_in 0 (hr_N 287)) ∧ True) (pc' := 68) (ls' := [some (.ref 275), some (.long a1), none, some (.int a3), some (.int v2)]) (st' := [.int 40, .int 3, .int 1, .int 0, .ref 275]) (M' := hr_si M11 287 (0 : Int32).toNatClampNeg v2) rfl rfl ⟨K_275, ⟨⟨K_287, L_287⟩, (inB_N N_287 hg14_0)⟩, trivial⟩ ?_
      refine hr_Fb h (fun v15 M15 e15 h => ?_)
      refine hr_Gcv mf_X11_dayLine mf_X11_keep lb_X11_dayLine_68 (b := 275) (as := [.int 0, .int 1, .int 3, .int 40]) (rest := []) (st2 := []) (v := none) (M1 := M15) rfl rfl rfl rfl rfl rfl K_275 (g_X11_keep 0 1 3 40 _ _ e15) rfl rfl ?_
      refine hr_Grun mf_X11_dayLine lb_X11_dayLine_71 (P := True) (pc' := 72) (ls' := [some (.ref 275), some (.long a1), none, some (.int a3), some (.int v2)]) (st' := [.int 1]) (M' := M15) rfl rfl trivial ?_
      cases h
      exact hr_Gret mf_X11_dayLine lb_X11_dayLine_72 rfl rfl (Or.inr rfl)
theorem mf_X11_sightLine : hr_mf 190 11 4 (some .boolean) 4 2 bk_X11_sightLine := ⟨rfl, rfl, rfl, rfl, rfl, rfl⟩
theorem lb_X11_sightLine_0 : bk_X11_sightLine.lookup 0 = some [(.lload_n 1, 1), (.ldc2_w 236, 3), (.lcmp, 1), (.ifCond .eq 16, 3)] := rfl
theorem lb_X11_sightLine_8 : bk_X11_sightLine.lookup 8 = some [(.lload_n 1, 1), (.ldc2_w 238, 3), (.lcmp, 1), (.ifCond .eq 8, 3)] := rfl
theorem lb_X11_sightLine_16 : bk_X11_sightLine.lookup 16 = some [(.aload_n 0, 1)] := rfl
theorem lb_X11_sightLine_17 : bk_X11_sightLine.lookup 17 = some [(.invokevirtual 152, 3)] := rfl
theorem lb_X11_sightLine_20 : bk_X11_sightLine.lookup 20 = some [(.ireturn, 1)] := rfl
theorem lb_X11_sightLine_21 : bk_X11_sightLine.lookup 21 = some [(.aload_n 0, 1), (.iconst 0, 1), (.bipush 12, 2), (.iload_n 3, 1)] := rfl
theorem lb_X11_sightLine_26 : bk_X11_sightLine.lookup 26 = some [(.invokevirtual 199, 3)] := rfl
theorem lb_X11_sightLine_29 : bk_X11_sightLine.lookup 29 = some [(.aload_n 0, 1)] := rfl
theorem lb_X11_sightLine_30 : bk_X11_sightLine.lookup 30 = some [(.invokevirtual 164, 3)] := rfl
theorem lb_X11_sightLine_33 : bk_X11_sightLine.lookup 33 = some [(.aload_n 0, 1), (.iconst 1, 1), (.iconst 0, 1), (.bipush 9, 2)] := rfl
theorem lb_X11_sightLine_38 : bk_X11_sightLine.lookup 38 = some [(.invokevirtual 171, 3)] := rfl
theorem lb_X11_sightLine_41 : bk_X11_sightLine.lookup 41 = some [(.ifCond .eq 20, 3)] := rfl
theorem lb_X11_sightLine_44 : bk_X11_sightLine.lookup 44 = some [(.aload_n 0, 1), (.iconst 2, 1), (.iconst 0, 1), (.bipush 9, 2), (.aload_n 0, 1), (.getfield 44, 3), (.iconst 1, 1), (.iaload, 1)] := rfl
theorem lb_X11_sightLine_55 : bk_X11_sightLine.lookup 55 = some [(.invokevirtual 167, 3)] := rfl
theorem lb_X11_sightLine_58 : bk_X11_sightLine.lookup 58 = some [(.ifCond .ne 5, 3)] := rfl
theorem lb_X11_sightLine_61 : bk_X11_sightLine.lookup 61 = some [(.iconst 0, 1)] := rfl
theorem lb_X11_sightLine_62 : bk_X11_sightLine.lookup 62 = some [(.ireturn, 1)] := rfl
theorem lb_X11_sightLine_63 : bk_X11_sightLine.lookup 63 = some [(.aload_n 0, 1), (.getfield 44, 3), (.iconst 0, 1), (.lload_n 1, 1), (.ldc2_w 236, 3), (.lcmp, 1), (.ifCond .ne 7, 3)] := rfl
theorem lb_X11_sightLine_76 : bk_X11_sightLine.lookup 76 = some [(.iconst 1, 1), (.goto 4, 3)] := rfl
theorem lb_X11_sightLine_80 : bk_X11_sightLine.lookup 80 = some [(.iconst 0, 1)] := rfl
theorem lb_X11_sightLine_81 : bk_X11_sightLine.lookup 81 = some [(.iastore, 1), (.aload_n 0, 1), (.iconst 0, 1), (.iconst 1, 1), (.iconst 3, 1), (.bipush 12, 2)] := rfl
theorem lb_X11_sightLine_88 : bk_X11_sightLine.lookup 88 = some [(.invokevirtual 174, 3)] := rfl
theorem lb_X11_sightLine_91 : bk_X11_sightLine.lookup 91 = some [(.iconst 1, 1)] := rfl
theorem lb_X11_sightLine_92 : bk_X11_sightLine.lookup 92 = some [(.ireturn, 1)] := rfl
def f_X11_sightLine_81 (a1 : Int64) (a3 : Int32) (s0 : Int32) (s1 : Int32) (M : PM) : Option (Int32 × PM) :=
  if inB s1 4 = true then 
  hr_bd (f_X11_keep 0 1 3 12 (hr_si M 287 s1.toNatClampNeg s0)) (fun v2 M2 =>
  some (1, M2)) else none
theorem g_X11_sightLine_81 (a1 : Int64) (a3 : Int32)  : ∀ (s0 : Int32) (s1 : Int32) (M : PM) (r : Int32 × PM), f_X11_sightLine_81 a1 a3 s0 s1 M = some r → hr_G 190 81 [some (.ref 275), none, none, none] [.int s0, .int s1, .ref 287] M (some (.int r.1), r.2) := by
  intro s0 s1 M r h
  unfold f_X11_sightLine_81 at h
  refine hr_Fg h (fun hg1_0 h => ?_)
  refine hr_Grun mf_X11_sightLine lb_X11_sightLine_81 (P := ((hr_K 287 = 12 ∧ 287 < hr_n) ∧ vp_in s1 (hr_N 287)) ∧ True) (pc' := 88) (ls' := [some (.ref 275), none, none, none]) (st' := [.int 12, .int 3, .int 1, .int 0, .ref 275]) (M' := hr_si M 287 s1.toNatClampNeg s0) rfl rfl ⟨⟨⟨K_287, L_287⟩, (inB_N N_287 hg1_0)⟩, trivial⟩ ?_
  refine hr_Fb h (fun v2 M2 e2 h => ?_)
  refine hr_Gcv mf_X11_sightLine mf_X11_keep lb_X11_sightLine_88 (b := 275) (as := [.int 0, .int 1, .int 3, .int 12]) (rest := []) (st2 := []) (v := none) (M1 := M2) rfl rfl rfl rfl rfl rfl K_275 (g_X11_keep 0 1 3 12 _ _ e2) rfl rfl ?_
  refine hr_Grun mf_X11_sightLine lb_X11_sightLine_91 (P := True) (pc' := 92) (ls' := [some (.ref 275), none, none, none]) (st' := [.int 1]) (M' := M2) rfl rfl trivial ?_
  cases h
  exact hr_Gret mf_X11_sightLine lb_X11_sightLine_92 rfl rfl (Or.inr rfl)
def f_X11_sightLine_21 (a1 : Int64) (a3 : Int32) (M : PM) : Option (Int32 × PM) :=
  hr_bd (f_X11_full 0 12 a3 M) (fun v2 M2 =>
  hr_bd (f_X11_token M2) (fun v4 M4 =>
  hr_bd (f_X11_take 1 0 9 M4) (fun v6 M6 =>
  if v6 = 0 then
    some (0, M6)
  else
    if inB 1 4 = true then 
    hr_bd (f_X11_takeBut 2 0 9 (M6.1 287 (1 : Int32).toNatClampNeg) M6) (fun v10 M10 =>
    if v10 = 0 then
      some (0, M10)
    else
      if (lg_cmp a1 32491004094997860) = 0 then
        f_X11_sightLine_81 a1 a3 1 0 M10
      else
        f_X11_sightLine_81 a1 a3 0 0 M10) else none)))
theorem g_X11_sightLine_21 (a1 : Int64) (a3 : Int32)  : ∀ (M : PM) (r : Int32 × PM), f_X11_sightLine_21 a1 a3 M = some r → hr_G 190 21 [some (.ref 275), some (.long a1), none, some (.int a3)] [] M (some (.int r.1), r.2) := by
  intro M r h
  unfold f_X11_sightLine_21 at h
  refine hr_Grun mf_X11_sightLine lb_X11_sightLine_21 (P := True) (pc' := 26) (ls' := [some (.ref 275), some (.long a1), none, some (.int a3)]) (st' := [.int a3, .int 12, .int 0, .ref 275]) (M' := M) rfl rfl trivial ?_
  refine hr_Fb h (fun v2 M2 e2 h => ?_)
  refine hr_Gcv mf_X11_sightLine mf_X11_full lb_X11_sightLine_26 (b := 275) (as := [.int 0, .int 12, .int a3]) (rest := []) (st2 := []) (v := none) (M1 := M2) rfl rfl rfl rfl rfl rfl K_275 (g_X11_full 0 12 a3 _ _ e2) rfl rfl ?_
  refine hr_Grun mf_X11_sightLine lb_X11_sightLine_29 (P := True) (pc' := 30) (ls' := [some (.ref 275), some (.long a1), none, some (.int a3)]) (st' := [.ref 275]) (M' := M2) rfl rfl trivial ?_
  refine hr_Fb h (fun v4 M4 e4 h => ?_)
  refine hr_Gcv mf_X11_sightLine mf_X11_token lb_X11_sightLine_30 (b := 275) (as := []) (rest := []) (st2 := []) (v := none) (M1 := M4) rfl rfl rfl rfl rfl rfl K_275 (g_X11_token  _ _ e4) rfl rfl ?_
  refine hr_Grun mf_X11_sightLine lb_X11_sightLine_33 (P := True) (pc' := 38) (ls' := [some (.ref 275), some (.long a1), none, some (.int a3)]) (st' := [.int 9, .int 0, .int 1, .ref 275]) (M' := M4) rfl rfl trivial ?_
  refine hr_Fb h (fun v6 M6 e6 h => ?_)
  refine hr_Gcv mf_X11_sightLine mf_X11_take lb_X11_sightLine_38 (b := 275) (as := [.int 1, .int 0, .int 9]) (rest := []) (st2 := [.int v6]) (v := some (.int v6)) (M1 := M6) rfl rfl rfl rfl rfl rfl K_275 (g_X11_take 1 0 9 _ _ e6) rfl rfl ?_
  refine hr_Grun mf_X11_sightLine lb_X11_sightLine_41 (P := True) (pc' := if v6 = 0 then 61 else 44) (ls' := [some (.ref 275), some (.long a1), none, some (.int a3)]) (st' := []) (M' := M6) rfl rfl trivial ?_
  refine hr_Gif h (fun _ h => ?_) (fun _ h => ?_)
  · refine hr_Grun mf_X11_sightLine lb_X11_sightLine_61 (P := True) (pc' := 62) (ls' := [some (.ref 275), some (.long a1), none, some (.int a3)]) (st' := [.int 0]) (M' := M6) rfl rfl trivial ?_
    cases h
    exact hr_Gret mf_X11_sightLine lb_X11_sightLine_62 rfl rfl (Or.inl rfl)
  · refine hr_Fg h (fun hg9_0 h => ?_)
    refine hr_Grun mf_X11_sightLine lb_X11_sightLine_44 (P := hr_K 275 = 10 ∧ (hr_K 287 = 12 ∧ vp_in 1 (hr_N 287)) ∧ True) (pc' := 55) (ls' := [some (.ref 275), some (.long a1), none, some (.int a3)]) (st' := [.int (M6.1 287 (1 : Int32).toNatClampNeg), .int 9, .int 0, .int 2, .ref 275]) (M' := M6) rfl rfl ⟨K_275, ⟨K_287, (inB_N N_287 hg9_0)⟩, trivial⟩ ?_
    refine hr_Fb h (fun v10 M10 e10 h => ?_)
    refine hr_Gcv mf_X11_sightLine mf_X11_takeBut lb_X11_sightLine_55 (b := 275) (as := [.int 2, .int 0, .int 9, .int (M6.1 287 (1 : Int32).toNatClampNeg)]) (rest := []) (st2 := [.int v10]) (v := some (.int v10)) (M1 := M10) rfl rfl rfl rfl rfl rfl K_275 (g_X11_takeBut 2 0 9 (M6.1 287 (1 : Int32).toNatClampNeg) _ _ e10) rfl rfl ?_
    refine hr_Grun mf_X11_sightLine lb_X11_sightLine_58 (P := True) (pc' := if v10 = 0 then 61 else 63) (ls' := [some (.ref 275), some (.long a1), none, some (.int a3)]) (st' := []) (M' := M10) rfl rfl trivial ?_
    refine hr_Gif h (fun _ h => ?_) (fun _ h => ?_)
    · refine hr_Grun mf_X11_sightLine lb_X11_sightLine_61 (P := True) (pc' := 62) (ls' := [some (.ref 275), some (.long a1), none, some (.int a3)]) (st' := [.int 0]) (M' := M10) rfl rfl trivial ?_
      cases h
      exact hr_Gret mf_X11_sightLine lb_X11_sightLine_62 rfl rfl (Or.inl rfl)
    · refine hr_Grun mf_X11_sightLine lb_X11_sightLine_63 (P := hr_K 275 = 10 ∧ True) (pc' := if (lg_cmp a1 32491004094997860) = 0 then 76 else 80) (ls' := [some (.ref 275), some (.long a1), none, some (.int a3)]) (st' := [.int 0, .ref 287]) (M' := M10) rfl rfl ⟨K_275, trivial⟩ ?_
      refine hr_Gif h (fun _ h => ?_) (fun _ h => ?_)
      · refine hr_Grun mf_X11_sightLine lb_X11_sightLine_76 (P := True) (pc' := 81) (ls' := [some (.ref 275), some (.long a1), none, some (.int a3)]) (st' := [.int 1, .int 0, .ref 287]) (M' := M10) rfl rfl trivial ?_
        refine hr_Gle (ls := [some (.ref 275), none, none, none]) (hr_le_s (hr_le_n (hr_le_n (hr_le_n hr_le_0)))) ?_
        exact g_X11_sightLine_81 a1 a3 1 0 M10 _ h
      · refine hr_Grun mf_X11_sightLine lb_X11_sightLine_80 (P := True) (pc' := 81) (ls' := [some (.ref 275), some (.long a1), none, some (.int a3)]) (st' := [.int 0, .int 0, .ref 287]) (M' := M10) rfl rfl trivial ?_
        refine hr_Gle (ls := [some (.ref 275), none, none, none]) (hr_le_s (hr_le_n (hr_le_n (hr_le_n hr_le_0)))) ?_
        exact g_X11_sightLine_81 a1 a3 0 0 M10 _ h
def f_X11_sightLine (a1 : Int64) (a3 : Int32) (M : PM) : Option (Int32 × PM) :=
  if (lg_cmp a1 32491004094997860) = 0 then
    f_X11_sightLine_21 a1 a3 M
  else
    if (lg_cmp a1 1667329133) = 0 then
      f_X11_sightLine_21 a1 a3 M
    else
      hr_bd (f_X11_fails M) (fun v4 M4 =>
      if v4 = 0 ∨ v4 = 1 then some (v4, M4) else none)
theorem g_X11_sightLine (a1 : Int64) (a3 : Int32) : ∀ (M : PM) (r : Int32 × PM), f_X11_sightLine a1 a3 M = some r → hr_G 190 0 [some (.ref 275), some (.long a1), none, some (.int a3)] [] M (some (.int r.1), r.2) := by
  intro M r h
  unfold f_X11_sightLine at h
  refine hr_Grun mf_X11_sightLine lb_X11_sightLine_0 (P := True) (pc' := if (lg_cmp a1 32491004094997860) = 0 then 21 else 8) (ls' := [some (.ref 275), some (.long a1), none, some (.int a3)]) (st' := []) (M' := M) rfl rfl trivial ?_
  refine hr_Gif h (fun _ h => ?_) (fun _ h => ?_)
  · exact g_X11_sightLine_21 a1 a3 M _ h
  · refine hr_Grun mf_X11_sightLine lb_X11_sightLine_8 (P := True) (pc' := if (lg_cmp a1 1667329133) = 0 then 21 else 16) (ls' := [some (.ref 275), some (.long a1), none, some (.int a3)]) (st' := []) (M' := M) rfl rfl trivial ?_
    refine hr_Gif h (fun _ h => ?_) (fun _ h => ?_)
    · exact g_X11_sightLine_21 a1 a3 M _ h
    · refine hr_Grun mf_X11_sightLine lb_X11_sightLine_16 (P := True) (pc' := 17) (ls' := [some (.ref 275), some (.long a1), none, some (.int a3)]) (st' := [.ref 275]) (M' := M) rfl rfl trivial ?_
      refine hr_Fb h (fun v4 M4 e4 h => ?_)
      refine hr_Gcv mf_X11_sightLine mf_X11_fails lb_X11_sightLine_17 (b := 275) (as := []) (rest := []) (st2 := [.int v4]) (v := some (.int v4)) (M1 := M4) rfl rfl rfl rfl rfl rfl K_275 (g_X11_fails  _ _ e4) rfl rfl ?_
      refine hr_Fg h (fun hz h => ?_)
      cases h
      exact hr_Gret mf_X11_sightLine lb_X11_sightLine_20 rfl rfl hz
theorem mf_X11_dinnerLine : hr_mf 191 11 4 (some .boolean) 6 2 bk_X11_dinnerLine := ⟨rfl, rfl, rfl, rfl, rfl, rfl⟩
theorem lb_X11_dinnerLine_0 : bk_X11_dinnerLine.lookup 0 = some [(.lload_n 1, 1), (.ldc2_w 240, 3), (.lcmp, 1), (.ifCond .eq 8, 3)] := rfl
theorem lb_X11_dinnerLine_8 : bk_X11_dinnerLine.lookup 8 = some [(.aload_n 0, 1)] := rfl
theorem lb_X11_dinnerLine_9 : bk_X11_dinnerLine.lookup 9 = some [(.invokevirtual 152, 3)] := rfl
theorem lb_X11_dinnerLine_12 : bk_X11_dinnerLine.lookup 12 = some [(.ireturn, 1)] := rfl
theorem lb_X11_dinnerLine_13 : bk_X11_dinnerLine.lookup 13 = some [(.aload_n 0, 1), (.iconst 0, 1), (.bipush 8, 2), (.iload_n 3, 1)] := rfl
theorem lb_X11_dinnerLine_18 : bk_X11_dinnerLine.lookup 18 = some [(.invokevirtual 199, 3)] := rfl
theorem lb_X11_dinnerLine_21 : bk_X11_dinnerLine.lookup 21 = some [(.aload_n 0, 1)] := rfl
theorem lb_X11_dinnerLine_22 : bk_X11_dinnerLine.lookup 22 = some [(.invokevirtual 164, 3)] := rfl
theorem lb_X11_dinnerLine_25 : bk_X11_dinnerLine.lookup 25 = some [(.iconst 0, 1), (.istore 4, 2)] := rfl
theorem lb_X11_dinnerLine_28 : bk_X11_dinnerLine.lookup 28 = some [(.aload_n 0, 1), (.getfield 130, 3), (.istore 5, 2), (.aload_n 0, 1), (.iconst 1, 1), (.iconst 0, 1), (.bipush 9, 2)] := rfl
theorem lb_X11_dinnerLine_39 : bk_X11_dinnerLine.lookup 39 = some [(.invokevirtual 171, 3)] := rfl
theorem lb_X11_dinnerLine_42 : bk_X11_dinnerLine.lookup 42 = some [(.ifCond .ne 5, 3)] := rfl
theorem lb_X11_dinnerLine_45 : bk_X11_dinnerLine.lookup 45 = some [(.iconst 0, 1)] := rfl
theorem lb_X11_dinnerLine_46 : bk_X11_dinnerLine.lookup 46 = some [(.ireturn, 1)] := rfl
theorem lb_X11_dinnerLine_47 : bk_X11_dinnerLine.lookup 47 = some [(.aload_n 0, 1), (.getfield 44, 3), (.iconst 1, 1), (.iaload, 1), (.bipush 10, 2), (.if_icmp .ge 24, 3)] := rfl
theorem lb_X11_dinnerLine_58 : bk_X11_dinnerLine.lookup 58 = some [(.iload 4, 2), (.aload_n 0, 1), (.getfield 44, 3), (.iconst 1, 1), (.iaload, 1)] := rfl
theorem lb_X11_dinnerLine_66 : bk_X11_dinnerLine.lookup 66 = some [(.invokestatic 104, 3)] := rfl
theorem lb_X11_dinnerLine_69 : bk_X11_dinnerLine.lookup 69 = some [(.ifCond .eq 10, 3)] := rfl
theorem lb_X11_dinnerLine_72 : bk_X11_dinnerLine.lookup 72 = some [(.aload_n 0, 1), (.iconst 2, 1), (.iload 5, 2)] := rfl
theorem lb_X11_dinnerLine_76 : bk_X11_dinnerLine.lookup 76 = some [(.invokevirtual 156, 3)] := rfl
theorem lb_X11_dinnerLine_79 : bk_X11_dinnerLine.lookup 79 = some [(.iload 4, 2), (.aload_n 0, 1), (.getfield 44, 3), (.iconst 1, 1), (.iaload, 1), (.bipush 10, 2), (.if_icmp .ge 14, 3)] := rfl
theorem lb_X11_dinnerLine_92 : bk_X11_dinnerLine.lookup 92 = some [(.iconst 1, 1), (.aload_n 0, 1), (.getfield 44, 3), (.iconst 1, 1), (.iaload, 1), (.ishl, 1), (.goto 4, 3)] := rfl
theorem lb_X11_dinnerLine_103 : bk_X11_dinnerLine.lookup 103 = some [(.iconst 0, 1)] := rfl
theorem lb_X11_dinnerLine_104 : bk_X11_dinnerLine.lookup 104 = some [(.ior, 1), (.istore 4, 2), (.aload_n 0, 1), (.getfield 137, 3), (.iconst 3, 1), (.if_icmp .eq (-84), 3)] := rfl
theorem lb_X11_dinnerLine_115 : bk_X11_dinnerLine.lookup 115 = some [(.aload_n 0, 1), (.getfield 44, 3), (.iconst 0, 1), (.iload 4, 2), (.iastore, 1), (.aload_n 0, 1), (.iconst 0, 1), (.iconst 1, 1), (.iconst 1, 1), (.bipush 8, 2)] := rfl
theorem lb_X11_dinnerLine_129 : bk_X11_dinnerLine.lookup 129 = some [(.invokevirtual 174, 3)] := rfl
theorem lb_X11_dinnerLine_132 : bk_X11_dinnerLine.lookup 132 = some [(.iconst 1, 1)] := rfl
theorem lb_X11_dinnerLine_133 : bk_X11_dinnerLine.lookup 133 = some [(.ireturn, 1)] := rfl
def f_X11_dinnerLine_104 (a1 : Int64) (a3 : Int32) (k28 : Int32 → PM → Option (Int32 × PM)) (s0 : Int32) (s1 : Int32) (M : PM) : Option (Int32 × PM) :=
  if (M.1 275 14) = 3 then
    k28 (s1 ||| s0) M
  else
    if inB 0 4 = true then 
    hr_bd (f_X11_keep 0 1 1 8 (hr_si M 287 (0 : Int32).toNatClampNeg (s1 ||| s0))) (fun v3 M3 =>
    some (1, M3)) else none
theorem g_X11_dinnerLine_104 (a1 : Int64) (a3 : Int32)  (k28 : Int32 → PM → Option (Int32 × PM)) (hk28 : ∀ (x4 : Int32) (M : PM) (r : Int32 × PM), k28 x4 M = some r → hr_G 191 28 [some (.ref 275), none, none, none, some (.int x4), none] [] M (some (.int r.1), r.2)) : ∀ (s0 : Int32) (s1 : Int32) (M : PM) (r : Int32 × PM), f_X11_dinnerLine_104 a1 a3 k28 s0 s1 M = some r → hr_G 191 104 [some (.ref 275), none, none, none, none, none] [.int s0, .int s1] M (some (.int r.1), r.2) := by
  intro s0 s1 M r h
  unfold f_X11_dinnerLine_104 at h
  refine hr_Grun mf_X11_dinnerLine lb_X11_dinnerLine_104 (P := hr_K 275 = 10 ∧ True) (pc' := if (M.1 275 14) = 3 then 28 else 115) (ls' := [some (.ref 275), none, none, none, some (.int (s1 ||| s0)), none]) (st' := []) (M' := M) rfl rfl ⟨K_275, trivial⟩ ?_
  refine hr_Gif h (fun _ h => ?_) (fun _ h => ?_)
  · exact hk28 (s1 ||| s0) M _ h
  · refine hr_Fg h (fun hg2_0 h => ?_)
    refine hr_Grun mf_X11_dinnerLine lb_X11_dinnerLine_115 (P := hr_K 275 = 10 ∧ ((hr_K 287 = 12 ∧ 287 < hr_n) ∧ vp_in 0 (hr_N 287)) ∧ True) (pc' := 129) (ls' := [some (.ref 275), none, none, none, some (.int (s1 ||| s0)), none]) (st' := [.int 8, .int 1, .int 1, .int 0, .ref 275]) (M' := hr_si M 287 (0 : Int32).toNatClampNeg (s1 ||| s0)) rfl rfl ⟨K_275, ⟨⟨K_287, L_287⟩, (inB_N N_287 hg2_0)⟩, trivial⟩ ?_
    refine hr_Fb h (fun v3 M3 e3 h => ?_)
    refine hr_Gcv mf_X11_dinnerLine mf_X11_keep lb_X11_dinnerLine_129 (b := 275) (as := [.int 0, .int 1, .int 1, .int 8]) (rest := []) (st2 := []) (v := none) (M1 := M3) rfl rfl rfl rfl rfl rfl K_275 (g_X11_keep 0 1 1 8 _ _ e3) rfl rfl ?_
    refine hr_Grun mf_X11_dinnerLine lb_X11_dinnerLine_132 (P := True) (pc' := 133) (ls' := [some (.ref 275), none, none, none, some (.int (s1 ||| s0)), none]) (st' := [.int 1]) (M' := M3) rfl rfl trivial ?_
    cases h
    exact hr_Gret mf_X11_dinnerLine lb_X11_dinnerLine_133 rfl rfl (Or.inr rfl)
def f_X11_dinnerLine_79 (a1 : Int64) (a3 : Int32) (k28 : Int32 → PM → Option (Int32 × PM)) (x4 : Int32) (M : PM) : Option (Int32 × PM) :=
  if inB 1 4 = true then if 10 ≤ (M.1 287 (1 : Int32).toNatClampNeg) then
    f_X11_dinnerLine_104 a1 a3 k28 0 x4 M
  else
    if inB 1 4 = true then 
    f_X11_dinnerLine_104 a1 a3 k28 (jl 1 (M.1 287 (1 : Int32).toNatClampNeg)) x4 M else none
  else none
theorem g_X11_dinnerLine_79 (a1 : Int64) (a3 : Int32)  (k28 : Int32 → PM → Option (Int32 × PM)) (hk28 : ∀ (x4 : Int32) (M : PM) (r : Int32 × PM), k28 x4 M = some r → hr_G 191 28 [some (.ref 275), none, none, none, some (.int x4), none] [] M (some (.int r.1), r.2)) : ∀ (x4 : Int32) (M : PM) (r : Int32 × PM), f_X11_dinnerLine_79 a1 a3 k28 x4 M = some r → hr_G 191 79 [some (.ref 275), none, none, none, some (.int x4), none] [] M (some (.int r.1), r.2) := by
  intro x4 M r h
  unfold f_X11_dinnerLine_79 at h
  refine hr_Fg h (fun hg1_0 h => ?_)
  refine hr_Grun mf_X11_dinnerLine lb_X11_dinnerLine_79 (P := hr_K 275 = 10 ∧ (hr_K 287 = 12 ∧ vp_in 1 (hr_N 287)) ∧ True) (pc' := if 10 ≤ (M.1 287 (1 : Int32).toNatClampNeg) then 103 else 92) (ls' := [some (.ref 275), none, none, none, some (.int x4), none]) (st' := [.int x4]) (M' := M) rfl rfl ⟨K_275, ⟨K_287, (inB_N N_287 hg1_0)⟩, trivial⟩ ?_
  refine hr_Gif h (fun _ h => ?_) (fun _ h => ?_)
  · refine hr_Grun mf_X11_dinnerLine lb_X11_dinnerLine_103 (P := True) (pc' := 104) (ls' := [some (.ref 275), none, none, none, some (.int x4), none]) (st' := [.int 0, .int x4]) (M' := M) rfl rfl trivial ?_
    refine hr_Gle (ls := [some (.ref 275), none, none, none, none, none]) (hr_le_s (hr_le_n (hr_le_n (hr_le_n (hr_le_n (hr_le_n hr_le_0)))))) ?_
    exact g_X11_dinnerLine_104 a1 a3 k28 hk28 0 x4 M _ h
  · refine hr_Fg h (fun hg3_0 h => ?_)
    refine hr_Grun mf_X11_dinnerLine lb_X11_dinnerLine_92 (P := hr_K 275 = 10 ∧ (hr_K 287 = 12 ∧ vp_in 1 (hr_N 287)) ∧ True) (pc' := 104) (ls' := [some (.ref 275), none, none, none, some (.int x4), none]) (st' := [.int (jl 1 (M.1 287 (1 : Int32).toNatClampNeg)), .int x4]) (M' := M) rfl rfl ⟨K_275, ⟨K_287, (inB_N N_287 hg3_0)⟩, trivial⟩ ?_
    refine hr_Gle (ls := [some (.ref 275), none, none, none, none, none]) (hr_le_s (hr_le_n (hr_le_n (hr_le_n (hr_le_n (hr_le_n hr_le_0)))))) ?_
    exact g_X11_dinnerLine_104 a1 a3 k28 hk28 (jl 1 (M.1 287 (1 : Int32).toNatClampNeg)) x4 M _ h
def f_X11_dinnerLine_28 (a1 : Int64) (a3 : Int32) : Nat → Int32 → PM → Option (Int32 × PM)
  | 0, _, _ => none
  | f + 1, x4, M =>
    hr_bd (f_X11_take 1 0 9 M) (fun v2 M2 =>
    if v2 = 0 then
      some (0, M2)
    else
      if inB 1 4 = true then if 10 ≤ (M2.1 287 (1 : Int32).toNatClampNeg) then
        f_X11_dinnerLine_79 a1 a3 (fun x4 M => f_X11_dinnerLine_28 a1 a3 f x4 M) x4 M2
      else
        if inB 1 4 = true then 
        hr_bd (f_X11_has x4 (M2.1 287 (1 : Int32).toNatClampNeg) M2) (fun v7 M7 =>
        if v7 = 0 then
          f_X11_dinnerLine_79 a1 a3 (fun x4 M => f_X11_dinnerLine_28 a1 a3 f x4 M) x4 M7
        else
          hr_bd (f_X11_later 2 (M.1 275 13) M7) (fun v10 M10 =>
          f_X11_dinnerLine_79 a1 a3 (fun x4 M => f_X11_dinnerLine_28 a1 a3 f x4 M) x4 M10)) else none
      else none)
theorem g_X11_dinnerLine_28 (a1 : Int64) (a3 : Int32)  : ∀ (f : Nat) (x4 : Int32) (M : PM) (r : Int32 × PM), f_X11_dinnerLine_28 a1 a3 f x4 M = some r → hr_G 191 28 [some (.ref 275), none, none, none, some (.int x4), none] [] M (some (.int r.1), r.2) := by
  intro f
  induction f with
  | zero => intro x4 M r h; cases h
  | succ f ih =>
    intro x4 M r h
    rw [f_X11_dinnerLine_28.eq_2] at h
    refine hr_Grun mf_X11_dinnerLine lb_X11_dinnerLine_28 (P := hr_K 275 = 10 ∧ True) (pc' := 39) (ls' := [some (.ref 275), none, none, none, some (.int x4), some (.int (M.1 275 13))]) (st' := [.int 9, .int 0, .int 1, .ref 275]) (M' := M) rfl rfl ⟨K_275, trivial⟩ ?_
    refine hr_Fb h (fun v2 M2 e2 h => ?_)
    refine hr_Gcv mf_X11_dinnerLine mf_X11_take lb_X11_dinnerLine_39 (b := 275) (as := [.int 1, .int 0, .int 9]) (rest := []) (st2 := [.int v2]) (v := some (.int v2)) (M1 := M2) rfl rfl rfl rfl rfl rfl K_275 (g_X11_take 1 0 9 _ _ e2) rfl rfl ?_
    refine hr_Grun mf_X11_dinnerLine lb_X11_dinnerLine_42 (P := True) (pc' := if v2 = 0 then 45 else 47) (ls' := [some (.ref 275), none, none, none, some (.int x4), some (.int (M.1 275 13))]) (st' := []) (M' := M2) rfl rfl trivial ?_
    refine hr_Gif h (fun _ h => ?_) (fun _ h => ?_)
    · refine hr_Grun mf_X11_dinnerLine lb_X11_dinnerLine_45 (P := True) (pc' := 46) (ls' := [some (.ref 275), none, none, none, some (.int x4), some (.int (M.1 275 13))]) (st' := [.int 0]) (M' := M2) rfl rfl trivial ?_
      cases h
      exact hr_Gret mf_X11_dinnerLine lb_X11_dinnerLine_46 rfl rfl (Or.inl rfl)
    · refine hr_Fg h (fun hg5_0 h => ?_)
      refine hr_Grun mf_X11_dinnerLine lb_X11_dinnerLine_47 (P := hr_K 275 = 10 ∧ (hr_K 287 = 12 ∧ vp_in 1 (hr_N 287)) ∧ True) (pc' := if 10 ≤ (M2.1 287 (1 : Int32).toNatClampNeg) then 79 else 58) (ls' := [some (.ref 275), none, none, none, some (.int x4), some (.int (M.1 275 13))]) (st' := []) (M' := M2) rfl rfl ⟨K_275, ⟨K_287, (inB_N N_287 hg5_0)⟩, trivial⟩ ?_
      refine hr_Gif h (fun _ h => ?_) (fun _ h => ?_)
      · refine hr_Gle (ls := [some (.ref 275), none, none, none, some (.int x4), none]) (hr_le_s (hr_le_n (hr_le_n (hr_le_n (hr_le_s (hr_le_n hr_le_0)))))) ?_
        exact g_X11_dinnerLine_79 a1 a3 (fun x4 M => f_X11_dinnerLine_28 a1 a3 f x4 M) (fun x4 M r h => ih x4 M r h) x4 M2 _ h
      · refine hr_Fg h (fun hg6_0 h => ?_)
        refine hr_Grun mf_X11_dinnerLine lb_X11_dinnerLine_58 (P := hr_K 275 = 10 ∧ (hr_K 287 = 12 ∧ vp_in 1 (hr_N 287)) ∧ True) (pc' := 66) (ls' := [some (.ref 275), none, none, none, some (.int x4), some (.int (M.1 275 13))]) (st' := [.int (M2.1 287 (1 : Int32).toNatClampNeg), .int x4]) (M' := M2) rfl rfl ⟨K_275, ⟨K_287, (inB_N N_287 hg6_0)⟩, trivial⟩ ?_
        refine hr_Fb h (fun v7 M7 e7 h => ?_)
        refine hr_Gcs mf_X11_dinnerLine mf_X11_has lb_X11_dinnerLine_66 (as := [.int x4, .int (M2.1 287 (1 : Int32).toNatClampNeg)]) (rest := []) (st2 := [.int v7]) (v := some (.int v7)) (M1 := M7) rfl rfl rfl rfl rfl rfl (g_X11_has x4 (M2.1 287 (1 : Int32).toNatClampNeg) _ _ e7) rfl rfl ?_
        refine hr_Grun mf_X11_dinnerLine lb_X11_dinnerLine_69 (P := True) (pc' := if v7 = 0 then 79 else 72) (ls' := [some (.ref 275), none, none, none, some (.int x4), some (.int (M.1 275 13))]) (st' := []) (M' := M7) rfl rfl trivial ?_
        refine hr_Gif h (fun _ h => ?_) (fun _ h => ?_)
        · refine hr_Gle (ls := [some (.ref 275), none, none, none, some (.int x4), none]) (hr_le_s (hr_le_n (hr_le_n (hr_le_n (hr_le_s (hr_le_n hr_le_0)))))) ?_
          exact g_X11_dinnerLine_79 a1 a3 (fun x4 M => f_X11_dinnerLine_28 a1 a3 f x4 M) (fun x4 M r h => ih x4 M r h) x4 M7 _ h
        · refine hr_Grun mf_X11_dinnerLine lb_X11_dinnerLine_72 (P := True) (pc' := 76) (ls' := [some (.ref 275), none, none, none, some (.int x4), some (.int (M.1 275 13))]) (st' := [.int (M.1 275 13), .int 2, .ref 275]) (M' := M7) rfl rfl trivial ?_
          refine hr_Fb h (fun v10 M10 e10 h => ?_)
          refine hr_Gcv mf_X11_dinnerLine mf_X11_later lb_X11_dinnerLine_76 (b := 275) (as := [.int 2, .int (M.1 275 13)]) (rest := []) (st2 := []) (v := none) (M1 := M10) rfl rfl rfl rfl rfl rfl K_275 (g_X11_later 2 (M.1 275 13) _ _ e10) rfl rfl ?_
          refine hr_Gle (ls := [some (.ref 275), none, none, none, some (.int x4), none]) (hr_le_s (hr_le_n (hr_le_n (hr_le_n (hr_le_s (hr_le_n hr_le_0)))))) ?_
          exact g_X11_dinnerLine_79 a1 a3 (fun x4 M => f_X11_dinnerLine_28 a1 a3 f x4 M) (fun x4 M r h => ih x4 M r h) x4 M10 _ h
def f_X11_dinnerLine (a1 : Int64) (a3 : Int32) (M : PM) : Option (Int32 × PM) :=
  if (lg_cmp a1 444351214452) = 0 then
    hr_bd (f_X11_full 0 8 a3 M) (fun v3 M3 =>
    hr_bd (f_X11_token M3) (fun v5 M5 =>
    f_X11_dinnerLine_28 a1 a3 FU 0 M5))
  else
    hr_bd (f_X11_fails M) (fun v8 M8 =>
    if v8 = 0 ∨ v8 = 1 then some (v8, M8) else none)
theorem g_X11_dinnerLine (a1 : Int64) (a3 : Int32) : ∀ (M : PM) (r : Int32 × PM), f_X11_dinnerLine a1 a3 M = some r → hr_G 191 0 [some (.ref 275), some (.long a1), none, some (.int a3), none, none] [] M (some (.int r.1), r.2) := by
  intro M r h
  unfold f_X11_dinnerLine at h
  refine hr_Grun mf_X11_dinnerLine lb_X11_dinnerLine_0 (P := True) (pc' := if (lg_cmp a1 444351214452) = 0 then 13 else 8) (ls' := [some (.ref 275), some (.long a1), none, some (.int a3), none, none]) (st' := []) (M' := M) rfl rfl trivial ?_
  refine hr_Gif h (fun _ h => ?_) (fun _ h => ?_)
  · refine hr_Grun mf_X11_dinnerLine lb_X11_dinnerLine_13 (P := True) (pc' := 18) (ls' := [some (.ref 275), some (.long a1), none, some (.int a3), none, none]) (st' := [.int a3, .int 8, .int 0, .ref 275]) (M' := M) rfl rfl trivial ?_
    refine hr_Fb h (fun v3 M3 e3 h => ?_)
    refine hr_Gcv mf_X11_dinnerLine mf_X11_full lb_X11_dinnerLine_18 (b := 275) (as := [.int 0, .int 8, .int a3]) (rest := []) (st2 := []) (v := none) (M1 := M3) rfl rfl rfl rfl rfl rfl K_275 (g_X11_full 0 8 a3 _ _ e3) rfl rfl ?_
    refine hr_Grun mf_X11_dinnerLine lb_X11_dinnerLine_21 (P := True) (pc' := 22) (ls' := [some (.ref 275), some (.long a1), none, some (.int a3), none, none]) (st' := [.ref 275]) (M' := M3) rfl rfl trivial ?_
    refine hr_Fb h (fun v5 M5 e5 h => ?_)
    refine hr_Gcv mf_X11_dinnerLine mf_X11_token lb_X11_dinnerLine_22 (b := 275) (as := []) (rest := []) (st2 := []) (v := none) (M1 := M5) rfl rfl rfl rfl rfl rfl K_275 (g_X11_token  _ _ e5) rfl rfl ?_
    refine hr_Grun mf_X11_dinnerLine lb_X11_dinnerLine_25 (P := True) (pc' := 28) (ls' := [some (.ref 275), some (.long a1), none, some (.int a3), some (.int 0), none]) (st' := []) (M' := M5) rfl rfl trivial ?_
    refine hr_Gle (ls := [some (.ref 275), none, none, none, some (.int 0), none]) (hr_le_s (hr_le_n (hr_le_n (hr_le_n (hr_le_s (hr_le_n hr_le_0)))))) ?_
    exact g_X11_dinnerLine_28 a1 a3 FU 0 M5 _ h
  · refine hr_Grun mf_X11_dinnerLine lb_X11_dinnerLine_8 (P := True) (pc' := 9) (ls' := [some (.ref 275), some (.long a1), none, some (.int a3), none, none]) (st' := [.ref 275]) (M' := M) rfl rfl trivial ?_
    refine hr_Fb h (fun v8 M8 e8 h => ?_)
    refine hr_Gcv mf_X11_dinnerLine mf_X11_fails lb_X11_dinnerLine_9 (b := 275) (as := []) (rest := []) (st2 := [.int v8]) (v := some (.int v8)) (M1 := M8) rfl rfl rfl rfl rfl rfl K_275 (g_X11_fails  _ _ e8) rfl rfl ?_
    refine hr_Fg h (fun hz h => ?_)
    cases h
    exact hr_Gret mf_X11_dinnerLine lb_X11_dinnerLine_12 rfl rfl hz
theorem mf_X11_lineOf : hr_mf 192 11 6 (some .boolean) 5 3 bk_X11_lineOf := ⟨rfl, rfl, rfl, rfl, rfl, rfl⟩
theorem lb_X11_lineOf_0 : bk_X11_lineOf.lookup 0 = some [(.iload_n 1, 1), (.tableswitch 63 0 3 #[31, 39, 47, 55], 31)] := rfl
theorem lb_X11_lineOf_32 : bk_X11_lineOf.lookup 32 = some [(.aload_n 0, 1), (.lload_n 2, 1), (.iload 4, 2)] := rfl
theorem lb_X11_lineOf_36 : bk_X11_lineOf.lookup 36 = some [(.invokevirtual 242, 3)] := rfl
theorem lb_X11_lineOf_39 : bk_X11_lineOf.lookup 39 = some [(.ireturn, 1)] := rfl
theorem lb_X11_lineOf_40 : bk_X11_lineOf.lookup 40 = some [(.aload_n 0, 1), (.lload_n 2, 1), (.iload 4, 2)] := rfl
theorem lb_X11_lineOf_44 : bk_X11_lineOf.lookup 44 = some [(.invokevirtual 246, 3)] := rfl
theorem lb_X11_lineOf_47 : bk_X11_lineOf.lookup 47 = some [(.ireturn, 1)] := rfl
theorem lb_X11_lineOf_48 : bk_X11_lineOf.lookup 48 = some [(.aload_n 0, 1), (.lload_n 2, 1), (.iload 4, 2)] := rfl
theorem lb_X11_lineOf_52 : bk_X11_lineOf.lookup 52 = some [(.invokevirtual 249, 3)] := rfl
theorem lb_X11_lineOf_55 : bk_X11_lineOf.lookup 55 = some [(.ireturn, 1)] := rfl
theorem lb_X11_lineOf_56 : bk_X11_lineOf.lookup 56 = some [(.aload_n 0, 1), (.lload_n 2, 1), (.iload 4, 2)] := rfl
theorem lb_X11_lineOf_60 : bk_X11_lineOf.lookup 60 = some [(.invokevirtual 252, 3)] := rfl
theorem lb_X11_lineOf_63 : bk_X11_lineOf.lookup 63 = some [(.ireturn, 1)] := rfl
theorem lb_X11_lineOf_64 : bk_X11_lineOf.lookup 64 = some [(.aload_n 0, 1), (.lload_n 2, 1), (.iload 4, 2)] := rfl
theorem lb_X11_lineOf_68 : bk_X11_lineOf.lookup 68 = some [(.invokevirtual 255, 3)] := rfl
theorem lb_X11_lineOf_71 : bk_X11_lineOf.lookup 71 = some [(.ireturn, 1)] := rfl
def f_X11_lineOf (a1 : Int32) (a2 : Int64) (a4 : Int32) (M : PM) : Option (Int32 × PM) :=
  if a1 = 0 then
    hr_bd (f_X11_paletteLine a2 a4 M) (fun v3 M3 =>
    if v3 = 0 ∨ v3 = 1 then some (v3, M3) else none)
  else if a1 = 1 then
    hr_bd (f_X11_galleryLine a2 a4 M) (fun v5 M5 =>
    if v5 = 0 ∨ v5 = 1 then some (v5, M5) else none)
  else if a1 = 2 then
    hr_bd (f_X11_dayLine a2 a4 M) (fun v7 M7 =>
    if v7 = 0 ∨ v7 = 1 then some (v7, M7) else none)
  else if a1 = 3 then
    hr_bd (f_X11_sightLine a2 a4 M) (fun v9 M9 =>
    if v9 = 0 ∨ v9 = 1 then some (v9, M9) else none)
  else 
    hr_bd (f_X11_dinnerLine a2 a4 M) (fun v11 M11 =>
    if v11 = 0 ∨ v11 = 1 then some (v11, M11) else none)
theorem g_X11_lineOf (a1 : Int32) (a2 : Int64) (a4 : Int32) : ∀ (M : PM) (r : Int32 × PM), f_X11_lineOf a1 a2 a4 M = some r → hr_G 192 0 [some (.ref 275), some (.int a1), some (.long a2), none, some (.int a4)] [] M (some (.int r.1), r.2) := by
  intro M r h
  unfold f_X11_lineOf at h
  refine hr_Grun mf_X11_lineOf lb_X11_lineOf_0 (P := True) (pc' := if a1 = 0 then 32 else if a1 = 1 then 40 else if a1 = 2 then 48 else if a1 = 3 then 56 else 64) (ls' := [some (.ref 275), some (.int a1), some (.long a2), none, some (.int a4)]) (st' := []) (M' := M) rfl rfl trivial ?_
  refine hr_Gif h (fun _ h => ?_) (fun _ h => ?_)
  · refine hr_Grun mf_X11_lineOf lb_X11_lineOf_32 (P := True) (pc' := 36) (ls' := [some (.ref 275), some (.int a1), some (.long a2), none, some (.int a4)]) (st' := [.int a4, .long a2, .ref 275]) (M' := M) rfl rfl trivial ?_
    refine hr_Fb h (fun v3 M3 e3 h => ?_)
    refine hr_Gcv mf_X11_lineOf mf_X11_paletteLine lb_X11_lineOf_36 (b := 275) (as := [.long a2, .int a4]) (rest := []) (st2 := [.int v3]) (v := some (.int v3)) (M1 := M3) rfl rfl rfl rfl rfl rfl K_275 (g_X11_paletteLine a2 a4 _ _ e3) rfl rfl ?_
    refine hr_Fg h (fun hz h => ?_)
    cases h
    exact hr_Gret mf_X11_lineOf lb_X11_lineOf_39 rfl rfl hz
  refine hr_Gif h (fun _ h => ?_) (fun _ h => ?_)
  · refine hr_Grun mf_X11_lineOf lb_X11_lineOf_40 (P := True) (pc' := 44) (ls' := [some (.ref 275), some (.int a1), some (.long a2), none, some (.int a4)]) (st' := [.int a4, .long a2, .ref 275]) (M' := M) rfl rfl trivial ?_
    refine hr_Fb h (fun v5 M5 e5 h => ?_)
    refine hr_Gcv mf_X11_lineOf mf_X11_galleryLine lb_X11_lineOf_44 (b := 275) (as := [.long a2, .int a4]) (rest := []) (st2 := [.int v5]) (v := some (.int v5)) (M1 := M5) rfl rfl rfl rfl rfl rfl K_275 (g_X11_galleryLine a2 a4 _ _ e5) rfl rfl ?_
    refine hr_Fg h (fun hz h => ?_)
    cases h
    exact hr_Gret mf_X11_lineOf lb_X11_lineOf_47 rfl rfl hz
  refine hr_Gif h (fun _ h => ?_) (fun _ h => ?_)
  · refine hr_Grun mf_X11_lineOf lb_X11_lineOf_48 (P := True) (pc' := 52) (ls' := [some (.ref 275), some (.int a1), some (.long a2), none, some (.int a4)]) (st' := [.int a4, .long a2, .ref 275]) (M' := M) rfl rfl trivial ?_
    refine hr_Fb h (fun v7 M7 e7 h => ?_)
    refine hr_Gcv mf_X11_lineOf mf_X11_dayLine lb_X11_lineOf_52 (b := 275) (as := [.long a2, .int a4]) (rest := []) (st2 := [.int v7]) (v := some (.int v7)) (M1 := M7) rfl rfl rfl rfl rfl rfl K_275 (g_X11_dayLine a2 a4 _ _ e7) rfl rfl ?_
    refine hr_Fg h (fun hz h => ?_)
    cases h
    exact hr_Gret mf_X11_lineOf lb_X11_lineOf_55 rfl rfl hz
  refine hr_Gif h (fun _ h => ?_) (fun _ h => ?_)
  · refine hr_Grun mf_X11_lineOf lb_X11_lineOf_56 (P := True) (pc' := 60) (ls' := [some (.ref 275), some (.int a1), some (.long a2), none, some (.int a4)]) (st' := [.int a4, .long a2, .ref 275]) (M' := M) rfl rfl trivial ?_
    refine hr_Fb h (fun v9 M9 e9 h => ?_)
    refine hr_Gcv mf_X11_lineOf mf_X11_sightLine lb_X11_lineOf_60 (b := 275) (as := [.long a2, .int a4]) (rest := []) (st2 := [.int v9]) (v := some (.int v9)) (M1 := M9) rfl rfl rfl rfl rfl rfl K_275 (g_X11_sightLine a2 a4 _ _ e9) rfl rfl ?_
    refine hr_Fg h (fun hz h => ?_)
    cases h
    exact hr_Gret mf_X11_lineOf lb_X11_lineOf_63 rfl rfl hz
  · refine hr_Grun mf_X11_lineOf lb_X11_lineOf_64 (P := True) (pc' := 68) (ls' := [some (.ref 275), some (.int a1), some (.long a2), none, some (.int a4)]) (st' := [.int a4, .long a2, .ref 275]) (M' := M) rfl rfl trivial ?_
    refine hr_Fb h (fun v11 M11 e11 h => ?_)
    refine hr_Gcv mf_X11_lineOf mf_X11_dinnerLine lb_X11_lineOf_68 (b := 275) (as := [.long a2, .int a4]) (rest := []) (st2 := [.int v11]) (v := some (.int v11)) (M1 := M11) rfl rfl rfl rfl rfl rfl K_275 (g_X11_dinnerLine a2 a4 _ _ e11) rfl rfl ?_
    refine hr_Fg h (fun hz h => ?_)
    cases h
    exact hr_Gret mf_X11_lineOf lb_X11_lineOf_71 rfl rfl hz
theorem mf_X11_lines : hr_mf 193 11 7 (some .boolean) 4 1 bk_X11_lines := ⟨rfl, rfl, rfl, rfl, rfl, rfl⟩
theorem lb_X11_lines_0 : bk_X11_lines.lookup 0 = some [(.iconst 1, 1), (.istore_n 2, 1)] := rfl
theorem lb_X11_lines_2 : bk_X11_lines.lookup 2 = some [(.iload_n 2, 1), (.ifCond .eq 71, 3)] := rfl
theorem lb_X11_lines_6 : bk_X11_lines.lookup 6 = some [(.aload_n 0, 1), (.getfield 137, 3), (.ifCond .eq 64, 3)] := rfl
theorem lb_X11_lines_13 : bk_X11_lines.lookup 13 = some [(.aload_n 0, 1), (.getfield 130, 3), (.istore_n 3, 1), (.aload_n 0, 1), (.iconst 1, 1), (.putfield 160, 3), (.aload_n 0, 1), (.iload_n 1, 1), (.aload_n 0, 1), (.getfield 137, 3), (.iconst 2, 1), (.if_icmp .ne 10, 3)] := rfl
theorem lb_X11_lines_33 : bk_X11_lines.lookup 33 = some [(.aload_n 0, 1), (.getfield 133, 3), (.goto 4, 3)] := rfl
theorem lb_X11_lines_40 : bk_X11_lines.lookup 40 = some [(.lconst 0, 1)] := rfl
theorem lb_X11_lines_41 : bk_X11_lines.lookup 41 = some [(.iload_n 3, 1)] := rfl
theorem lb_X11_lines_42 : bk_X11_lines.lookup 42 = some [(.invokevirtual 258, 3)] := rfl
theorem lb_X11_lines_45 : bk_X11_lines.lookup 45 = some [(.istore_n 2, 1), (.iload_n 2, 1), (.ifCond .eq 16, 3)] := rfl
theorem lb_X11_lines_50 : bk_X11_lines.lookup 50 = some [(.aload_n 0, 1), (.getfield 137, 3), (.iconst 4, 1), (.if_icmp .eq 8, 3)] := rfl
theorem lb_X11_lines_58 : bk_X11_lines.lookup 58 = some [(.aload_n 0, 1)] := rfl
theorem lb_X11_lines_59 : bk_X11_lines.lookup 59 = some [(.invokevirtual 152, 3)] := rfl
theorem lb_X11_lines_62 : bk_X11_lines.lookup 62 = some [(.istore_n 2, 1)] := rfl
theorem lb_X11_lines_63 : bk_X11_lines.lookup 63 = some [(.iload_n 2, 1), (.ifCond .eq 7, 3)] := rfl
theorem lb_X11_lines_67 : bk_X11_lines.lookup 67 = some [(.aload_n 0, 1)] := rfl
theorem lb_X11_lines_68 : bk_X11_lines.lookup 68 = some [(.invokevirtual 164, 3)] := rfl
theorem lb_X11_lines_71 : bk_X11_lines.lookup 71 = some [(.goto (-69), 3)] := rfl
theorem lb_X11_lines_74 : bk_X11_lines.lookup 74 = some [(.iload_n 2, 1)] := rfl
theorem lb_X11_lines_75 : bk_X11_lines.lookup 75 = some [(.ireturn, 1)] := rfl
def f_X11_lines_63 (a1 : Int32) (k2 : Int32 → PM → Option (Int32 × PM)) (x2 : Int32) (M : PM) : Option (Int32 × PM) :=
  if x2 = 0 then
    k2 x2 M
  else
    hr_bd (f_X11_token M) (fun v4 M4 =>
    k2 x2 M4)
theorem g_X11_lines_63 (a1 : Int32)  (k2 : Int32 → PM → Option (Int32 × PM)) (hk2 : ∀ (x2 : Int32) (M : PM) (r : Int32 × PM), k2 x2 M = some r → hr_G 193 2 [some (.ref 275), some (.int a1), some (.int x2), none] [] M (some (.int r.1), r.2)) : ∀ (x2 : Int32) (M : PM) (r : Int32 × PM), f_X11_lines_63 a1 k2 x2 M = some r → hr_G 193 63 [some (.ref 275), some (.int a1), some (.int x2), none] [] M (some (.int r.1), r.2) := by
  intro x2 M r h
  unfold f_X11_lines_63 at h
  refine hr_Grun mf_X11_lines lb_X11_lines_63 (P := True) (pc' := if x2 = 0 then 71 else 67) (ls' := [some (.ref 275), some (.int a1), some (.int x2), none]) (st' := []) (M' := M) rfl rfl trivial ?_
  refine hr_Gif h (fun _ h => ?_) (fun _ h => ?_)
  · refine hr_Grun mf_X11_lines lb_X11_lines_71 (P := True) (pc' := 2) (ls' := [some (.ref 275), some (.int a1), some (.int x2), none]) (st' := []) (M' := M) rfl rfl trivial ?_
    exact hk2 x2 M _ h
  · refine hr_Grun mf_X11_lines lb_X11_lines_67 (P := True) (pc' := 68) (ls' := [some (.ref 275), some (.int a1), some (.int x2), none]) (st' := [.ref 275]) (M' := M) rfl rfl trivial ?_
    refine hr_Fb h (fun v4 M4 e4 h => ?_)
    refine hr_Gcv mf_X11_lines mf_X11_token lb_X11_lines_68 (b := 275) (as := []) (rest := []) (st2 := []) (v := none) (M1 := M4) rfl rfl rfl rfl rfl rfl K_275 (g_X11_token  _ _ e4) rfl rfl ?_
    refine hr_Grun mf_X11_lines lb_X11_lines_71 (P := True) (pc' := 2) (ls' := [some (.ref 275), some (.int a1), some (.int x2), none]) (st' := []) (M' := M4) rfl rfl trivial ?_
    exact hk2 x2 M4 _ h
def f_X11_lines_41 (a1 : Int32) (k2 : Int32 → PM → Option (Int32 × PM)) (x3 : Int32) (s0 : Int64) (s1 : Int32) (M : PM) : Option (Int32 × PM) :=
  hr_bd (f_X11_lineOf s1 s0 x3 M) (fun v2 M2 =>
  if v2 = 0 then
    f_X11_lines_63 a1 k2 v2 M2
  else
    if (M2.1 275 14) = 4 then
      f_X11_lines_63 a1 k2 v2 M2
    else
      hr_bd (f_X11_fails M2) (fun v6 M6 =>
      f_X11_lines_63 a1 k2 v6 M6))
theorem g_X11_lines_41 (a1 : Int32)  (k2 : Int32 → PM → Option (Int32 × PM)) (hk2 : ∀ (x2 : Int32) (M : PM) (r : Int32 × PM), k2 x2 M = some r → hr_G 193 2 [some (.ref 275), some (.int a1), some (.int x2), none] [] M (some (.int r.1), r.2)) : ∀ (x3 : Int32) (s0 : Int64) (s1 : Int32) (M : PM) (r : Int32 × PM), f_X11_lines_41 a1 k2 x3 s0 s1 M = some r → hr_G 193 41 [some (.ref 275), some (.int a1), none, some (.int x3)] [.long s0, .int s1, .ref 275] M (some (.int r.1), r.2) := by
  intro x3 s0 s1 M r h
  unfold f_X11_lines_41 at h
  refine hr_Grun mf_X11_lines lb_X11_lines_41 (P := True) (pc' := 42) (ls' := [some (.ref 275), some (.int a1), none, some (.int x3)]) (st' := [.int x3, .long s0, .int s1, .ref 275]) (M' := M) rfl rfl trivial ?_
  refine hr_Fb h (fun v2 M2 e2 h => ?_)
  refine hr_Gcv mf_X11_lines mf_X11_lineOf lb_X11_lines_42 (b := 275) (as := [.int s1, .long s0, .int x3]) (rest := []) (st2 := [.int v2]) (v := some (.int v2)) (M1 := M2) rfl rfl rfl rfl rfl rfl K_275 (g_X11_lineOf s1 s0 x3 _ _ e2) rfl rfl ?_
  refine hr_Grun mf_X11_lines lb_X11_lines_45 (P := True) (pc' := if v2 = 0 then 63 else 50) (ls' := [some (.ref 275), some (.int a1), some (.int v2), some (.int x3)]) (st' := []) (M' := M2) rfl rfl trivial ?_
  refine hr_Gif h (fun _ h => ?_) (fun _ h => ?_)
  · refine hr_Gle (ls := [some (.ref 275), some (.int a1), some (.int v2), none]) (hr_le_s (hr_le_s (hr_le_s (hr_le_n hr_le_0)))) ?_
    exact g_X11_lines_63 a1 k2 hk2 v2 M2 _ h
  · refine hr_Grun mf_X11_lines lb_X11_lines_50 (P := hr_K 275 = 10 ∧ True) (pc' := if (M2.1 275 14) = 4 then 63 else 58) (ls' := [some (.ref 275), some (.int a1), some (.int v2), some (.int x3)]) (st' := []) (M' := M2) rfl rfl ⟨K_275, trivial⟩ ?_
    refine hr_Gif h (fun _ h => ?_) (fun _ h => ?_)
    · refine hr_Gle (ls := [some (.ref 275), some (.int a1), some (.int v2), none]) (hr_le_s (hr_le_s (hr_le_s (hr_le_n hr_le_0)))) ?_
      exact g_X11_lines_63 a1 k2 hk2 v2 M2 _ h
    · refine hr_Grun mf_X11_lines lb_X11_lines_58 (P := True) (pc' := 59) (ls' := [some (.ref 275), some (.int a1), some (.int v2), some (.int x3)]) (st' := [.ref 275]) (M' := M2) rfl rfl trivial ?_
      refine hr_Fb h (fun v6 M6 e6 h => ?_)
      refine hr_Gcv mf_X11_lines mf_X11_fails lb_X11_lines_59 (b := 275) (as := []) (rest := []) (st2 := [.int v6]) (v := some (.int v6)) (M1 := M6) rfl rfl rfl rfl rfl rfl K_275 (g_X11_fails  _ _ e6) rfl rfl ?_
      refine hr_Grun mf_X11_lines lb_X11_lines_62 (P := True) (pc' := 63) (ls' := [some (.ref 275), some (.int a1), some (.int v6), some (.int x3)]) (st' := []) (M' := M6) rfl rfl trivial ?_
      refine hr_Gle (ls := [some (.ref 275), some (.int a1), some (.int v6), none]) (hr_le_s (hr_le_s (hr_le_s (hr_le_n hr_le_0)))) ?_
      exact g_X11_lines_63 a1 k2 hk2 v6 M6 _ h
def f_X11_lines_2 (a1 : Int32) : Nat → Int32 → PM → Option (Int32 × PM)
  | 0, _, _ => none
  | f + 1, x2, M =>
    if x2 = 0 then
      if x2 = 0 ∨ x2 = 1 then some (x2, M) else none
    else
      if (M.1 275 14) = 0 then
        if x2 = 0 ∨ x2 = 1 then some (x2, M) else none
      else
        if ((hr_si M 275 23 1).1 275 14) = 2 then
          f_X11_lines_41 a1 (fun x2 M => f_X11_lines_2 a1 f x2 M) (M.1 275 13) ((hr_si M 275 23 1).2.1 275 16) a1 (hr_si M 275 23 1)
        else
          f_X11_lines_41 a1 (fun x2 M => f_X11_lines_2 a1 f x2 M) (M.1 275 13) 0 a1 (hr_si M 275 23 1)
theorem g_X11_lines_2 (a1 : Int32)  : ∀ (f : Nat) (x2 : Int32) (M : PM) (r : Int32 × PM), f_X11_lines_2 a1 f x2 M = some r → hr_G 193 2 [some (.ref 275), some (.int a1), some (.int x2), none] [] M (some (.int r.1), r.2) := by
  intro f
  induction f with
  | zero => intro x2 M r h; cases h
  | succ f ih =>
    intro x2 M r h
    rw [f_X11_lines_2.eq_2] at h
    refine hr_Grun mf_X11_lines lb_X11_lines_2 (P := True) (pc' := if x2 = 0 then 74 else 6) (ls' := [some (.ref 275), some (.int a1), some (.int x2), none]) (st' := []) (M' := M) rfl rfl trivial ?_
    refine hr_Gif h (fun _ h => ?_) (fun _ h => ?_)
    · refine hr_Grun mf_X11_lines lb_X11_lines_74 (P := True) (pc' := 75) (ls' := [some (.ref 275), some (.int a1), some (.int x2), none]) (st' := [.int x2]) (M' := M) rfl rfl trivial ?_
      refine hr_Fg h (fun hz h => ?_)
      cases h
      exact hr_Gret mf_X11_lines lb_X11_lines_75 rfl rfl hz
    · refine hr_Grun mf_X11_lines lb_X11_lines_6 (P := hr_K 275 = 10 ∧ True) (pc' := if (M.1 275 14) = 0 then 74 else 13) (ls' := [some (.ref 275), some (.int a1), some (.int x2), none]) (st' := []) (M' := M) rfl rfl ⟨K_275, trivial⟩ ?_
      refine hr_Gif h (fun _ h => ?_) (fun _ h => ?_)
      · refine hr_Grun mf_X11_lines lb_X11_lines_74 (P := True) (pc' := 75) (ls' := [some (.ref 275), some (.int a1), some (.int x2), none]) (st' := [.int x2]) (M' := M) rfl rfl trivial ?_
        refine hr_Fg h (fun hz h => ?_)
        cases h
        exact hr_Gret mf_X11_lines lb_X11_lines_75 rfl rfl hz
      · refine hr_Grun mf_X11_lines lb_X11_lines_13 (P := hr_K 275 = 10 ∧ (hr_K 275 = 10 ∧ 275 < hr_n ∧ ((1 : Int32) = 0 ∨ (1 : Int32) = 1)) ∧ hr_K 275 = 10 ∧ True) (pc' := if ((hr_si M 275 23 1).1 275 14) = 2 then 33 else 40) (ls' := [some (.ref 275), some (.int a1), some (.int x2), some (.int (M.1 275 13))]) (st' := [.int a1, .ref 275]) (M' := hr_si M 275 23 1) rfl rfl ⟨K_275, ⟨K_275, L_275, Or.inr rfl⟩, K_275, trivial⟩ ?_
        refine hr_Gif h (fun _ h => ?_) (fun _ h => ?_)
        · refine hr_Grun mf_X11_lines lb_X11_lines_33 (P := hr_K 275 = 10 ∧ True) (pc' := 41) (ls' := [some (.ref 275), some (.int a1), some (.int x2), some (.int (M.1 275 13))]) (st' := [.long ((hr_si M 275 23 1).2.1 275 16), .int a1, .ref 275]) (M' := hr_si M 275 23 1) rfl rfl ⟨K_275, trivial⟩ ?_
          refine hr_Gle (ls := [some (.ref 275), some (.int a1), none, some (.int (M.1 275 13))]) (hr_le_s (hr_le_s (hr_le_n (hr_le_s hr_le_0)))) ?_
          exact g_X11_lines_41 a1 (fun x2 M => f_X11_lines_2 a1 f x2 M) (fun x2 M r h => ih x2 M r h) (M.1 275 13) ((hr_si M 275 23 1).2.1 275 16) a1 (hr_si M 275 23 1) _ h
        · refine hr_Grun mf_X11_lines lb_X11_lines_40 (P := True) (pc' := 41) (ls' := [some (.ref 275), some (.int a1), some (.int x2), some (.int (M.1 275 13))]) (st' := [.long 0, .int a1, .ref 275]) (M' := hr_si M 275 23 1) rfl rfl trivial ?_
          refine hr_Gle (ls := [some (.ref 275), some (.int a1), none, some (.int (M.1 275 13))]) (hr_le_s (hr_le_s (hr_le_n (hr_le_s hr_le_0)))) ?_
          exact g_X11_lines_41 a1 (fun x2 M => f_X11_lines_2 a1 f x2 M) (fun x2 M r h => ih x2 M r h) (M.1 275 13) 0 a1 (hr_si M 275 23 1) _ h
def f_X11_lines (a1 : Int32) (M : PM) : Option (Int32 × PM) :=
  f_X11_lines_2 a1 FU 1 M
theorem g_X11_lines (a1 : Int32) : ∀ (M : PM) (r : Int32 × PM), f_X11_lines a1 M = some r → hr_G 193 0 [some (.ref 275), some (.int a1), none, none] [] M (some (.int r.1), r.2) := by
  intro M r h
  unfold f_X11_lines at h
  refine hr_Grun mf_X11_lines lb_X11_lines_0 (P := True) (pc' := 2) (ls' := [some (.ref 275), some (.int a1), some (.int 1), none]) (st' := []) (M' := M) rfl rfl trivial ?_
  exact g_X11_lines_2 a1 FU 1 M _ h
theorem mf_X11_readText : hr_mf 194 11 8 (some .boolean) 3 1 bk_X11_readText := ⟨rfl, rfl, rfl, rfl, rfl, rfl⟩
theorem lb_X11_readText_0 : bk_X11_readText.lookup 0 = some [(.iconst 0, 1), (.istore_n 2, 1)] := rfl
theorem lb_X11_readText_2 : bk_X11_readText.lookup 2 = some [(.iload_n 2, 1), (.bipush 121, 2), (.if_icmp .ge 16, 3)] := rfl
theorem lb_X11_readText_8 : bk_X11_readText.lookup 8 = some [(.aload_n 0, 1), (.getfield 41, 3), (.iload_n 2, 1), (.iconst 0, 1), (.iastore, 1), (.iinc 2 1, 3), (.goto (-16), 3)] := rfl
theorem lb_X11_readText_21 : bk_X11_readText.lookup 21 = some [(.aload_n 0, 1), (.getfield 41, 3), (.iconst 1, 1), (.iload_n 1, 1), (.iconst 1, 1), (.if_icmp .ne 8, 3)] := rfl
theorem lb_X11_readText_31 : bk_X11_readText.lookup 31 = some [(.bipush 10, 2), (.goto 4, 3)] := rfl
theorem lb_X11_readText_36 : bk_X11_readText.lookup 36 = some [(.iconst 0, 1)] := rfl
theorem lb_X11_readText_37 : bk_X11_readText.lookup 37 = some [(.iastore, 1), (.aload_n 0, 1), (.iconst (-1), 1), (.putfield 178, 3), (.aload_n 0, 1), (.iconst 0, 1), (.putfield 120, 3), (.aload_n 0, 1), (.iconst 0, 1), (.putfield 146, 3), (.aload_n 0, 1)] := rfl
theorem lb_X11_readText_54 : bk_X11_readText.lookup 54 = some [(.invokevirtual 164, 3)] := rfl
theorem lb_X11_readText_57 : bk_X11_readText.lookup 57 = some [(.aload_n 0, 1), (.iload_n 1, 1)] := rfl
theorem lb_X11_readText_59 : bk_X11_readText.lookup 59 = some [(.invokevirtual 262, 3)] := rfl
theorem lb_X11_readText_62 : bk_X11_readText.lookup 62 = some [(.istore_n 2, 1), (.iload_n 2, 1), (.ifCond .eq 36, 3)] := rfl
theorem lb_X11_readText_67 : bk_X11_readText.lookup 67 = some [(.iload_n 1, 1), (.ifCond .ne 32, 3)] := rfl
theorem lb_X11_readText_71 : bk_X11_readText.lookup 71 = some [(.aload_n 0, 1), (.getfield 146, 3), (.ifCond .ne 25, 3)] := rfl
theorem lb_X11_readText_78 : bk_X11_readText.lookup 78 = some [(.aload_n 0, 1), (.getfield 178, 3), (.aload_n 0, 1), (.getfield 41, 3), (.iconst 0, 1), (.iaload, 1), (.if_icmp .lt 12, 3)] := rfl
theorem lb_X11_readText_91 : bk_X11_readText.lookup 91 = some [(.aload_n 0, 1), (.iconst 4, 1), (.aload_n 0, 1), (.getfield 130, 3)] := rfl
theorem lb_X11_readText_97 : bk_X11_readText.lookup 97 = some [(.invokevirtual 156, 3)] := rfl
theorem lb_X11_readText_100 : bk_X11_readText.lookup 100 = some [(.aload_n 0, 1), (.getfield 17, 3), (.iconst 0, 1), (.iload_n 2, 1), (.ifCond .eq 10, 3)] := rfl
theorem lb_X11_readText_109 : bk_X11_readText.lookup 109 = some [(.aload_n 0, 1), (.getfield 146, 3), (.goto 4, 3)] := rfl
theorem lb_X11_readText_116 : bk_X11_readText.lookup 116 = some [(.iconst 1, 1)] := rfl
theorem lb_X11_readText_117 : bk_X11_readText.lookup 117 = some [(.iastore, 1), (.aload_n 0, 1), (.getfield 20, 3), (.iconst 0, 1), (.iload_n 2, 1), (.ifCond .ne 10, 3)] := rfl
theorem lb_X11_readText_127 : bk_X11_readText.lookup 127 = some [(.aload_n 0, 1), (.getfield 143, 3), (.goto 18, 3)] := rfl
theorem lb_X11_readText_134 : bk_X11_readText.lookup 134 = some [(.aload_n 0, 1), (.getfield 146, 3), (.ifCond .le 10, 3)] := rfl
theorem lb_X11_readText_141 : bk_X11_readText.lookup 141 = some [(.aload_n 0, 1), (.getfield 149, 3), (.goto 4, 3)] := rfl
theorem lb_X11_readText_148 : bk_X11_readText.lookup 148 = some [(.iconst (-1), 1)] := rfl
theorem lb_X11_readText_149 : bk_X11_readText.lookup 149 = some [(.iastore, 1), (.aload_n 0, 1), (.getfield 17, 3), (.iconst 0, 1), (.iaload, 1), (.ifCond .ne 7, 3)] := rfl
theorem lb_X11_readText_159 : bk_X11_readText.lookup 159 = some [(.iconst 1, 1), (.goto 4, 3)] := rfl
theorem lb_X11_readText_163 : bk_X11_readText.lookup 163 = some [(.iconst 0, 1)] := rfl
theorem lb_X11_readText_164 : bk_X11_readText.lookup 164 = some [(.ireturn, 1)] := rfl
def f_X11_readText_149 (a1 : Int32) (s0 : Int32) (s1 : Int32) (M : PM) : Option (Int32 × PM) :=
  if inB s1 4 = true then if inB 0 4 = true then if ((hr_si M 279 s1.toNatClampNeg s0).1 278 (0 : Int32).toNatClampNeg) = 0 then
    some (1, hr_si M 279 s1.toNatClampNeg s0)
  else
    some (0, hr_si M 279 s1.toNatClampNeg s0)
  else none else none
theorem g_X11_readText_149 (a1 : Int32)  : ∀ (s0 : Int32) (s1 : Int32) (M : PM) (r : Int32 × PM), f_X11_readText_149 a1 s0 s1 M = some r → hr_G 194 149 [some (.ref 275), none, none] [.int s0, .int s1, .ref 279] M (some (.int r.1), r.2) := by
  intro s0 s1 M r h
  unfold f_X11_readText_149 at h
  refine hr_Fg h (fun hg1_0 h => ?_)
  refine hr_Fg h (fun hg1_1 h => ?_)
  refine hr_Grun mf_X11_readText lb_X11_readText_149 (P := ((hr_K 279 = 12 ∧ 279 < hr_n) ∧ vp_in s1 (hr_N 279)) ∧ hr_K 275 = 10 ∧ (hr_K 278 = 12 ∧ vp_in 0 (hr_N 278)) ∧ True) (pc' := if ((hr_si M 279 s1.toNatClampNeg s0).1 278 (0 : Int32).toNatClampNeg) = 0 then 159 else 163) (ls' := [some (.ref 275), none, none]) (st' := []) (M' := hr_si M 279 s1.toNatClampNeg s0) rfl rfl ⟨⟨⟨K_279, L_279⟩, (inB_N N_279 hg1_0)⟩, K_275, ⟨K_278, (inB_N N_278 hg1_1)⟩, trivial⟩ ?_
  refine hr_Gif h (fun _ h => ?_) (fun _ h => ?_)
  · refine hr_Grun mf_X11_readText lb_X11_readText_159 (P := True) (pc' := 164) (ls' := [some (.ref 275), none, none]) (st' := [.int 1]) (M' := hr_si M 279 s1.toNatClampNeg s0) rfl rfl trivial ?_
    cases h
    exact hr_Gret mf_X11_readText lb_X11_readText_164 rfl rfl (Or.inr rfl)
  · refine hr_Grun mf_X11_readText lb_X11_readText_163 (P := True) (pc' := 164) (ls' := [some (.ref 275), none, none]) (st' := [.int 0]) (M' := hr_si M 279 s1.toNatClampNeg s0) rfl rfl trivial ?_
    cases h
    exact hr_Gret mf_X11_readText lb_X11_readText_164 rfl rfl (Or.inl rfl)
def f_X11_readText_117 (a1 : Int32) (x2 : Int32) (s0 : Int32) (s1 : Int32) (M : PM) : Option (Int32 × PM) :=
  if inB s1 4 = true then if x2 = 0 then
    f_X11_readText_149 a1 ((hr_si M 278 s1.toNatClampNeg s0).1 275 17) 0 (hr_si M 278 s1.toNatClampNeg s0)
  else
    if ((hr_si M 278 s1.toNatClampNeg s0).1 275 18) ≤ 0 then
      f_X11_readText_149 a1 (-1) 0 (hr_si M 278 s1.toNatClampNeg s0)
    else
      f_X11_readText_149 a1 ((hr_si M 278 s1.toNatClampNeg s0).1 275 19) 0 (hr_si M 278 s1.toNatClampNeg s0)
  else none
theorem g_X11_readText_117 (a1 : Int32)  : ∀ (x2 : Int32) (s0 : Int32) (s1 : Int32) (M : PM) (r : Int32 × PM), f_X11_readText_117 a1 x2 s0 s1 M = some r → hr_G 194 117 [some (.ref 275), none, some (.int x2)] [.int s0, .int s1, .ref 278] M (some (.int r.1), r.2) := by
  intro x2 s0 s1 M r h
  unfold f_X11_readText_117 at h
  refine hr_Fg h (fun hg1_0 h => ?_)
  refine hr_Grun mf_X11_readText lb_X11_readText_117 (P := ((hr_K 278 = 12 ∧ 278 < hr_n) ∧ vp_in s1 (hr_N 278)) ∧ hr_K 275 = 10 ∧ True) (pc' := if x2 = 0 then 127 else 134) (ls' := [some (.ref 275), none, some (.int x2)]) (st' := [.int 0, .ref 279]) (M' := hr_si M 278 s1.toNatClampNeg s0) rfl rfl ⟨⟨⟨K_278, L_278⟩, (inB_N N_278 hg1_0)⟩, K_275, trivial⟩ ?_
  refine hr_Gif h (fun _ h => ?_) (fun _ h => ?_)
  · refine hr_Grun mf_X11_readText lb_X11_readText_127 (P := hr_K 275 = 10 ∧ True) (pc' := 149) (ls' := [some (.ref 275), none, some (.int x2)]) (st' := [.int ((hr_si M 278 s1.toNatClampNeg s0).1 275 17), .int 0, .ref 279]) (M' := hr_si M 278 s1.toNatClampNeg s0) rfl rfl ⟨K_275, trivial⟩ ?_
    refine hr_Gle (ls := [some (.ref 275), none, none]) (hr_le_s (hr_le_n (hr_le_n hr_le_0))) ?_
    exact g_X11_readText_149 a1 ((hr_si M 278 s1.toNatClampNeg s0).1 275 17) 0 (hr_si M 278 s1.toNatClampNeg s0) _ h
  · refine hr_Grun mf_X11_readText lb_X11_readText_134 (P := hr_K 275 = 10 ∧ True) (pc' := if ((hr_si M 278 s1.toNatClampNeg s0).1 275 18) ≤ 0 then 148 else 141) (ls' := [some (.ref 275), none, some (.int x2)]) (st' := [.int 0, .ref 279]) (M' := hr_si M 278 s1.toNatClampNeg s0) rfl rfl ⟨K_275, trivial⟩ ?_
    refine hr_Gif h (fun _ h => ?_) (fun _ h => ?_)
    · refine hr_Grun mf_X11_readText lb_X11_readText_148 (P := True) (pc' := 149) (ls' := [some (.ref 275), none, some (.int x2)]) (st' := [.int (-1), .int 0, .ref 279]) (M' := hr_si M 278 s1.toNatClampNeg s0) rfl rfl trivial ?_
      refine hr_Gle (ls := [some (.ref 275), none, none]) (hr_le_s (hr_le_n (hr_le_n hr_le_0))) ?_
      exact g_X11_readText_149 a1 (-1) 0 (hr_si M 278 s1.toNatClampNeg s0) _ h
    · refine hr_Grun mf_X11_readText lb_X11_readText_141 (P := hr_K 275 = 10 ∧ True) (pc' := 149) (ls' := [some (.ref 275), none, some (.int x2)]) (st' := [.int ((hr_si M 278 s1.toNatClampNeg s0).1 275 19), .int 0, .ref 279]) (M' := hr_si M 278 s1.toNatClampNeg s0) rfl rfl ⟨K_275, trivial⟩ ?_
      refine hr_Gle (ls := [some (.ref 275), none, none]) (hr_le_s (hr_le_n (hr_le_n hr_le_0))) ?_
      exact g_X11_readText_149 a1 ((hr_si M 278 s1.toNatClampNeg s0).1 275 19) 0 (hr_si M 278 s1.toNatClampNeg s0) _ h
def f_X11_readText_100 (a1 : Int32) (x2 : Int32) (M : PM) : Option (Int32 × PM) :=
  if x2 = 0 then
    f_X11_readText_117 a1 x2 1 0 M
  else
    f_X11_readText_117 a1 x2 (M.1 275 18) 0 M
theorem g_X11_readText_100 (a1 : Int32)  : ∀ (x2 : Int32) (M : PM) (r : Int32 × PM), f_X11_readText_100 a1 x2 M = some r → hr_G 194 100 [some (.ref 275), none, some (.int x2)] [] M (some (.int r.1), r.2) := by
  intro x2 M r h
  unfold f_X11_readText_100 at h
  refine hr_Grun mf_X11_readText lb_X11_readText_100 (P := hr_K 275 = 10 ∧ True) (pc' := if x2 = 0 then 116 else 109) (ls' := [some (.ref 275), none, some (.int x2)]) (st' := [.int 0, .ref 278]) (M' := M) rfl rfl ⟨K_275, trivial⟩ ?_
  refine hr_Gif h (fun _ h => ?_) (fun _ h => ?_)
  · refine hr_Grun mf_X11_readText lb_X11_readText_116 (P := True) (pc' := 117) (ls' := [some (.ref 275), none, some (.int x2)]) (st' := [.int 1, .int 0, .ref 278]) (M' := M) rfl rfl trivial ?_
    exact g_X11_readText_117 a1 x2 1 0 M _ h
  · refine hr_Grun mf_X11_readText lb_X11_readText_109 (P := hr_K 275 = 10 ∧ True) (pc' := 117) (ls' := [some (.ref 275), none, some (.int x2)]) (st' := [.int (M.1 275 18), .int 0, .ref 278]) (M' := M) rfl rfl ⟨K_275, trivial⟩ ?_
    exact g_X11_readText_117 a1 x2 (M.1 275 18) 0 M _ h
def f_X11_readText_37 (a1 : Int32) (s0 : Int32) (s1 : Int32) (M : PM) : Option (Int32 × PM) :=
  if inB s1 121 = true then 
  hr_bd (f_X11_token (hr_si (hr_si (hr_si (hr_si M 286 s1.toNatClampNeg s0) 275 22 (-1)) 275 11 0) 275 18 0)) (fun v2 M2 =>
  hr_bd (f_X11_lines a1 M2) (fun v4 M4 =>
  if v4 = 0 then
    f_X11_readText_100 a1 v4 M4
  else
    if a1 = 0 then
      if (M4.1 275 18) = 0 then
        if inB 0 121 = true then if (M4.1 275 22) < (M4.1 286 (0 : Int32).toNatClampNeg) then
          f_X11_readText_100 a1 v4 M4
        else
          hr_bd (f_X11_later 4 (M4.1 275 13) M4) (fun v10 M10 =>
          f_X11_readText_100 a1 v4 M10)
        else none
      else
        f_X11_readText_100 a1 v4 M4
    else
      f_X11_readText_100 a1 v4 M4)) else none
theorem g_X11_readText_37 (a1 : Int32)  : ∀ (s0 : Int32) (s1 : Int32) (M : PM) (r : Int32 × PM), f_X11_readText_37 a1 s0 s1 M = some r → hr_G 194 37 [some (.ref 275), some (.int a1), none] [.int s0, .int s1, .ref 286] M (some (.int r.1), r.2) := by
  intro s0 s1 M r h
  unfold f_X11_readText_37 at h
  refine hr_Fg h (fun hg1_0 h => ?_)
  refine hr_Grun mf_X11_readText lb_X11_readText_37 (P := ((hr_K 286 = 12 ∧ 286 < hr_n) ∧ vp_in s1 (hr_N 286)) ∧ (hr_K 275 = 10 ∧ 275 < hr_n) ∧ (hr_K 275 = 10 ∧ 275 < hr_n) ∧ (hr_K 275 = 10 ∧ 275 < hr_n) ∧ True) (pc' := 54) (ls' := [some (.ref 275), some (.int a1), none]) (st' := [.ref 275]) (M' := hr_si (hr_si (hr_si (hr_si M 286 s1.toNatClampNeg s0) 275 22 (-1)) 275 11 0) 275 18 0) rfl rfl ⟨⟨⟨K_286, L_286⟩, (inB_N N_286 hg1_0)⟩, ⟨K_275, L_275⟩, ⟨K_275, L_275⟩, ⟨K_275, L_275⟩, trivial⟩ ?_
  refine hr_Fb h (fun v2 M2 e2 h => ?_)
  refine hr_Gcv mf_X11_readText mf_X11_token lb_X11_readText_54 (b := 275) (as := []) (rest := []) (st2 := []) (v := none) (M1 := M2) rfl rfl rfl rfl rfl rfl K_275 (g_X11_token  _ _ e2) rfl rfl ?_
  refine hr_Grun mf_X11_readText lb_X11_readText_57 (P := True) (pc' := 59) (ls' := [some (.ref 275), some (.int a1), none]) (st' := [.int a1, .ref 275]) (M' := M2) rfl rfl trivial ?_
  refine hr_Fb h (fun v4 M4 e4 h => ?_)
  refine hr_Gcv mf_X11_readText mf_X11_lines lb_X11_readText_59 (b := 275) (as := [.int a1]) (rest := []) (st2 := [.int v4]) (v := some (.int v4)) (M1 := M4) rfl rfl rfl rfl rfl rfl K_275 (g_X11_lines a1 _ _ e4) rfl rfl ?_
  refine hr_Grun mf_X11_readText lb_X11_readText_62 (P := True) (pc' := if v4 = 0 then 100 else 67) (ls' := [some (.ref 275), some (.int a1), some (.int v4)]) (st' := []) (M' := M4) rfl rfl trivial ?_
  refine hr_Gif h (fun _ h => ?_) (fun _ h => ?_)
  · refine hr_Gle (ls := [some (.ref 275), none, some (.int v4)]) (hr_le_s (hr_le_n (hr_le_s hr_le_0))) ?_
    exact g_X11_readText_100 a1 v4 M4 _ h
  · refine hr_Grun mf_X11_readText lb_X11_readText_67 (P := True) (pc' := if a1 = 0 then 71 else 100) (ls' := [some (.ref 275), some (.int a1), some (.int v4)]) (st' := []) (M' := M4) rfl rfl trivial ?_
    refine hr_Gif h (fun _ h => ?_) (fun _ h => ?_)
    · refine hr_Grun mf_X11_readText lb_X11_readText_71 (P := hr_K 275 = 10 ∧ True) (pc' := if (M4.1 275 18) = 0 then 78 else 100) (ls' := [some (.ref 275), some (.int a1), some (.int v4)]) (st' := []) (M' := M4) rfl rfl ⟨K_275, trivial⟩ ?_
      refine hr_Gif h (fun _ h => ?_) (fun _ h => ?_)
      · refine hr_Fg h (fun hg8_0 h => ?_)
        refine hr_Grun mf_X11_readText lb_X11_readText_78 (P := hr_K 275 = 10 ∧ hr_K 275 = 10 ∧ (hr_K 286 = 12 ∧ vp_in 0 (hr_N 286)) ∧ True) (pc' := if (M4.1 275 22) < (M4.1 286 (0 : Int32).toNatClampNeg) then 100 else 91) (ls' := [some (.ref 275), some (.int a1), some (.int v4)]) (st' := []) (M' := M4) rfl rfl ⟨K_275, K_275, ⟨K_286, (inB_N N_286 hg8_0)⟩, trivial⟩ ?_
        refine hr_Gif h (fun _ h => ?_) (fun _ h => ?_)
        · refine hr_Gle (ls := [some (.ref 275), none, some (.int v4)]) (hr_le_s (hr_le_n (hr_le_s hr_le_0))) ?_
          exact g_X11_readText_100 a1 v4 M4 _ h
        · refine hr_Grun mf_X11_readText lb_X11_readText_91 (P := hr_K 275 = 10 ∧ True) (pc' := 97) (ls' := [some (.ref 275), some (.int a1), some (.int v4)]) (st' := [.int (M4.1 275 13), .int 4, .ref 275]) (M' := M4) rfl rfl ⟨K_275, trivial⟩ ?_
          refine hr_Fb h (fun v10 M10 e10 h => ?_)
          refine hr_Gcv mf_X11_readText mf_X11_later lb_X11_readText_97 (b := 275) (as := [.int 4, .int (M4.1 275 13)]) (rest := []) (st2 := []) (v := none) (M1 := M10) rfl rfl rfl rfl rfl rfl K_275 (g_X11_later 4 (M4.1 275 13) _ _ e10) rfl rfl ?_
          refine hr_Gle (ls := [some (.ref 275), none, some (.int v4)]) (hr_le_s (hr_le_n (hr_le_s hr_le_0))) ?_
          exact g_X11_readText_100 a1 v4 M10 _ h
      · refine hr_Gle (ls := [some (.ref 275), none, some (.int v4)]) (hr_le_s (hr_le_n (hr_le_s hr_le_0))) ?_
        exact g_X11_readText_100 a1 v4 M4 _ h
    · refine hr_Gle (ls := [some (.ref 275), none, some (.int v4)]) (hr_le_s (hr_le_n (hr_le_s hr_le_0))) ?_
      exact g_X11_readText_100 a1 v4 M4 _ h
def f_X11_readText_2 (a1 : Int32) : Nat → Int32 → PM → Option (Int32 × PM)
  | 0, _, _ => none
  | f + 1, x2, M =>
    if 121 ≤ x2 then
      if a1 = 1 then
        f_X11_readText_37 a1 10 1 M
      else
        f_X11_readText_37 a1 0 1 M
    else
      if inB x2 121 = true then 
      f_X11_readText_2 a1 f (x2 + 1) (hr_si M 286 x2.toNatClampNeg 0) else none
theorem g_X11_readText_2 (a1 : Int32)  : ∀ (f : Nat) (x2 : Int32) (M : PM) (r : Int32 × PM), f_X11_readText_2 a1 f x2 M = some r → hr_G 194 2 [some (.ref 275), some (.int a1), some (.int x2)] [] M (some (.int r.1), r.2) := by
  intro f
  induction f with
  | zero => intro x2 M r h; cases h
  | succ f ih =>
    intro x2 M r h
    rw [f_X11_readText_2.eq_2] at h
    refine hr_Grun mf_X11_readText lb_X11_readText_2 (P := True) (pc' := if 121 ≤ x2 then 21 else 8) (ls' := [some (.ref 275), some (.int a1), some (.int x2)]) (st' := []) (M' := M) rfl rfl trivial ?_
    refine hr_Gif h (fun _ h => ?_) (fun _ h => ?_)
    · refine hr_Grun mf_X11_readText lb_X11_readText_21 (P := hr_K 275 = 10 ∧ True) (pc' := if a1 = 1 then 31 else 36) (ls' := [some (.ref 275), some (.int a1), some (.int x2)]) (st' := [.int 1, .ref 286]) (M' := M) rfl rfl ⟨K_275, trivial⟩ ?_
      refine hr_Gif h (fun _ h => ?_) (fun _ h => ?_)
      · refine hr_Grun mf_X11_readText lb_X11_readText_31 (P := True) (pc' := 37) (ls' := [some (.ref 275), some (.int a1), some (.int x2)]) (st' := [.int 10, .int 1, .ref 286]) (M' := M) rfl rfl trivial ?_
        refine hr_Gle (ls := [some (.ref 275), some (.int a1), none]) (hr_le_s (hr_le_s (hr_le_n hr_le_0))) ?_
        exact g_X11_readText_37 a1 10 1 M _ h
      · refine hr_Grun mf_X11_readText lb_X11_readText_36 (P := True) (pc' := 37) (ls' := [some (.ref 275), some (.int a1), some (.int x2)]) (st' := [.int 0, .int 1, .ref 286]) (M' := M) rfl rfl trivial ?_
        refine hr_Gle (ls := [some (.ref 275), some (.int a1), none]) (hr_le_s (hr_le_s (hr_le_n hr_le_0))) ?_
        exact g_X11_readText_37 a1 0 1 M _ h
    · refine hr_Fg h (fun hg5_0 h => ?_)
      refine hr_Grun mf_X11_readText lb_X11_readText_8 (P := hr_K 275 = 10 ∧ ((hr_K 286 = 12 ∧ 286 < hr_n) ∧ vp_in x2 (hr_N 286)) ∧ True) (pc' := 2) (ls' := [some (.ref 275), some (.int a1), some (.int (x2 + 1))]) (st' := []) (M' := hr_si M 286 x2.toNatClampNeg 0) rfl rfl ⟨K_275, ⟨⟨K_286, L_286⟩, (inB_N N_286 hg5_0)⟩, trivial⟩ ?_
      exact ih (x2 + 1) (hr_si M 286 x2.toNatClampNeg 0) _ h
def f_X11_readText (a1 : Int32) (M : PM) : Option (Int32 × PM) :=
  f_X11_readText_2 a1 FU 0 M
theorem g_X11_readText (a1 : Int32) : ∀ (M : PM) (r : Int32 × PM), f_X11_readText a1 M = some r → hr_G 194 0 [some (.ref 275), some (.int a1), none] [] M (some (.int r.1), r.2) := by
  intro M r h
  unfold f_X11_readText at h
  refine hr_Grun mf_X11_readText lb_X11_readText_0 (P := True) (pc' := 2) (ls' := [some (.ref 275), some (.int a1), some (.int 0)]) (st' := []) (M' := M) rfl rfl trivial ?_
  exact g_X11_readText_2 a1 FU 0 M _ h
theorem mf_X11_store : hr_mf 195 11 0 none 5 3 bk_X11_store := ⟨rfl, rfl, rfl, rfl, rfl, rfl⟩
theorem lb_X11_store_0 : bk_X11_store.lookup 0 = some [(.iconst 0, 1), (.istore 4, 2)] := rfl
theorem lb_X11_store_3 : bk_X11_store.lookup 3 = some [(.iload 4, 2), (.iload_n 2, 1), (.if_icmp .ge 24, 3)] := rfl
theorem lb_X11_store_9 : bk_X11_store.lookup 9 = some [(.aload_n 1, 1), (.iload_n 2, 1), (.iload_n 3, 1), (.imul, 1), (.iload 4, 2), (.iadd, 1), (.aload_n 0, 1), (.getfield 41, 3), (.iload 4, 2), (.iaload, 1), (.iastore, 1), (.iinc 4 1, 3), (.goto (-24), 3)] := rfl
theorem lb_X11_store_30 : bk_X11_store.lookup 30 = some [(.return_, 1)] := rfl
def f_X11_store_3 (a1 : Nat) (a2 : Int32) (a3 : Int32) : Nat → Int32 → PM → Option (Unit × PM)
  | 0, _, _ => none
  | f + 1, x4, M =>
    if a2 ≤ x4 then
      some ((), M)
    else
      if inB x4 121 = true then if inB ((a2 * a3) + x4) (hr_N a1) = true then 
      f_X11_store_3 a1 a2 a3 f (x4 + 1) (hr_si M a1 ((a2 * a3) + x4).toNatClampNeg (M.1 286 x4.toNatClampNeg)) else none else none
theorem g_X11_store_3 (a1 : Nat) (a2 : Int32) (a3 : Int32) (ka1 : hr_K a1 = 12 ∧ a1 < hr_n) : ∀ (f : Nat) (x4 : Int32) (M : PM) (r : Unit × PM), f_X11_store_3 a1 a2 a3 f x4 M = some r → hr_G 195 3 [some (.ref 275), some (.ref a1), some (.int a2), some (.int a3), some (.int x4)] [] M (none, r.2) := by
  intro f
  induction f with
  | zero => intro x4 M r h; cases h
  | succ f ih =>
    intro x4 M r h
    rw [f_X11_store_3.eq_2] at h
    refine hr_Grun mf_X11_store lb_X11_store_3 (P := True) (pc' := if a2 ≤ x4 then 30 else 9) (ls' := [some (.ref 275), some (.ref a1), some (.int a2), some (.int a3), some (.int x4)]) (st' := []) (M' := M) rfl rfl trivial ?_
    refine hr_Gif h (fun _ h => ?_) (fun _ h => ?_)
    · cases h
      exact hr_Gret mf_X11_store lb_X11_store_30 rfl rfl trivial
    · refine hr_Fg h (fun hg2_0 h => ?_)
      refine hr_Fg h (fun hg2_1 h => ?_)
      refine hr_Grun mf_X11_store lb_X11_store_9 (P := hr_K 275 = 10 ∧ (hr_K 286 = 12 ∧ vp_in x4 (hr_N 286)) ∧ ((hr_K a1 = 12 ∧ a1 < hr_n) ∧ vp_in ((a2 * a3) + x4) (hr_N a1)) ∧ True) (pc' := 3) (ls' := [some (.ref 275), some (.ref a1), some (.int a2), some (.int a3), some (.int (x4 + 1))]) (st' := []) (M' := hr_si M a1 ((a2 * a3) + x4).toNatClampNeg (M.1 286 x4.toNatClampNeg)) rfl rfl ⟨K_275, ⟨K_286, (inB_N N_286 hg2_0)⟩, ⟨⟨ka1.1, ka1.2⟩, (inB_N rfl hg2_1)⟩, trivial⟩ ?_
      exact ih (x4 + 1) (hr_si M a1 ((a2 * a3) + x4).toNatClampNeg (M.1 286 x4.toNatClampNeg)) _ h
def f_X11_store (a1 : Nat) (a2 : Int32) (a3 : Int32) (M : PM) : Option (Unit × PM) :=
  if hr_K a1 = 12 ∧ a1 < hr_n then f_X11_store_3 a1 a2 a3 FU 0 M else none
theorem g_X11_store (a1 : Nat) (a2 : Int32) (a3 : Int32) : ∀ (M : PM) (r : Unit × PM), f_X11_store a1 a2 a3 M = some r → hr_G 195 0 [some (.ref 275), some (.ref a1), some (.int a2), some (.int a3), none] [] M (none, r.2) := by
  intro M r h
  unfold f_X11_store at h
  refine hr_Fg h (fun ka1 h => ?_)
  refine hr_Grun mf_X11_store lb_X11_store_0 (P := True) (pc' := 3) (ls' := [some (.ref 275), some (.ref a1), some (.int a2), some (.int a3), some (.int 0)]) (st' := []) (M' := M) rfl rfl trivial ?_
  exact g_X11_store_3 a1 a2 a3 ka1 FU 0 M _ h
theorem mf_X11_storeAll : hr_mf 196 11 1 none 3 2 bk_X11_storeAll := ⟨rfl, rfl, rfl, rfl, rfl, rfl⟩
theorem lb_X11_storeAll_0 : bk_X11_storeAll.lookup 0 = some [(.iload_n 1, 1), (.tableswitch 79 0 3 #[31, 43, 55, 67], 31)] := rfl
theorem lb_X11_storeAll_32 : bk_X11_storeAll.lookup 32 = some [(.aload_n 0, 1), (.aload_n 0, 1), (.getfield 26, 3), (.bipush 70, 2), (.iload_n 2, 1)] := rfl
theorem lb_X11_storeAll_40 : bk_X11_storeAll.lookup 40 = some [(.invokevirtual 265, 3)] := rfl
theorem lb_X11_storeAll_43 : bk_X11_storeAll.lookup 43 = some [(.return_, 1)] := rfl
theorem lb_X11_storeAll_44 : bk_X11_storeAll.lookup 44 = some [(.aload_n 0, 1), (.aload_n 0, 1), (.getfield 29, 3), (.bipush 20, 2), (.iload_n 2, 1)] := rfl
theorem lb_X11_storeAll_52 : bk_X11_storeAll.lookup 52 = some [(.invokevirtual 265, 3)] := rfl
theorem lb_X11_storeAll_55 : bk_X11_storeAll.lookup 55 = some [(.return_, 1)] := rfl
theorem lb_X11_storeAll_56 : bk_X11_storeAll.lookup 56 = some [(.aload_n 0, 1), (.aload_n 0, 1), (.getfield 32, 3), (.bipush 121, 2), (.iload_n 2, 1)] := rfl
theorem lb_X11_storeAll_64 : bk_X11_storeAll.lookup 64 = some [(.invokevirtual 265, 3)] := rfl
theorem lb_X11_storeAll_67 : bk_X11_storeAll.lookup 67 = some [(.return_, 1)] := rfl
theorem lb_X11_storeAll_68 : bk_X11_storeAll.lookup 68 = some [(.aload_n 0, 1), (.aload_n 0, 1), (.getfield 35, 3), (.bipush 37, 2), (.iload_n 2, 1)] := rfl
theorem lb_X11_storeAll_76 : bk_X11_storeAll.lookup 76 = some [(.invokevirtual 265, 3)] := rfl
theorem lb_X11_storeAll_79 : bk_X11_storeAll.lookup 79 = some [(.return_, 1)] := rfl
theorem lb_X11_storeAll_80 : bk_X11_storeAll.lookup 80 = some [(.aload_n 0, 1), (.aload_n 0, 1), (.getfield 38, 3), (.bipush 9, 2), (.iload_n 2, 1)] := rfl
theorem lb_X11_storeAll_88 : bk_X11_storeAll.lookup 88 = some [(.invokevirtual 265, 3)] := rfl
theorem lb_X11_storeAll_91 : bk_X11_storeAll.lookup 91 = some [(.return_, 1)] := rfl
def f_X11_storeAll (a1 : Int32) (a2 : Int32) (M : PM) : Option (Unit × PM) :=
  if a1 = 0 then
    hr_bd (f_X11_store 281 70 a2 M) (fun v3 M3 =>
    some ((), M3))
  else if a1 = 1 then
    hr_bd (f_X11_store 282 20 a2 M) (fun v5 M5 =>
    some ((), M5))
  else if a1 = 2 then
    hr_bd (f_X11_store 283 121 a2 M) (fun v7 M7 =>
    some ((), M7))
  else if a1 = 3 then
    hr_bd (f_X11_store 284 37 a2 M) (fun v9 M9 =>
    some ((), M9))
  else 
    hr_bd (f_X11_store 285 9 a2 M) (fun v11 M11 =>
    some ((), M11))
theorem g_X11_storeAll (a1 : Int32) (a2 : Int32) : ∀ (M : PM) (r : Unit × PM), f_X11_storeAll a1 a2 M = some r → hr_G 196 0 [some (.ref 275), some (.int a1), some (.int a2)] [] M (none, r.2) := by
  intro M r h
  unfold f_X11_storeAll at h
  refine hr_Grun mf_X11_storeAll lb_X11_storeAll_0 (P := True) (pc' := if a1 = 0 then 32 else if a1 = 1 then 44 else if a1 = 2 then 56 else if a1 = 3 then 68 else 80) (ls' := [some (.ref 275), some (.int a1), some (.int a2)]) (st' := []) (M' := M) rfl rfl trivial ?_
  refine hr_Gif h (fun _ h => ?_) (fun _ h => ?_)
  · refine hr_Grun mf_X11_storeAll lb_X11_storeAll_32 (P := hr_K 275 = 10 ∧ True) (pc' := 40) (ls' := [some (.ref 275), some (.int a1), some (.int a2)]) (st' := [.int a2, .int 70, .ref 281, .ref 275]) (M' := M) rfl rfl ⟨K_275, trivial⟩ ?_
    refine hr_Fb h (fun v3 M3 e3 h => ?_)
    refine hr_Gcv mf_X11_storeAll mf_X11_store lb_X11_storeAll_40 (b := 275) (as := [.ref 281, .int 70, .int a2]) (rest := []) (st2 := []) (v := none) (M1 := M3) rfl rfl rfl rfl rfl rfl K_275 (g_X11_store 281 70 a2 _ _ e3) rfl rfl ?_
    cases h
    exact hr_Gret mf_X11_storeAll lb_X11_storeAll_43 rfl rfl trivial
  refine hr_Gif h (fun _ h => ?_) (fun _ h => ?_)
  · refine hr_Grun mf_X11_storeAll lb_X11_storeAll_44 (P := hr_K 275 = 10 ∧ True) (pc' := 52) (ls' := [some (.ref 275), some (.int a1), some (.int a2)]) (st' := [.int a2, .int 20, .ref 282, .ref 275]) (M' := M) rfl rfl ⟨K_275, trivial⟩ ?_
    refine hr_Fb h (fun v5 M5 e5 h => ?_)
    refine hr_Gcv mf_X11_storeAll mf_X11_store lb_X11_storeAll_52 (b := 275) (as := [.ref 282, .int 20, .int a2]) (rest := []) (st2 := []) (v := none) (M1 := M5) rfl rfl rfl rfl rfl rfl K_275 (g_X11_store 282 20 a2 _ _ e5) rfl rfl ?_
    cases h
    exact hr_Gret mf_X11_storeAll lb_X11_storeAll_55 rfl rfl trivial
  refine hr_Gif h (fun _ h => ?_) (fun _ h => ?_)
  · refine hr_Grun mf_X11_storeAll lb_X11_storeAll_56 (P := hr_K 275 = 10 ∧ True) (pc' := 64) (ls' := [some (.ref 275), some (.int a1), some (.int a2)]) (st' := [.int a2, .int 121, .ref 283, .ref 275]) (M' := M) rfl rfl ⟨K_275, trivial⟩ ?_
    refine hr_Fb h (fun v7 M7 e7 h => ?_)
    refine hr_Gcv mf_X11_storeAll mf_X11_store lb_X11_storeAll_64 (b := 275) (as := [.ref 283, .int 121, .int a2]) (rest := []) (st2 := []) (v := none) (M1 := M7) rfl rfl rfl rfl rfl rfl K_275 (g_X11_store 283 121 a2 _ _ e7) rfl rfl ?_
    cases h
    exact hr_Gret mf_X11_storeAll lb_X11_storeAll_67 rfl rfl trivial
  refine hr_Gif h (fun _ h => ?_) (fun _ h => ?_)
  · refine hr_Grun mf_X11_storeAll lb_X11_storeAll_68 (P := hr_K 275 = 10 ∧ True) (pc' := 76) (ls' := [some (.ref 275), some (.int a1), some (.int a2)]) (st' := [.int a2, .int 37, .ref 284, .ref 275]) (M' := M) rfl rfl ⟨K_275, trivial⟩ ?_
    refine hr_Fb h (fun v9 M9 e9 h => ?_)
    refine hr_Gcv mf_X11_storeAll mf_X11_store lb_X11_storeAll_76 (b := 275) (as := [.ref 284, .int 37, .int a2]) (rest := []) (st2 := []) (v := none) (M1 := M9) rfl rfl rfl rfl rfl rfl K_275 (g_X11_store 284 37 a2 _ _ e9) rfl rfl ?_
    cases h
    exact hr_Gret mf_X11_storeAll lb_X11_storeAll_79 rfl rfl trivial
  · refine hr_Grun mf_X11_storeAll lb_X11_storeAll_80 (P := hr_K 275 = 10 ∧ True) (pc' := 88) (ls' := [some (.ref 275), some (.int a1), some (.int a2)]) (st' := [.int a2, .int 9, .ref 285, .ref 275]) (M' := M) rfl rfl ⟨K_275, trivial⟩ ?_
    refine hr_Fb h (fun v11 M11 e11 h => ?_)
    refine hr_Gcv mf_X11_storeAll mf_X11_store lb_X11_storeAll_88 (b := 275) (as := [.ref 285, .int 9, .int a2]) (rest := []) (st2 := []) (v := none) (M1 := M11) rfl rfl rfl rfl rfl rfl K_275 (g_X11_store 285 9 a2 _ _ e11) rfl rfl ?_
    cases h
    exact hr_Gret mf_X11_storeAll lb_X11_storeAll_91 rfl rfl trivial
theorem mf_X11_text : hr_mf 197 11 9 (some .int) 4 2 bk_X11_text := ⟨rfl, rfl, rfl, rfl, rfl, rfl⟩
theorem lb_X11_text_0 : bk_X11_text.lookup 0 = some [(.aload_n 0, 1), (.iconst 0, 1), (.putfield 100, 3), (.aload_n 0, 1), (.aload_n 0, 1), (.getfield 13, 3), (.iconst 0, 1), (.iaload, 1), (.putfield 123, 3), (.aload_n 0, 1), (.getfield 13, 3), (.iconst 0, 1), (.iconst 0, 1), (.iastore, 1), (.aload_n 0, 1), (.getfield 17, 3), (.iconst 0, 1), (.iconst 0, 1), (.iastore, 1), (.aload_n 0, 1), (.getfield 20, 3), (.iconst 0, 1), (.iconst (-1), 1), (.iastore, 1), (.iload_n 1, 1), (.iconst 0, 1), (.iconst 4, 1)] := rfl
theorem lb_X11_text_39 : bk_X11_text.lookup 39 = some [(.invokestatic 112, 3)] := rfl
theorem lb_X11_text_42 : bk_X11_text.lookup 42 = some [(.ifCond .eq 30, 3)] := rfl
theorem lb_X11_text_45 : bk_X11_text.lookup 45 = some [(.iload_n 2, 1), (.iconst (-1), 1), (.if_icmp .ne 16, 3)] := rfl
theorem lb_X11_text_50 : bk_X11_text.lookup 50 = some [(.aload_n 0, 1), (.getfield 23, 3), (.iload_n 1, 1), (.iaload, 1), (.iconst 2, 1), (.if_icmp .ne 18, 3)] := rfl
theorem lb_X11_text_60 : bk_X11_text.lookup 60 = some [(.goto 12, 3)] := rfl
theorem lb_X11_text_63 : bk_X11_text.lookup 63 = some [(.aload_n 0, 1), (.iload_n 1, 1), (.iload_n 2, 1)] := rfl
theorem lb_X11_text_66 : bk_X11_text.lookup 66 = some [(.invokevirtual 269, 3)] := rfl
theorem lb_X11_text_69 : bk_X11_text.lookup 69 = some [(.ifCond .ne 6, 3)] := rfl
theorem lb_X11_text_72 : bk_X11_text.lookup 72 = some [(.bipush (-2), 2)] := rfl
theorem lb_X11_text_74 : bk_X11_text.lookup 74 = some [(.ireturn, 1)] := rfl
theorem lb_X11_text_75 : bk_X11_text.lookup 75 = some [(.aload_n 0, 1), (.iload_n 1, 1)] := rfl
theorem lb_X11_text_77 : bk_X11_text.lookup 77 = some [(.invokevirtual 272, 3)] := rfl
theorem lb_X11_text_80 : bk_X11_text.lookup 80 = some [(.ifCond .ne 5, 3)] := rfl
theorem lb_X11_text_83 : bk_X11_text.lookup 83 = some [(.iconst (-1), 1)] := rfl
theorem lb_X11_text_84 : bk_X11_text.lookup 84 = some [(.ireturn, 1)] := rfl
theorem lb_X11_text_85 : bk_X11_text.lookup 85 = some [(.iload_n 2, 1), (.iconst (-1), 1), (.if_icmp .ne 12, 3)] := rfl
theorem lb_X11_text_90 : bk_X11_text.lookup 90 = some [(.aload_n 0, 1), (.getfield 23, 3), (.iload_n 1, 1), (.iaload, 1), (.goto 4, 3)] := rfl
theorem lb_X11_text_99 : bk_X11_text.lookup 99 = some [(.iload_n 2, 1)] := rfl
theorem lb_X11_text_100 : bk_X11_text.lookup 100 = some [(.istore_n 3, 1), (.aload_n 0, 1), (.getfield 23, 3), (.iload_n 1, 1), (.dup2, 1), (.iaload, 1), (.iload_n 2, 1), (.iconst (-1), 1), (.if_icmp .ne 7, 3)] := rfl
theorem lb_X11_text_113 : bk_X11_text.lookup 113 = some [(.iconst 1, 1), (.goto 4, 3)] := rfl
theorem lb_X11_text_117 : bk_X11_text.lookup 117 = some [(.iconst 0, 1)] := rfl
theorem lb_X11_text_118 : bk_X11_text.lookup 118 = some [(.iadd, 1), (.iastore, 1), (.aload_n 0, 1), (.iload_n 1, 1), (.iload_n 3, 1)] := rfl
theorem lb_X11_text_123 : bk_X11_text.lookup 123 = some [(.invokevirtual 275, 3)] := rfl
theorem lb_X11_text_126 : bk_X11_text.lookup 126 = some [(.iload_n 3, 1)] := rfl
theorem lb_X11_text_127 : bk_X11_text.lookup 127 = some [(.ireturn, 1)] := rfl
def f_X11_text_118 (a1 : Int32) (a2 : Int32) (x3 : Int32) (s0 : Int32) (s1 : Int32) (s2 : Int32) (M : PM) : Option (Int32 × PM) :=
  if inB s2 20 = true then 
  hr_bd (f_X11_storeAll a1 x3 (hr_si M 280 s2.toNatClampNeg (s1 + s0))) (fun v2 M2 =>
  some (x3, M2)) else none
theorem g_X11_text_118 (a1 : Int32) (a2 : Int32)  : ∀ (x3 : Int32) (s0 : Int32) (s1 : Int32) (s2 : Int32) (M : PM) (r : Int32 × PM), f_X11_text_118 a1 a2 x3 s0 s1 s2 M = some r → hr_G 197 118 [some (.ref 275), some (.int a1), none, some (.int x3)] [.int s0, .int s1, .int s2, .ref 280] M (some (.int r.1), r.2) := by
  intro x3 s0 s1 s2 M r h
  unfold f_X11_text_118 at h
  refine hr_Fg h (fun hg1_0 h => ?_)
  refine hr_Grun mf_X11_text lb_X11_text_118 (P := ((hr_K 280 = 12 ∧ 280 < hr_n) ∧ vp_in s2 (hr_N 280)) ∧ True) (pc' := 123) (ls' := [some (.ref 275), some (.int a1), none, some (.int x3)]) (st' := [.int x3, .int a1, .ref 275]) (M' := hr_si M 280 s2.toNatClampNeg (s1 + s0)) rfl rfl ⟨⟨⟨K_280, L_280⟩, (inB_N N_280 hg1_0)⟩, trivial⟩ ?_
  refine hr_Fb h (fun v2 M2 e2 h => ?_)
  refine hr_Gcv mf_X11_text mf_X11_storeAll lb_X11_text_123 (b := 275) (as := [.int a1, .int x3]) (rest := []) (st2 := []) (v := none) (M1 := M2) rfl rfl rfl rfl rfl rfl K_275 (g_X11_storeAll a1 x3 _ _ e2) rfl rfl ?_
  refine hr_Grun mf_X11_text lb_X11_text_126 (P := True) (pc' := 127) (ls' := [some (.ref 275), some (.int a1), none, some (.int x3)]) (st' := [.int x3]) (M' := M2) rfl rfl trivial ?_
  cases h
  exact hr_Gret mf_X11_text lb_X11_text_127 rfl rfl trivial
def f_X11_text_100 (a1 : Int32) (a2 : Int32) (s0 : Int32) (M : PM) : Option (Int32 × PM) :=
  if inB a1 20 = true then if a2 = (-1) then
    f_X11_text_118 a1 a2 s0 1 (M.1 280 a1.toNatClampNeg) a1 M
  else
    f_X11_text_118 a1 a2 s0 0 (M.1 280 a1.toNatClampNeg) a1 M
  else none
theorem g_X11_text_100 (a1 : Int32) (a2 : Int32)  : ∀ (s0 : Int32) (M : PM) (r : Int32 × PM), f_X11_text_100 a1 a2 s0 M = some r → hr_G 197 100 [some (.ref 275), some (.int a1), some (.int a2), none] [.int s0] M (some (.int r.1), r.2) := by
  intro s0 M r h
  unfold f_X11_text_100 at h
  refine hr_Fg h (fun hg1_0 h => ?_)
  refine hr_Grun mf_X11_text lb_X11_text_100 (P := hr_K 275 = 10 ∧ (hr_K 280 = 12 ∧ vp_in a1 (hr_N 280)) ∧ True) (pc' := if a2 = (-1) then 113 else 117) (ls' := [some (.ref 275), some (.int a1), some (.int a2), some (.int s0)]) (st' := [.int (M.1 280 a1.toNatClampNeg), .int a1, .ref 280]) (M' := M) rfl rfl ⟨K_275, ⟨K_280, (inB_N N_280 hg1_0)⟩, trivial⟩ ?_
  refine hr_Gif h (fun _ h => ?_) (fun _ h => ?_)
  · refine hr_Grun mf_X11_text lb_X11_text_113 (P := True) (pc' := 118) (ls' := [some (.ref 275), some (.int a1), some (.int a2), some (.int s0)]) (st' := [.int 1, .int (M.1 280 a1.toNatClampNeg), .int a1, .ref 280]) (M' := M) rfl rfl trivial ?_
    refine hr_Gle (ls := [some (.ref 275), some (.int a1), none, some (.int s0)]) (hr_le_s (hr_le_s (hr_le_n (hr_le_s hr_le_0)))) ?_
    exact g_X11_text_118 a1 a2 s0 1 (M.1 280 a1.toNatClampNeg) a1 M _ h
  · refine hr_Grun mf_X11_text lb_X11_text_117 (P := True) (pc' := 118) (ls' := [some (.ref 275), some (.int a1), some (.int a2), some (.int s0)]) (st' := [.int 0, .int (M.1 280 a1.toNatClampNeg), .int a1, .ref 280]) (M' := M) rfl rfl trivial ?_
    refine hr_Gle (ls := [some (.ref 275), some (.int a1), none, some (.int s0)]) (hr_le_s (hr_le_s (hr_le_n (hr_le_s hr_le_0)))) ?_
    exact g_X11_text_118 a1 a2 s0 0 (M.1 280 a1.toNatClampNeg) a1 M _ h
def f_X11_text_75 (a1 : Int32) (a2 : Int32) (M : PM) : Option (Int32 × PM) :=
  hr_bd (f_X11_readText a1 M) (fun v2 M2 =>
  if v2 = 0 then
    some ((-1), M2)
  else
    if a2 = (-1) then
      if inB a1 20 = true then 
      f_X11_text_100 a1 a2 (M2.1 280 a1.toNatClampNeg) M2 else none
    else
      f_X11_text_100 a1 a2 a2 M2)
theorem g_X11_text_75 (a1 : Int32) (a2 : Int32)  : ∀ (M : PM) (r : Int32 × PM), f_X11_text_75 a1 a2 M = some r → hr_G 197 75 [some (.ref 275), some (.int a1), some (.int a2), none] [] M (some (.int r.1), r.2) := by
  intro M r h
  unfold f_X11_text_75 at h
  refine hr_Grun mf_X11_text lb_X11_text_75 (P := True) (pc' := 77) (ls' := [some (.ref 275), some (.int a1), some (.int a2), none]) (st' := [.int a1, .ref 275]) (M' := M) rfl rfl trivial ?_
  refine hr_Fb h (fun v2 M2 e2 h => ?_)
  refine hr_Gcv mf_X11_text mf_X11_readText lb_X11_text_77 (b := 275) (as := [.int a1]) (rest := []) (st2 := [.int v2]) (v := some (.int v2)) (M1 := M2) rfl rfl rfl rfl rfl rfl K_275 (g_X11_readText a1 _ _ e2) rfl rfl ?_
  refine hr_Grun mf_X11_text lb_X11_text_80 (P := True) (pc' := if v2 = 0 then 83 else 85) (ls' := [some (.ref 275), some (.int a1), some (.int a2), none]) (st' := []) (M' := M2) rfl rfl trivial ?_
  refine hr_Gif h (fun _ h => ?_) (fun _ h => ?_)
  · refine hr_Grun mf_X11_text lb_X11_text_83 (P := True) (pc' := 84) (ls' := [some (.ref 275), some (.int a1), some (.int a2), none]) (st' := [.int (-1)]) (M' := M2) rfl rfl trivial ?_
    cases h
    exact hr_Gret mf_X11_text lb_X11_text_84 rfl rfl trivial
  · refine hr_Grun mf_X11_text lb_X11_text_85 (P := True) (pc' := if a2 = (-1) then 90 else 99) (ls' := [some (.ref 275), some (.int a1), some (.int a2), none]) (st' := []) (M' := M2) rfl rfl trivial ?_
    refine hr_Gif h (fun _ h => ?_) (fun _ h => ?_)
    · refine hr_Fg h (fun hg6_0 h => ?_)
      refine hr_Grun mf_X11_text lb_X11_text_90 (P := hr_K 275 = 10 ∧ (hr_K 280 = 12 ∧ vp_in a1 (hr_N 280)) ∧ True) (pc' := 100) (ls' := [some (.ref 275), some (.int a1), some (.int a2), none]) (st' := [.int (M2.1 280 a1.toNatClampNeg)]) (M' := M2) rfl rfl ⟨K_275, ⟨K_280, (inB_N N_280 hg6_0)⟩, trivial⟩ ?_
      exact g_X11_text_100 a1 a2 (M2.1 280 a1.toNatClampNeg) M2 _ h
    · refine hr_Grun mf_X11_text lb_X11_text_99 (P := True) (pc' := 100) (ls' := [some (.ref 275), some (.int a1), some (.int a2), none]) (st' := [.int a2]) (M' := M2) rfl rfl trivial ?_
      exact g_X11_text_100 a1 a2 a2 M2 _ h
def f_X11_text (a1 : Int32) (a2 : Int32) (M : PM) : Option (Int32 × PM) :=
  if inB 0 4 = true then if inB 0 4 = true then if inB 0 4 = true then if inB 0 4 = true then 
  hr_bd (f_X11_in a1 0 4 (hr_si (hr_si (hr_si (hr_si (hr_si M 275 0 0) 275 12 ((hr_si M 275 0 0).1 277 (0 : Int32).toNatClampNeg)) 277 (0 : Int32).toNatClampNeg 0) 278 (0 : Int32).toNatClampNeg 0) 279 (0 : Int32).toNatClampNeg (-1))) (fun v2 M2 =>
  if v2 = 0 then
    some ((-2), M2)
  else
    if a2 = (-1) then
      if inB a1 20 = true then if (M2.1 280 a1.toNatClampNeg) = 2 then
        some ((-2), M2)
      else
        f_X11_text_75 a1 a2 M2
      else none
    else
      hr_bd (f_X11_is a1 a2 M2) (fun v10 M10 =>
      if v10 = 0 then
        some ((-2), M10)
      else
        f_X11_text_75 a1 a2 M10)) else none else none else none else none
theorem g_X11_text (a1 : Int32) (a2 : Int32) : ∀ (M : PM) (r : Int32 × PM), f_X11_text a1 a2 M = some r → hr_G 197 0 [some (.ref 275), some (.int a1), some (.int a2), none] [] M (some (.int r.1), r.2) := by
  intro M r h
  unfold f_X11_text at h
  refine hr_Fg h (fun hg1_0 h => ?_)
  refine hr_Fg h (fun hg1_1 h => ?_)
  refine hr_Fg h (fun hg1_2 h => ?_)
  refine hr_Fg h (fun hg1_3 h => ?_)
  refine hr_Grun mf_X11_text lb_X11_text_0 (P := (hr_K 275 = 10 ∧ 275 < hr_n) ∧ hr_K 275 = 10 ∧ (hr_K 277 = 12 ∧ vp_in 0 (hr_N 277)) ∧ (hr_K 275 = 10 ∧ 275 < hr_n) ∧ hr_K 275 = 10 ∧ ((hr_K 277 = 12 ∧ 277 < hr_n) ∧ vp_in 0 (hr_N 277)) ∧ hr_K 275 = 10 ∧ ((hr_K 278 = 12 ∧ 278 < hr_n) ∧ vp_in 0 (hr_N 278)) ∧ hr_K 275 = 10 ∧ ((hr_K 279 = 12 ∧ 279 < hr_n) ∧ vp_in 0 (hr_N 279)) ∧ True) (pc' := 39) (ls' := [some (.ref 275), some (.int a1), some (.int a2), none]) (st' := [.int 4, .int 0, .int a1]) (M' := hr_si (hr_si (hr_si (hr_si (hr_si M 275 0 0) 275 12 ((hr_si M 275 0 0).1 277 (0 : Int32).toNatClampNeg)) 277 (0 : Int32).toNatClampNeg 0) 278 (0 : Int32).toNatClampNeg 0) 279 (0 : Int32).toNatClampNeg (-1)) rfl rfl ⟨⟨K_275, L_275⟩, K_275, ⟨K_277, (inB_N N_277 hg1_0)⟩, ⟨K_275, L_275⟩, K_275, ⟨⟨K_277, L_277⟩, (inB_N N_277 hg1_1)⟩, K_275, ⟨⟨K_278, L_278⟩, (inB_N N_278 hg1_2)⟩, K_275, ⟨⟨K_279, L_279⟩, (inB_N N_279 hg1_3)⟩, trivial⟩ ?_
  refine hr_Fb h (fun v2 M2 e2 h => ?_)
  refine hr_Gcs mf_X11_text mf_X11_in lb_X11_text_39 (as := [.int a1, .int 0, .int 4]) (rest := []) (st2 := [.int v2]) (v := some (.int v2)) (M1 := M2) rfl rfl rfl rfl rfl rfl (g_X11_in a1 0 4 _ _ e2) rfl rfl ?_
  refine hr_Grun mf_X11_text lb_X11_text_42 (P := True) (pc' := if v2 = 0 then 72 else 45) (ls' := [some (.ref 275), some (.int a1), some (.int a2), none]) (st' := []) (M' := M2) rfl rfl trivial ?_
  refine hr_Gif h (fun _ h => ?_) (fun _ h => ?_)
  · refine hr_Grun mf_X11_text lb_X11_text_72 (P := True) (pc' := 74) (ls' := [some (.ref 275), some (.int a1), some (.int a2), none]) (st' := [.int (-2)]) (M' := M2) rfl rfl trivial ?_
    cases h
    exact hr_Gret mf_X11_text lb_X11_text_74 rfl rfl trivial
  · refine hr_Grun mf_X11_text lb_X11_text_45 (P := True) (pc' := if a2 = (-1) then 50 else 63) (ls' := [some (.ref 275), some (.int a1), some (.int a2), none]) (st' := []) (M' := M2) rfl rfl trivial ?_
    refine hr_Gif h (fun _ h => ?_) (fun _ h => ?_)
    · refine hr_Fg h (fun hg6_0 h => ?_)
      refine hr_Grun mf_X11_text lb_X11_text_50 (P := hr_K 275 = 10 ∧ (hr_K 280 = 12 ∧ vp_in a1 (hr_N 280)) ∧ True) (pc' := if (M2.1 280 a1.toNatClampNeg) = 2 then 60 else 75) (ls' := [some (.ref 275), some (.int a1), some (.int a2), none]) (st' := []) (M' := M2) rfl rfl ⟨K_275, ⟨K_280, (inB_N N_280 hg6_0)⟩, trivial⟩ ?_
      refine hr_Gif h (fun _ h => ?_) (fun _ h => ?_)
      · refine hr_Grun mf_X11_text lb_X11_text_60 (P := True) (pc' := 72) (ls' := [some (.ref 275), some (.int a1), some (.int a2), none]) (st' := []) (M' := M2) rfl rfl trivial ?_
        refine hr_Grun mf_X11_text lb_X11_text_72 (P := True) (pc' := 74) (ls' := [some (.ref 275), some (.int a1), some (.int a2), none]) (st' := [.int (-2)]) (M' := M2) rfl rfl trivial ?_
        cases h
        exact hr_Gret mf_X11_text lb_X11_text_74 rfl rfl trivial
      · exact g_X11_text_75 a1 a2 M2 _ h
    · refine hr_Grun mf_X11_text lb_X11_text_63 (P := True) (pc' := 66) (ls' := [some (.ref 275), some (.int a1), some (.int a2), none]) (st' := [.int a2, .int a1, .ref 275]) (M' := M2) rfl rfl trivial ?_
      refine hr_Fb h (fun v10 M10 e10 h => ?_)
      refine hr_Gcv mf_X11_text mf_X11_is lb_X11_text_66 (b := 275) (as := [.int a1, .int a2]) (rest := []) (st2 := [.int v10]) (v := some (.int v10)) (M1 := M10) rfl rfl rfl rfl rfl rfl K_275 (g_X11_is a1 a2 _ _ e10) rfl rfl ?_
      refine hr_Grun mf_X11_text lb_X11_text_69 (P := True) (pc' := if v10 = 0 then 72 else 75) (ls' := [some (.ref 275), some (.int a1), some (.int a2), none]) (st' := []) (M' := M10) rfl rfl trivial ?_
      refine hr_Gif h (fun _ h => ?_) (fun _ h => ?_)
      · refine hr_Grun mf_X11_text lb_X11_text_72 (P := True) (pc' := 74) (ls' := [some (.ref 275), some (.int a1), some (.int a2), none]) (st' := [.int (-2)]) (M' := M10) rfl rfl trivial ?_
        cases h
        exact hr_Gret mf_X11_text lb_X11_text_74 rfl rfl trivial
      · exact g_X11_text_75 a1 a2 M10 _ h
theorem mf_X11_fault : hr_mf 198 11 0 (some .int) 2 1 bk_X11_fault := ⟨rfl, rfl, rfl, rfl, rfl, rfl⟩
theorem lb_X11_fault_0 : bk_X11_fault.lookup 0 = some [(.aload_n 0, 1), (.iconst 0, 1), (.putfield 100, 3), (.iload_n 1, 1), (.ifCond .ne 12, 3)] := rfl
theorem lb_X11_fault_9 : bk_X11_fault.lookup 9 = some [(.aload_n 0, 1), (.getfield 17, 3), (.iconst 0, 1), (.iaload, 1), (.goto 18, 3)] := rfl
theorem lb_X11_fault_18 : bk_X11_fault.lookup 18 = some [(.iload_n 1, 1), (.iconst 1, 1), (.if_icmp .ne 12, 3)] := rfl
theorem lb_X11_fault_23 : bk_X11_fault.lookup 23 = some [(.aload_n 0, 1), (.getfield 20, 3), (.iconst 0, 1), (.iaload, 1), (.goto 4, 3)] := rfl
theorem lb_X11_fault_32 : bk_X11_fault.lookup 32 = some [(.iconst (-1), 1)] := rfl
theorem lb_X11_fault_33 : bk_X11_fault.lookup 33 = some [(.ireturn, 1)] := rfl
def f_X11_fault (a1 : Int32) (M : PM) : Option (Int32 × PM) :=
  if a1 = 0 then
    if inB 0 4 = true then 
    some (((hr_si M 275 0 0).1 278 (0 : Int32).toNatClampNeg), hr_si M 275 0 0) else none
  else
    if a1 = 1 then
      if inB 0 4 = true then 
      some (((hr_si M 275 0 0).1 279 (0 : Int32).toNatClampNeg), hr_si M 275 0 0) else none
    else
      some ((-1), hr_si M 275 0 0)
theorem g_X11_fault (a1 : Int32) : ∀ (M : PM) (r : Int32 × PM), f_X11_fault a1 M = some r → hr_G 198 0 [some (.ref 275), some (.int a1)] [] M (some (.int r.1), r.2) := by
  intro M r h
  unfold f_X11_fault at h
  refine hr_Grun mf_X11_fault lb_X11_fault_0 (P := (hr_K 275 = 10 ∧ 275 < hr_n) ∧ True) (pc' := if a1 = 0 then 9 else 18) (ls' := [some (.ref 275), some (.int a1)]) (st' := []) (M' := hr_si M 275 0 0) rfl rfl ⟨⟨K_275, L_275⟩, trivial⟩ ?_
  refine hr_Gif h (fun _ h => ?_) (fun _ h => ?_)
  · refine hr_Fg h (fun hg2_0 h => ?_)
    refine hr_Grun mf_X11_fault lb_X11_fault_9 (P := hr_K 275 = 10 ∧ (hr_K 278 = 12 ∧ vp_in 0 (hr_N 278)) ∧ True) (pc' := 33) (ls' := [some (.ref 275), some (.int a1)]) (st' := [.int ((hr_si M 275 0 0).1 278 (0 : Int32).toNatClampNeg)]) (M' := hr_si M 275 0 0) rfl rfl ⟨K_275, ⟨K_278, (inB_N N_278 hg2_0)⟩, trivial⟩ ?_
    cases h
    exact hr_Gret mf_X11_fault lb_X11_fault_33 rfl rfl trivial
  · refine hr_Grun mf_X11_fault lb_X11_fault_18 (P := True) (pc' := if a1 = 1 then 23 else 32) (ls' := [some (.ref 275), some (.int a1)]) (st' := []) (M' := hr_si M 275 0 0) rfl rfl trivial ?_
    refine hr_Gif h (fun _ h => ?_) (fun _ h => ?_)
    · refine hr_Fg h (fun hg4_0 h => ?_)
      refine hr_Grun mf_X11_fault lb_X11_fault_23 (P := hr_K 275 = 10 ∧ (hr_K 279 = 12 ∧ vp_in 0 (hr_N 279)) ∧ True) (pc' := 33) (ls' := [some (.ref 275), some (.int a1)]) (st' := [.int ((hr_si M 275 0 0).1 279 (0 : Int32).toNatClampNeg)]) (M' := hr_si M 275 0 0) rfl rfl ⟨K_275, ⟨K_279, (inB_N N_279 hg4_0)⟩, trivial⟩ ?_
      cases h
      exact hr_Gret mf_X11_fault lb_X11_fault_33 rfl rfl trivial
    · refine hr_Grun mf_X11_fault lb_X11_fault_32 (P := True) (pc' := 33) (ls' := [some (.ref 275), some (.int a1)]) (st' := [.int (-1)]) (M' := hr_si M 275 0 0) rfl rfl trivial ?_
      cases h
      exact hr_Gret mf_X11_fault lb_X11_fault_33 rfl rfl trivial
