/-! printed by wip/whole/gen/gen20.py: methods as functions of the pure memory -/
theorem mf_X5_byteAt : hr_mf 85 5 0 (some .int) 2 1 bk_X5_byteAt := ⟨rfl, rfl, rfl, rfl, rfl, rfl⟩
theorem lb_X5_byteAt_0 : bk_X5_byteAt.lookup 0 = some [(.iload_n 1, 1), (.ifCond .lt 20, 3)] := rfl
theorem lb_X5_byteAt_4 : bk_X5_byteAt.lookup 4 = some [(.iload_n 1, 1), (.aload_n 0, 1), (.getfield 36, 3), (.if_icmp .ge 12, 3)] := rfl
theorem lb_X5_byteAt_12 : bk_X5_byteAt.lookup 12 = some [(.iload_n 1, 1), (.aload_n 0, 1), (.getfield 25, 3), (.arraylength, 1), (.if_icmp .lt 7, 3)] := rfl
theorem lb_X5_byteAt_21 : bk_X5_byteAt.lookup 21 = some [(.iconst (-1), 1), (.goto 13, 3)] := rfl
theorem lb_X5_byteAt_25 : bk_X5_byteAt.lookup 25 = some [(.aload_n 0, 1), (.getfield 25, 3), (.iload_n 1, 1), (.baload, 1), (.sipush 255, 3), (.iand, 1)] := rfl
theorem lb_X5_byteAt_35 : bk_X5_byteAt.lookup 35 = some [(.ireturn, 1)] := rfl
def f_X5_byteAt (a1 : Int32) (M : PM) : Option (Int32 × PM) :=
  if a1 < 0 then
    some ((-1), M)
  else
    if (M.1 223 5) ≤ a1 then
      some ((-1), M)
    else
      if hr_K M.2.2 = 11 then if a1 < (Int32.ofNat (hr_N M.2.2)) then
        if hr_K M.2.2 = 11 then if inB a1 (hr_N M.2.2) = true then 
        some (((M.1 M.2.2 a1.toNatClampNeg) &&& 255), M) else none else none
      else
        some ((-1), M)
      else none
theorem g_X5_byteAt (a1 : Int32) : ∀ (M : PM) (r : Int32 × PM), f_X5_byteAt a1 M = some r → hr_G 85 0 [some (.ref 223), some (.int a1)] [] M (some (.int r.1), r.2) := by
  intro M r h
  unfold f_X5_byteAt at h
  refine hr_Grun mf_X5_byteAt lb_X5_byteAt_0 (P := True) (pc' := if a1 < 0 then 21 else 4) (ls' := [some (.ref 223), some (.int a1)]) (st' := []) (M' := M) rfl rfl trivial ?_
  refine hr_Gif h (fun _ h => ?_) (fun _ h => ?_)
  · refine hr_Grun mf_X5_byteAt lb_X5_byteAt_21 (P := True) (pc' := 35) (ls' := [some (.ref 223), some (.int a1)]) (st' := [.int (-1)]) (M' := M) rfl rfl trivial ?_
    cases h
    exact hr_Gret mf_X5_byteAt lb_X5_byteAt_35 rfl rfl trivial
  · refine hr_Grun mf_X5_byteAt lb_X5_byteAt_4 (P := hr_K 223 = 4 ∧ True) (pc' := if (M.1 223 5) ≤ a1 then 21 else 12) (ls' := [some (.ref 223), some (.int a1)]) (st' := []) (M' := M) rfl rfl ⟨K_223, trivial⟩ ?_
    refine hr_Gif h (fun _ h => ?_) (fun _ h => ?_)
    · refine hr_Grun mf_X5_byteAt lb_X5_byteAt_21 (P := True) (pc' := 35) (ls' := [some (.ref 223), some (.int a1)]) (st' := [.int (-1)]) (M' := M) rfl rfl trivial ?_
      cases h
      exact hr_Gret mf_X5_byteAt lb_X5_byteAt_35 rfl rfl trivial
    · refine hr_Fg h (fun hg5_0 h => ?_)
      refine hr_Grun mf_X5_byteAt lb_X5_byteAt_12 (P := hr_K 223 = 4 ∧ (11 ≤ hr_K M.2.2 ∧ hr_K M.2.2 ≤ 18) ∧ True) (pc' := if a1 < (Int32.ofNat (hr_N M.2.2)) then 25 else 21) (ls' := [some (.ref 223), some (.int a1)]) (st' := []) (M' := M) rfl rfl ⟨K_223, (hr_11 hg5_0 (by decide)), trivial⟩ ?_
      refine hr_Gif h (fun _ h => ?_) (fun _ h => ?_)
      · refine hr_Fg h (fun hg6_0 h => ?_)
        refine hr_Fg h (fun hg6_1 h => ?_)
        refine hr_Grun mf_X5_byteAt lb_X5_byteAt_25 (P := hr_K 223 = 4 ∧ ((hr_K M.2.2 = 11 ∨ hr_K M.2.2 = 14) ∧ vp_in a1 (hr_N M.2.2)) ∧ True) (pc' := 35) (ls' := [some (.ref 223), some (.int a1)]) (st' := [.int ((M.1 M.2.2 a1.toNatClampNeg) &&& 255)]) (M' := M) rfl rfl ⟨K_223, ⟨Or.inl hg6_0, (inB_N rfl hg6_1)⟩, trivial⟩ ?_
        cases h
        exact hr_Gret mf_X5_byteAt lb_X5_byteAt_35 rfl rfl trivial
      · refine hr_Grun mf_X5_byteAt lb_X5_byteAt_21 (P := True) (pc' := 35) (ls' := [some (.ref 223), some (.int a1)]) (st' := [.int (-1)]) (M' := M) rfl rfl trivial ?_
        cases h
        exact hr_Gret mf_X5_byteAt lb_X5_byteAt_35 rfl rfl trivial
theorem mf_X5_isLetter : hr_mf 87 5 0 (some .boolean) 1 1 bk_X5_isLetter := ⟨rfl, rfl, rfl, rfl, rfl, rfl⟩
theorem lb_X5_isLetter_0 : bk_X5_isLetter.lookup 0 = some [(.iload_n 0, 1), (.bipush 97, 2), (.if_icmp .lt 13, 3)] := rfl
theorem lb_X5_isLetter_6 : bk_X5_isLetter.lookup 6 = some [(.iload_n 0, 1), (.bipush 122, 2), (.if_icmp .gt 7, 3)] := rfl
theorem lb_X5_isLetter_12 : bk_X5_isLetter.lookup 12 = some [(.iconst 1, 1), (.goto 4, 3)] := rfl
theorem lb_X5_isLetter_16 : bk_X5_isLetter.lookup 16 = some [(.iconst 0, 1)] := rfl
theorem lb_X5_isLetter_17 : bk_X5_isLetter.lookup 17 = some [(.ireturn, 1)] := rfl
def f_X5_isLetter (a0 : Int32) (M : PM) : Option (Int32 × PM) :=
  if a0 < 97 then
    some (0, M)
  else
    if 122 < a0 then
      some (0, M)
    else
      some (1, M)
theorem g_X5_isLetter (a0 : Int32) : ∀ (M : PM) (r : Int32 × PM), f_X5_isLetter a0 M = some r → hr_G 87 0 [some (.int a0)] [] M (some (.int r.1), r.2) := by
  intro M r h
  unfold f_X5_isLetter at h
  refine hr_Grun mf_X5_isLetter lb_X5_isLetter_0 (P := True) (pc' := if a0 < 97 then 16 else 6) (ls' := [some (.int a0)]) (st' := []) (M' := M) rfl rfl trivial ?_
  refine hr_Gif h (fun _ h => ?_) (fun _ h => ?_)
  · refine hr_Grun mf_X5_isLetter lb_X5_isLetter_16 (P := True) (pc' := 17) (ls' := [some (.int a0)]) (st' := [.int 0]) (M' := M) rfl rfl trivial ?_
    cases h
    exact hr_Gret mf_X5_isLetter lb_X5_isLetter_17 rfl rfl (Or.inl rfl)
  · refine hr_Grun mf_X5_isLetter lb_X5_isLetter_6 (P := True) (pc' := if 122 < a0 then 16 else 12) (ls' := [some (.int a0)]) (st' := []) (M' := M) rfl rfl trivial ?_
    refine hr_Gif h (fun _ h => ?_) (fun _ h => ?_)
    · refine hr_Grun mf_X5_isLetter lb_X5_isLetter_16 (P := True) (pc' := 17) (ls' := [some (.int a0)]) (st' := [.int 0]) (M' := M) rfl rfl trivial ?_
      cases h
      exact hr_Gret mf_X5_isLetter lb_X5_isLetter_17 rfl rfl (Or.inl rfl)
    · refine hr_Grun mf_X5_isLetter lb_X5_isLetter_12 (P := True) (pc' := 17) (ls' := [some (.int a0)]) (st' := [.int 1]) (M' := M) rfl rfl trivial ?_
      cases h
      exact hr_Gret mf_X5_isLetter lb_X5_isLetter_17 rfl rfl (Or.inr rfl)
theorem mf_X5_isDigit : hr_mf 88 5 0 (some .boolean) 1 1 bk_X5_isDigit := ⟨rfl, rfl, rfl, rfl, rfl, rfl⟩
theorem lb_X5_isDigit_0 : bk_X5_isDigit.lookup 0 = some [(.iload_n 0, 1), (.bipush 48, 2), (.if_icmp .lt 13, 3)] := rfl
theorem lb_X5_isDigit_6 : bk_X5_isDigit.lookup 6 = some [(.iload_n 0, 1), (.bipush 57, 2), (.if_icmp .gt 7, 3)] := rfl
theorem lb_X5_isDigit_12 : bk_X5_isDigit.lookup 12 = some [(.iconst 1, 1), (.goto 4, 3)] := rfl
theorem lb_X5_isDigit_16 : bk_X5_isDigit.lookup 16 = some [(.iconst 0, 1)] := rfl
theorem lb_X5_isDigit_17 : bk_X5_isDigit.lookup 17 = some [(.ireturn, 1)] := rfl
def f_X5_isDigit (a0 : Int32) (M : PM) : Option (Int32 × PM) :=
  if a0 < 48 then
    some (0, M)
  else
    if 57 < a0 then
      some (0, M)
    else
      some (1, M)
theorem g_X5_isDigit (a0 : Int32) : ∀ (M : PM) (r : Int32 × PM), f_X5_isDigit a0 M = some r → hr_G 88 0 [some (.int a0)] [] M (some (.int r.1), r.2) := by
  intro M r h
  unfold f_X5_isDigit at h
  refine hr_Grun mf_X5_isDigit lb_X5_isDigit_0 (P := True) (pc' := if a0 < 48 then 16 else 6) (ls' := [some (.int a0)]) (st' := []) (M' := M) rfl rfl trivial ?_
  refine hr_Gif h (fun _ h => ?_) (fun _ h => ?_)
  · refine hr_Grun mf_X5_isDigit lb_X5_isDigit_16 (P := True) (pc' := 17) (ls' := [some (.int a0)]) (st' := [.int 0]) (M' := M) rfl rfl trivial ?_
    cases h
    exact hr_Gret mf_X5_isDigit lb_X5_isDigit_17 rfl rfl (Or.inl rfl)
  · refine hr_Grun mf_X5_isDigit lb_X5_isDigit_6 (P := True) (pc' := if 57 < a0 then 16 else 12) (ls' := [some (.int a0)]) (st' := []) (M' := M) rfl rfl trivial ?_
    refine hr_Gif h (fun _ h => ?_) (fun _ h => ?_)
    · refine hr_Grun mf_X5_isDigit lb_X5_isDigit_16 (P := True) (pc' := 17) (ls' := [some (.int a0)]) (st' := [.int 0]) (M' := M) rfl rfl trivial ?_
      cases h
      exact hr_Gret mf_X5_isDigit lb_X5_isDigit_17 rfl rfl (Or.inl rfl)
    · refine hr_Grun mf_X5_isDigit lb_X5_isDigit_12 (P := True) (pc' := 17) (ls' := [some (.int a0)]) (st' := [.int 1]) (M' := M) rfl rfl trivial ?_
      cases h
      exact hr_Gret mf_X5_isDigit lb_X5_isDigit_17 rfl rfl (Or.inr rfl)
theorem mf_X5_readDigits : hr_mf 84 5 1 none 2 0 bk_X5_readDigits := ⟨rfl, rfl, rfl, rfl, rfl, rfl⟩
theorem lb_X5_readDigits_0 : bk_X5_readDigits.lookup 0 = some [(.aload_n 0, 1), (.iconst 0, 1), (.putfield 96, 3), (.iconst 0, 1), (.istore_n 1, 1)] := rfl
theorem lb_X5_readDigits_7 : bk_X5_readDigits.lookup 7 = some [(.iload_n 1, 1), (.sipush 600, 3), (.if_icmp .gt 56, 3)] := rfl
theorem lb_X5_readDigits_14 : bk_X5_readDigits.lookup 14 = some [(.aload_n 0, 1), (.aload_n 0, 1), (.getfield 40, 3)] := rfl
theorem lb_X5_readDigits_19 : bk_X5_readDigits.lookup 19 = some [(.invokevirtual 188, 3)] := rfl
theorem lb_X5_readDigits_22 : bk_X5_readDigits.lookup 22 = some [(.invokestatic 202, 3)] := rfl
theorem lb_X5_readDigits_25 : bk_X5_readDigits.lookup 25 = some [(.ifCond .eq 42, 3)] := rfl
theorem lb_X5_readDigits_28 : bk_X5_readDigits.lookup 28 = some [(.aload_n 0, 1), (.bipush 10, 2), (.aload_n 0, 1), (.getfield 96, 3), (.imul, 1), (.aload_n 0, 1), (.aload_n 0, 1), (.getfield 40, 3)] := rfl
theorem lb_X5_readDigits_41 : bk_X5_readDigits.lookup 41 = some [(.invokevirtual 188, 3)] := rfl
theorem lb_X5_readDigits_44 : bk_X5_readDigits.lookup 44 = some [(.iadd, 1), (.bipush 48, 2), (.isub, 1), (.putfield 96, 3), (.aload_n 0, 1), (.dup, 1), (.getfield 40, 3), (.iconst 1, 1), (.iadd, 1), (.putfield 40, 3), (.iinc 1 1, 3), (.goto (-57), 3)] := rfl
theorem lb_X5_readDigits_67 : bk_X5_readDigits.lookup 67 = some [(.aload_n 0, 1), (.aload_n 0, 1), (.getfield 40, 3), (.aload_n 0, 1), (.getfield 66, 3), (.isub, 1), (.iconst 2, 1), (.if_icmp .le 7, 3)] := rfl
theorem lb_X5_readDigits_81 : bk_X5_readDigits.lookup 81 = some [(.iconst 4, 1), (.goto 4, 3)] := rfl
theorem lb_X5_readDigits_85 : bk_X5_readDigits.lookup 85 = some [(.iconst 2, 1)] := rfl
theorem lb_X5_readDigits_86 : bk_X5_readDigits.lookup 86 = some [(.putfield 59, 3)] := rfl
theorem lb_X5_readDigits_89 : bk_X5_readDigits.lookup 89 = some [(.return_, 1)] := rfl
def f_X5_readDigits_67  (M : PM) : Option (Unit × PM) :=
  if ((M.1 223 6) - (M.1 223 8)) ≤ 2 then
    some ((), hr_si M 223 7 2)
  else
    some ((), hr_si M 223 7 4)
theorem g_X5_readDigits_67   : ∀ (M : PM) (r : Unit × PM), f_X5_readDigits_67 M = some r → hr_G 84 67 [some (.ref 223), none] [] M (none, r.2) := by
  intro M r h
  unfold f_X5_readDigits_67 at h
  refine hr_Grun mf_X5_readDigits lb_X5_readDigits_67 (P := hr_K 223 = 4 ∧ hr_K 223 = 4 ∧ True) (pc' := if ((M.1 223 6) - (M.1 223 8)) ≤ 2 then 85 else 81) (ls' := [some (.ref 223), none]) (st' := [.ref 223]) (M' := M) rfl rfl ⟨K_223, K_223, trivial⟩ ?_
  refine hr_Gif h (fun _ h => ?_) (fun _ h => ?_)
  · refine hr_Grun mf_X5_readDigits lb_X5_readDigits_85 (P := True) (pc' := 86) (ls' := [some (.ref 223), none]) (st' := [.int 2, .ref 223]) (M' := M) rfl rfl trivial ?_
    refine hr_Grun mf_X5_readDigits lb_X5_readDigits_86 (P := (hr_K 223 = 4 ∧ 223 < hr_n) ∧ True) (pc' := 89) (ls' := [some (.ref 223), none]) (st' := []) (M' := hr_si M 223 7 2) rfl rfl ⟨⟨K_223, L_223⟩, trivial⟩ ?_
    cases h
    exact hr_Gret mf_X5_readDigits lb_X5_readDigits_89 rfl rfl trivial
  · refine hr_Grun mf_X5_readDigits lb_X5_readDigits_81 (P := True) (pc' := 86) (ls' := [some (.ref 223), none]) (st' := [.int 4, .ref 223]) (M' := M) rfl rfl trivial ?_
    refine hr_Grun mf_X5_readDigits lb_X5_readDigits_86 (P := (hr_K 223 = 4 ∧ 223 < hr_n) ∧ True) (pc' := 89) (ls' := [some (.ref 223), none]) (st' := []) (M' := hr_si M 223 7 4) rfl rfl ⟨⟨K_223, L_223⟩, trivial⟩ ?_
    cases h
    exact hr_Gret mf_X5_readDigits lb_X5_readDigits_89 rfl rfl trivial
def f_X5_readDigits_7  : Nat → Int32 → PM → Option (Unit × PM)
  | 0, _, _ => none
  | f + 1, x1, M =>
    if 600 < x1 then
      f_X5_readDigits_67 M
    else
      hr_bd (f_X5_byteAt (M.1 223 6) M) (fun v3 M3 =>
      hr_bd (f_X5_isDigit v3 M3) (fun v4 M4 =>
      if v4 = 0 then
        f_X5_readDigits_67 M4
      else
        hr_bd (f_X5_byteAt (M4.1 223 6) M4) (fun v7 M7 =>
        f_X5_readDigits_7 f (x1 + 1) (hr_si (hr_si M7 223 9 (((10 * (M4.1 223 9)) + v7) - 48)) 223 6 (((hr_si M7 223 9 (((10 * (M4.1 223 9)) + v7) - 48)).1 223 6) + 1)))))
theorem g_X5_readDigits_7   : ∀ (f : Nat) (x1 : Int32) (M : PM) (r : Unit × PM), f_X5_readDigits_7 f x1 M = some r → hr_G 84 7 [some (.ref 223), some (.int x1)] [] M (none, r.2) := by
  intro f
  induction f with
  | zero => intro x1 M r h; cases h
  | succ f ih =>
    intro x1 M r h
    rw [f_X5_readDigits_7.eq_2] at h
    refine hr_Grun mf_X5_readDigits lb_X5_readDigits_7 (P := True) (pc' := if 600 < x1 then 67 else 14) (ls' := [some (.ref 223), some (.int x1)]) (st' := []) (M' := M) rfl rfl trivial ?_
    refine hr_Gif h (fun _ h => ?_) (fun _ h => ?_)
    · refine hr_Gle (ls := [some (.ref 223), none]) (hr_le_s (hr_le_n hr_le_0)) ?_
      exact g_X5_readDigits_67 M _ h
    · refine hr_Grun mf_X5_readDigits lb_X5_readDigits_14 (P := hr_K 223 = 4 ∧ True) (pc' := 19) (ls' := [some (.ref 223), some (.int x1)]) (st' := [.int (M.1 223 6), .ref 223]) (M' := M) rfl rfl ⟨K_223, trivial⟩ ?_
      refine hr_Fb h (fun v3 M3 e3 h => ?_)
      refine hr_Gcv mf_X5_readDigits mf_X5_byteAt lb_X5_readDigits_19 (b := 223) (as := [.int (M.1 223 6)]) (rest := []) (st2 := [.int v3]) (v := some (.int v3)) (M1 := M3) rfl rfl rfl rfl rfl rfl K_223 (g_X5_byteAt (M.1 223 6) _ _ e3) rfl rfl ?_
      refine hr_Fb h (fun v4 M4 e4 h => ?_)
      refine hr_Gcs mf_X5_readDigits mf_X5_isDigit lb_X5_readDigits_22 (as := [.int v3]) (rest := []) (st2 := [.int v4]) (v := some (.int v4)) (M1 := M4) rfl rfl rfl rfl rfl rfl (g_X5_isDigit v3 _ _ e4) rfl rfl ?_
      refine hr_Grun mf_X5_readDigits lb_X5_readDigits_25 (P := True) (pc' := if v4 = 0 then 67 else 28) (ls' := [some (.ref 223), some (.int x1)]) (st' := []) (M' := M4) rfl rfl trivial ?_
      refine hr_Gif h (fun _ h => ?_) (fun _ h => ?_)
      · refine hr_Gle (ls := [some (.ref 223), none]) (hr_le_s (hr_le_n hr_le_0)) ?_
        exact g_X5_readDigits_67 M4 _ h
      · refine hr_Grun mf_X5_readDigits lb_X5_readDigits_28 (P := hr_K 223 = 4 ∧ hr_K 223 = 4 ∧ True) (pc' := 41) (ls' := [some (.ref 223), some (.int x1)]) (st' := [.int (M4.1 223 6), .ref 223, .int (10 * (M4.1 223 9)), .ref 223]) (M' := M4) rfl rfl ⟨K_223, K_223, trivial⟩ ?_
        refine hr_Fb h (fun v7 M7 e7 h => ?_)
        refine hr_Gcv mf_X5_readDigits mf_X5_byteAt lb_X5_readDigits_41 (b := 223) (as := [.int (M4.1 223 6)]) (rest := [.int (10 * (M4.1 223 9)), .ref 223]) (st2 := [.int v7, .int (10 * (M4.1 223 9)), .ref 223]) (v := some (.int v7)) (M1 := M7) rfl rfl rfl rfl rfl rfl K_223 (g_X5_byteAt (M4.1 223 6) _ _ e7) rfl rfl ?_
        refine hr_Grun mf_X5_readDigits lb_X5_readDigits_44 (P := (hr_K 223 = 4 ∧ 223 < hr_n) ∧ hr_K 223 = 4 ∧ (hr_K 223 = 4 ∧ 223 < hr_n) ∧ True) (pc' := 7) (ls' := [some (.ref 223), some (.int (x1 + 1))]) (st' := []) (M' := hr_si (hr_si M7 223 9 (((10 * (M4.1 223 9)) + v7) - 48)) 223 6 (((hr_si M7 223 9 (((10 * (M4.1 223 9)) + v7) - 48)).1 223 6) + 1)) rfl rfl ⟨⟨K_223, L_223⟩, K_223, ⟨K_223, L_223⟩, trivial⟩ ?_
        exact ih (x1 + 1) (hr_si (hr_si M7 223 9 (((10 * (M4.1 223 9)) + v7) - 48)) 223 6 (((hr_si M7 223 9 (((10 * (M4.1 223 9)) + v7) - 48)).1 223 6) + 1)) _ h
def f_X5_readDigits (M : PM) : Option (Unit × PM) :=
  f_X5_readDigits_7 FU 0 (hr_si M 223 9 0)
theorem g_X5_readDigits  : ∀ (M : PM) (r : Unit × PM), f_X5_readDigits M = some r → hr_G 84 0 [some (.ref 223), none] [] M (none, r.2) := by
  intro M r h
  unfold f_X5_readDigits at h
  refine hr_Grun mf_X5_readDigits lb_X5_readDigits_0 (P := (hr_K 223 = 4 ∧ 223 < hr_n) ∧ True) (pc' := 7) (ls' := [some (.ref 223), some (.int 0)]) (st' := []) (M' := hr_si M 223 9 0) rfl rfl ⟨⟨K_223, L_223⟩, trivial⟩ ?_
  exact g_X5_readDigits_7 FU 0 (hr_si M 223 9 0) _ h
theorem mf_X5_isBlank : hr_mf 86 5 0 (some .boolean) 1 1 bk_X5_isBlank := ⟨rfl, rfl, rfl, rfl, rfl, rfl⟩
theorem lb_X5_isBlank_0 : bk_X5_isBlank.lookup 0 = some [(.iload_n 0, 1), (.bipush 10, 2), (.if_icmp .eq 9, 3)] := rfl
theorem lb_X5_isBlank_6 : bk_X5_isBlank.lookup 6 = some [(.iload_n 0, 1), (.bipush 32, 2), (.if_icmp .ne 7, 3)] := rfl
theorem lb_X5_isBlank_12 : bk_X5_isBlank.lookup 12 = some [(.iconst 1, 1), (.goto 4, 3)] := rfl
theorem lb_X5_isBlank_16 : bk_X5_isBlank.lookup 16 = some [(.iconst 0, 1)] := rfl
theorem lb_X5_isBlank_17 : bk_X5_isBlank.lookup 17 = some [(.ireturn, 1)] := rfl
def f_X5_isBlank (a0 : Int32) (M : PM) : Option (Int32 × PM) :=
  if a0 = 10 then
    some (1, M)
  else
    if a0 = 32 then
      some (1, M)
    else
      some (0, M)
theorem g_X5_isBlank (a0 : Int32) : ∀ (M : PM) (r : Int32 × PM), f_X5_isBlank a0 M = some r → hr_G 86 0 [some (.int a0)] [] M (some (.int r.1), r.2) := by
  intro M r h
  unfold f_X5_isBlank at h
  refine hr_Grun mf_X5_isBlank lb_X5_isBlank_0 (P := True) (pc' := if a0 = 10 then 12 else 6) (ls' := [some (.int a0)]) (st' := []) (M' := M) rfl rfl trivial ?_
  refine hr_Gif h (fun _ h => ?_) (fun _ h => ?_)
  · refine hr_Grun mf_X5_isBlank lb_X5_isBlank_12 (P := True) (pc' := 17) (ls' := [some (.int a0)]) (st' := [.int 1]) (M' := M) rfl rfl trivial ?_
    cases h
    exact hr_Gret mf_X5_isBlank lb_X5_isBlank_17 rfl rfl (Or.inr rfl)
  · refine hr_Grun mf_X5_isBlank lb_X5_isBlank_6 (P := True) (pc' := if a0 = 32 then 12 else 16) (ls' := [some (.int a0)]) (st' := []) (M' := M) rfl rfl trivial ?_
    refine hr_Gif h (fun _ h => ?_) (fun _ h => ?_)
    · refine hr_Grun mf_X5_isBlank lb_X5_isBlank_12 (P := True) (pc' := 17) (ls' := [some (.int a0)]) (st' := [.int 1]) (M' := M) rfl rfl trivial ?_
      cases h
      exact hr_Gret mf_X5_isBlank lb_X5_isBlank_17 rfl rfl (Or.inr rfl)
    · refine hr_Grun mf_X5_isBlank lb_X5_isBlank_16 (P := True) (pc' := 17) (ls' := [some (.int a0)]) (st' := [.int 0]) (M' := M) rfl rfl trivial ?_
      cases h
      exact hr_Gret mf_X5_isBlank lb_X5_isBlank_17 rfl rfl (Or.inl rfl)
theorem mf_X5_advance : hr_mf 83 5 2 none 3 0 bk_X5_advance := ⟨rfl, rfl, rfl, rfl, rfl, rfl⟩
theorem lb_X5_advance_0 : bk_X5_advance.lookup 0 = some [(.iconst 0, 1), (.istore_n 1, 1)] := rfl
theorem lb_X5_advance_2 : bk_X5_advance.lookup 2 = some [(.iload_n 1, 1), (.sipush 600, 3), (.if_icmp .gt 33, 3)] := rfl
theorem lb_X5_advance_9 : bk_X5_advance.lookup 9 = some [(.aload_n 0, 1), (.aload_n 0, 1), (.getfield 40, 3)] := rfl
theorem lb_X5_advance_14 : bk_X5_advance.lookup 14 = some [(.invokevirtual 188, 3)] := rfl
theorem lb_X5_advance_17 : bk_X5_advance.lookup 17 = some [(.invokestatic 196, 3)] := rfl
theorem lb_X5_advance_20 : bk_X5_advance.lookup 20 = some [(.ifCond .eq 19, 3)] := rfl
theorem lb_X5_advance_23 : bk_X5_advance.lookup 23 = some [(.aload_n 0, 1), (.dup, 1), (.getfield 40, 3), (.iconst 1, 1), (.iadd, 1), (.putfield 40, 3), (.iinc 1 1, 3), (.goto (-34), 3)] := rfl
theorem lb_X5_advance_39 : bk_X5_advance.lookup 39 = some [(.aload_n 0, 1), (.aload_n 0, 1), (.getfield 40, 3), (.putfield 66, 3), (.aload_n 0, 1), (.aload_n 0, 1), (.getfield 40, 3)] := rfl
theorem lb_X5_advance_52 : bk_X5_advance.lookup 52 = some [(.invokevirtual 188, 3)] := rfl
theorem lb_X5_advance_55 : bk_X5_advance.lookup 55 = some [(.istore_n 1, 1), (.iload_n 1, 1), (.ifCond .ge 11, 3)] := rfl
theorem lb_X5_advance_60 : bk_X5_advance.lookup 60 = some [(.aload_n 0, 1), (.iconst 0, 1), (.putfield 59, 3), (.goto 96, 3)] := rfl
theorem lb_X5_advance_68 : bk_X5_advance.lookup 68 = some [(.iload_n 1, 1)] := rfl
theorem lb_X5_advance_69 : bk_X5_advance.lookup 69 = some [(.invokestatic 199, 3)] := rfl
theorem lb_X5_advance_72 : bk_X5_advance.lookup 72 = some [(.ifCond .eq 50, 3)] := rfl
theorem lb_X5_advance_75 : bk_X5_advance.lookup 75 = some [(.aload_n 0, 1), (.iconst 1, 1), (.putfield 59, 3), (.iconst 0, 1), (.istore_n 2, 1)] := rfl
theorem lb_X5_advance_82 : bk_X5_advance.lookup 82 = some [(.iload_n 2, 1), (.sipush 600, 3), (.if_icmp .gt 33, 3)] := rfl
theorem lb_X5_advance_89 : bk_X5_advance.lookup 89 = some [(.aload_n 0, 1), (.aload_n 0, 1), (.getfield 40, 3)] := rfl
theorem lb_X5_advance_94 : bk_X5_advance.lookup 94 = some [(.invokevirtual 188, 3)] := rfl
theorem lb_X5_advance_97 : bk_X5_advance.lookup 97 = some [(.invokestatic 199, 3)] := rfl
theorem lb_X5_advance_100 : bk_X5_advance.lookup 100 = some [(.ifCond .eq 19, 3)] := rfl
theorem lb_X5_advance_103 : bk_X5_advance.lookup 103 = some [(.aload_n 0, 1), (.dup, 1), (.getfield 40, 3), (.iconst 1, 1), (.iadd, 1), (.putfield 40, 3), (.iinc 2 1, 3), (.goto (-34), 3)] := rfl
theorem lb_X5_advance_119 : bk_X5_advance.lookup 119 = some [(.goto 42, 3)] := rfl
theorem lb_X5_advance_122 : bk_X5_advance.lookup 122 = some [(.iload_n 1, 1)] := rfl
theorem lb_X5_advance_123 : bk_X5_advance.lookup 123 = some [(.invokestatic 202, 3)] := rfl
theorem lb_X5_advance_126 : bk_X5_advance.lookup 126 = some [(.ifCond .eq 10, 3)] := rfl
theorem lb_X5_advance_129 : bk_X5_advance.lookup 129 = some [(.aload_n 0, 1)] := rfl
theorem lb_X5_advance_130 : bk_X5_advance.lookup 130 = some [(.invokevirtual 205, 3)] := rfl
theorem lb_X5_advance_133 : bk_X5_advance.lookup 133 = some [(.goto 28, 3)] := rfl
theorem lb_X5_advance_136 : bk_X5_advance.lookup 136 = some [(.aload_n 0, 1), (.iload_n 1, 1), (.bipush 59, 2), (.if_icmp .ne 7, 3)] := rfl
theorem lb_X5_advance_143 : bk_X5_advance.lookup 143 = some [(.iconst 3, 1), (.goto 4, 3)] := rfl
theorem lb_X5_advance_147 : bk_X5_advance.lookup 147 = some [(.iconst 4, 1)] := rfl
theorem lb_X5_advance_148 : bk_X5_advance.lookup 148 = some [(.putfield 59, 3), (.aload_n 0, 1), (.dup, 1), (.getfield 40, 3), (.iconst 1, 1), (.iadd, 1), (.putfield 40, 3)] := rfl
theorem lb_X5_advance_161 : bk_X5_advance.lookup 161 = some [(.return_, 1)] := rfl
def f_X5_advance_82  : Nat → Int32 → PM → Option (Unit × PM)
  | 0, _, _ => none
  | f + 1, x2, M =>
    if 600 < x2 then
      some ((), M)
    else
      hr_bd (f_X5_byteAt (M.1 223 6) M) (fun v4 M4 =>
      hr_bd (f_X5_isLetter v4 M4) (fun v5 M5 =>
      if v5 = 0 then
        some ((), M5)
      else
        f_X5_advance_82 f (x2 + 1) (hr_si M5 223 6 ((M5.1 223 6) + 1))))
theorem g_X5_advance_82   : ∀ (f : Nat) (x2 : Int32) (M : PM) (r : Unit × PM), f_X5_advance_82 f x2 M = some r → hr_G 83 82 [some (.ref 223), none, some (.int x2)] [] M (none, r.2) := by
  intro f
  induction f with
  | zero => intro x2 M r h; cases h
  | succ f ih =>
    intro x2 M r h
    rw [f_X5_advance_82.eq_2] at h
    refine hr_Grun mf_X5_advance lb_X5_advance_82 (P := True) (pc' := if 600 < x2 then 119 else 89) (ls' := [some (.ref 223), none, some (.int x2)]) (st' := []) (M' := M) rfl rfl trivial ?_
    refine hr_Gif h (fun _ h => ?_) (fun _ h => ?_)
    · refine hr_Grun mf_X5_advance lb_X5_advance_119 (P := True) (pc' := 161) (ls' := [some (.ref 223), none, some (.int x2)]) (st' := []) (M' := M) rfl rfl trivial ?_
      cases h
      exact hr_Gret mf_X5_advance lb_X5_advance_161 rfl rfl trivial
    · refine hr_Grun mf_X5_advance lb_X5_advance_89 (P := hr_K 223 = 4 ∧ True) (pc' := 94) (ls' := [some (.ref 223), none, some (.int x2)]) (st' := [.int (M.1 223 6), .ref 223]) (M' := M) rfl rfl ⟨K_223, trivial⟩ ?_
      refine hr_Fb h (fun v4 M4 e4 h => ?_)
      refine hr_Gcv mf_X5_advance mf_X5_byteAt lb_X5_advance_94 (b := 223) (as := [.int (M.1 223 6)]) (rest := []) (st2 := [.int v4]) (v := some (.int v4)) (M1 := M4) rfl rfl rfl rfl rfl rfl K_223 (g_X5_byteAt (M.1 223 6) _ _ e4) rfl rfl ?_
      refine hr_Fb h (fun v5 M5 e5 h => ?_)
      refine hr_Gcs mf_X5_advance mf_X5_isLetter lb_X5_advance_97 (as := [.int v4]) (rest := []) (st2 := [.int v5]) (v := some (.int v5)) (M1 := M5) rfl rfl rfl rfl rfl rfl (g_X5_isLetter v4 _ _ e5) rfl rfl ?_
      refine hr_Grun mf_X5_advance lb_X5_advance_100 (P := True) (pc' := if v5 = 0 then 119 else 103) (ls' := [some (.ref 223), none, some (.int x2)]) (st' := []) (M' := M5) rfl rfl trivial ?_
      refine hr_Gif h (fun _ h => ?_) (fun _ h => ?_)
      · refine hr_Grun mf_X5_advance lb_X5_advance_119 (P := True) (pc' := 161) (ls' := [some (.ref 223), none, some (.int x2)]) (st' := []) (M' := M5) rfl rfl trivial ?_
        cases h
        exact hr_Gret mf_X5_advance lb_X5_advance_161 rfl rfl trivial
      · refine hr_Grun mf_X5_advance lb_X5_advance_103 (P := hr_K 223 = 4 ∧ (hr_K 223 = 4 ∧ 223 < hr_n) ∧ True) (pc' := 82) (ls' := [some (.ref 223), none, some (.int (x2 + 1))]) (st' := []) (M' := hr_si M5 223 6 ((M5.1 223 6) + 1)) rfl rfl ⟨K_223, ⟨K_223, L_223⟩, trivial⟩ ?_
        exact ih (x2 + 1) (hr_si M5 223 6 ((M5.1 223 6) + 1)) _ h
def f_X5_advance_39  (M : PM) : Option (Unit × PM) :=
  hr_bd (f_X5_byteAt ((hr_si M 223 8 (M.1 223 6)).1 223 6) (hr_si M 223 8 (M.1 223 6))) (fun v2 M2 =>
  if 0 ≤ v2 then
    hr_bd (f_X5_isLetter v2 M2) (fun v5 M5 =>
    if v5 = 0 then
      hr_bd (f_X5_isDigit v2 M5) (fun v8 M8 =>
      if v8 = 0 then
        if v2 = 59 then
          some ((), hr_si (hr_si M8 223 7 3) 223 6 (((hr_si M8 223 7 3).1 223 6) + 1))
        else
          some ((), hr_si (hr_si M8 223 7 4) 223 6 (((hr_si M8 223 7 4).1 223 6) + 1))
      else
        hr_bd (f_X5_readDigits M8) (fun v16 M16 =>
        some ((), M16)))
    else
      f_X5_advance_82 FU 0 (hr_si M5 223 7 1))
  else
    some ((), hr_si M2 223 7 0))
theorem g_X5_advance_39   : ∀ (M : PM) (r : Unit × PM), f_X5_advance_39 M = some r → hr_G 83 39 [some (.ref 223), none, none] [] M (none, r.2) := by
  intro M r h
  unfold f_X5_advance_39 at h
  refine hr_Grun mf_X5_advance lb_X5_advance_39 (P := hr_K 223 = 4 ∧ (hr_K 223 = 4 ∧ 223 < hr_n) ∧ hr_K 223 = 4 ∧ True) (pc' := 52) (ls' := [some (.ref 223), none, none]) (st' := [.int ((hr_si M 223 8 (M.1 223 6)).1 223 6), .ref 223]) (M' := hr_si M 223 8 (M.1 223 6)) rfl rfl ⟨K_223, ⟨K_223, L_223⟩, K_223, trivial⟩ ?_
  refine hr_Fb h (fun v2 M2 e2 h => ?_)
  refine hr_Gcv mf_X5_advance mf_X5_byteAt lb_X5_advance_52 (b := 223) (as := [.int ((hr_si M 223 8 (M.1 223 6)).1 223 6)]) (rest := []) (st2 := [.int v2]) (v := some (.int v2)) (M1 := M2) rfl rfl rfl rfl rfl rfl K_223 (g_X5_byteAt ((hr_si M 223 8 (M.1 223 6)).1 223 6) _ _ e2) rfl rfl ?_
  refine hr_Grun mf_X5_advance lb_X5_advance_55 (P := True) (pc' := if 0 ≤ v2 then 68 else 60) (ls' := [some (.ref 223), some (.int v2), none]) (st' := []) (M' := M2) rfl rfl trivial ?_
  refine hr_Gif h (fun _ h => ?_) (fun _ h => ?_)
  · refine hr_Grun mf_X5_advance lb_X5_advance_68 (P := True) (pc' := 69) (ls' := [some (.ref 223), some (.int v2), none]) (st' := [.int v2]) (M' := M2) rfl rfl trivial ?_
    refine hr_Fb h (fun v5 M5 e5 h => ?_)
    refine hr_Gcs mf_X5_advance mf_X5_isLetter lb_X5_advance_69 (as := [.int v2]) (rest := []) (st2 := [.int v5]) (v := some (.int v5)) (M1 := M5) rfl rfl rfl rfl rfl rfl (g_X5_isLetter v2 _ _ e5) rfl rfl ?_
    refine hr_Grun mf_X5_advance lb_X5_advance_72 (P := True) (pc' := if v5 = 0 then 122 else 75) (ls' := [some (.ref 223), some (.int v2), none]) (st' := []) (M' := M5) rfl rfl trivial ?_
    refine hr_Gif h (fun _ h => ?_) (fun _ h => ?_)
    · refine hr_Grun mf_X5_advance lb_X5_advance_122 (P := True) (pc' := 123) (ls' := [some (.ref 223), some (.int v2), none]) (st' := [.int v2]) (M' := M5) rfl rfl trivial ?_
      refine hr_Fb h (fun v8 M8 e8 h => ?_)
      refine hr_Gcs mf_X5_advance mf_X5_isDigit lb_X5_advance_123 (as := [.int v2]) (rest := []) (st2 := [.int v8]) (v := some (.int v8)) (M1 := M8) rfl rfl rfl rfl rfl rfl (g_X5_isDigit v2 _ _ e8) rfl rfl ?_
      refine hr_Grun mf_X5_advance lb_X5_advance_126 (P := True) (pc' := if v8 = 0 then 136 else 129) (ls' := [some (.ref 223), some (.int v2), none]) (st' := []) (M' := M8) rfl rfl trivial ?_
      refine hr_Gif h (fun _ h => ?_) (fun _ h => ?_)
      · refine hr_Grun mf_X5_advance lb_X5_advance_136 (P := True) (pc' := if v2 = 59 then 143 else 147) (ls' := [some (.ref 223), some (.int v2), none]) (st' := [.ref 223]) (M' := M8) rfl rfl trivial ?_
        refine hr_Gif h (fun _ h => ?_) (fun _ h => ?_)
        · refine hr_Grun mf_X5_advance lb_X5_advance_143 (P := True) (pc' := 148) (ls' := [some (.ref 223), some (.int v2), none]) (st' := [.int 3, .ref 223]) (M' := M8) rfl rfl trivial ?_
          refine hr_Grun mf_X5_advance lb_X5_advance_148 (P := (hr_K 223 = 4 ∧ 223 < hr_n) ∧ hr_K 223 = 4 ∧ (hr_K 223 = 4 ∧ 223 < hr_n) ∧ True) (pc' := 161) (ls' := [some (.ref 223), some (.int v2), none]) (st' := []) (M' := hr_si (hr_si M8 223 7 3) 223 6 (((hr_si M8 223 7 3).1 223 6) + 1)) rfl rfl ⟨⟨K_223, L_223⟩, K_223, ⟨K_223, L_223⟩, trivial⟩ ?_
          cases h
          exact hr_Gret mf_X5_advance lb_X5_advance_161 rfl rfl trivial
        · refine hr_Grun mf_X5_advance lb_X5_advance_147 (P := True) (pc' := 148) (ls' := [some (.ref 223), some (.int v2), none]) (st' := [.int 4, .ref 223]) (M' := M8) rfl rfl trivial ?_
          refine hr_Grun mf_X5_advance lb_X5_advance_148 (P := (hr_K 223 = 4 ∧ 223 < hr_n) ∧ hr_K 223 = 4 ∧ (hr_K 223 = 4 ∧ 223 < hr_n) ∧ True) (pc' := 161) (ls' := [some (.ref 223), some (.int v2), none]) (st' := []) (M' := hr_si (hr_si M8 223 7 4) 223 6 (((hr_si M8 223 7 4).1 223 6) + 1)) rfl rfl ⟨⟨K_223, L_223⟩, K_223, ⟨K_223, L_223⟩, trivial⟩ ?_
          cases h
          exact hr_Gret mf_X5_advance lb_X5_advance_161 rfl rfl trivial
      · refine hr_Grun mf_X5_advance lb_X5_advance_129 (P := True) (pc' := 130) (ls' := [some (.ref 223), some (.int v2), none]) (st' := [.ref 223]) (M' := M8) rfl rfl trivial ?_
        refine hr_Fb h (fun v16 M16 e16 h => ?_)
        refine hr_Gcv mf_X5_advance mf_X5_readDigits lb_X5_advance_130 (b := 223) (as := []) (rest := []) (st2 := []) (v := none) (M1 := M16) rfl rfl rfl rfl rfl rfl K_223 (g_X5_readDigits  _ _ e16) rfl rfl ?_
        refine hr_Grun mf_X5_advance lb_X5_advance_133 (P := True) (pc' := 161) (ls' := [some (.ref 223), some (.int v2), none]) (st' := []) (M' := M16) rfl rfl trivial ?_
        cases h
        exact hr_Gret mf_X5_advance lb_X5_advance_161 rfl rfl trivial
    · refine hr_Grun mf_X5_advance lb_X5_advance_75 (P := (hr_K 223 = 4 ∧ 223 < hr_n) ∧ True) (pc' := 82) (ls' := [some (.ref 223), some (.int v2), some (.int 0)]) (st' := []) (M' := hr_si M5 223 7 1) rfl rfl ⟨⟨K_223, L_223⟩, trivial⟩ ?_
      refine hr_Gle (ls := [some (.ref 223), none, some (.int 0)]) (hr_le_s (hr_le_n (hr_le_s hr_le_0))) ?_
      exact g_X5_advance_82 FU 0 (hr_si M5 223 7 1) _ h
  · refine hr_Grun mf_X5_advance lb_X5_advance_60 (P := (hr_K 223 = 4 ∧ 223 < hr_n) ∧ True) (pc' := 161) (ls' := [some (.ref 223), some (.int v2), none]) (st' := []) (M' := hr_si M2 223 7 0) rfl rfl ⟨⟨K_223, L_223⟩, trivial⟩ ?_
    cases h
    exact hr_Gret mf_X5_advance lb_X5_advance_161 rfl rfl trivial
def f_X5_advance_2  : Nat → Int32 → PM → Option (Unit × PM)
  | 0, _, _ => none
  | f + 1, x1, M =>
    if 600 < x1 then
      f_X5_advance_39 M
    else
      hr_bd (f_X5_byteAt (M.1 223 6) M) (fun v3 M3 =>
      hr_bd (f_X5_isBlank v3 M3) (fun v4 M4 =>
      if v4 = 0 then
        f_X5_advance_39 M4
      else
        f_X5_advance_2 f (x1 + 1) (hr_si M4 223 6 ((M4.1 223 6) + 1))))
theorem g_X5_advance_2   : ∀ (f : Nat) (x1 : Int32) (M : PM) (r : Unit × PM), f_X5_advance_2 f x1 M = some r → hr_G 83 2 [some (.ref 223), some (.int x1), none] [] M (none, r.2) := by
  intro f
  induction f with
  | zero => intro x1 M r h; cases h
  | succ f ih =>
    intro x1 M r h
    rw [f_X5_advance_2.eq_2] at h
    refine hr_Grun mf_X5_advance lb_X5_advance_2 (P := True) (pc' := if 600 < x1 then 39 else 9) (ls' := [some (.ref 223), some (.int x1), none]) (st' := []) (M' := M) rfl rfl trivial ?_
    refine hr_Gif h (fun _ h => ?_) (fun _ h => ?_)
    · refine hr_Gle (ls := [some (.ref 223), none, none]) (hr_le_s (hr_le_n (hr_le_n hr_le_0))) ?_
      exact g_X5_advance_39 M _ h
    · refine hr_Grun mf_X5_advance lb_X5_advance_9 (P := hr_K 223 = 4 ∧ True) (pc' := 14) (ls' := [some (.ref 223), some (.int x1), none]) (st' := [.int (M.1 223 6), .ref 223]) (M' := M) rfl rfl ⟨K_223, trivial⟩ ?_
      refine hr_Fb h (fun v3 M3 e3 h => ?_)
      refine hr_Gcv mf_X5_advance mf_X5_byteAt lb_X5_advance_14 (b := 223) (as := [.int (M.1 223 6)]) (rest := []) (st2 := [.int v3]) (v := some (.int v3)) (M1 := M3) rfl rfl rfl rfl rfl rfl K_223 (g_X5_byteAt (M.1 223 6) _ _ e3) rfl rfl ?_
      refine hr_Fb h (fun v4 M4 e4 h => ?_)
      refine hr_Gcs mf_X5_advance mf_X5_isBlank lb_X5_advance_17 (as := [.int v3]) (rest := []) (st2 := [.int v4]) (v := some (.int v4)) (M1 := M4) rfl rfl rfl rfl rfl rfl (g_X5_isBlank v3 _ _ e4) rfl rfl ?_
      refine hr_Grun mf_X5_advance lb_X5_advance_20 (P := True) (pc' := if v4 = 0 then 39 else 23) (ls' := [some (.ref 223), some (.int x1), none]) (st' := []) (M' := M4) rfl rfl trivial ?_
      refine hr_Gif h (fun _ h => ?_) (fun _ h => ?_)
      · refine hr_Gle (ls := [some (.ref 223), none, none]) (hr_le_s (hr_le_n (hr_le_n hr_le_0))) ?_
        exact g_X5_advance_39 M4 _ h
      · refine hr_Grun mf_X5_advance lb_X5_advance_23 (P := hr_K 223 = 4 ∧ (hr_K 223 = 4 ∧ 223 < hr_n) ∧ True) (pc' := 2) (ls' := [some (.ref 223), some (.int (x1 + 1)), none]) (st' := []) (M' := hr_si M4 223 6 ((M4.1 223 6) + 1)) rfl rfl ⟨K_223, ⟨K_223, L_223⟩, trivial⟩ ?_
        exact ih (x1 + 1) (hr_si M4 223 6 ((M4.1 223 6) + 1)) _ h
def f_X5_advance (M : PM) : Option (Unit × PM) :=
  f_X5_advance_2 FU 0 M
theorem g_X5_advance  : ∀ (M : PM) (r : Unit × PM), f_X5_advance M = some r → hr_G 83 0 [some (.ref 223), none, none] [] M (none, r.2) := by
  intro M r h
  unfold f_X5_advance at h
  refine hr_Grun mf_X5_advance lb_X5_advance_0 (P := True) (pc' := 2) (ls' := [some (.ref 223), some (.int 0), none]) (st' := []) (M' := M) rfl rfl trivial ?_
  exact g_X5_advance_2 FU 0 M _ h
theorem mf_X5_note : hr_mf 72 5 0 none 3 2 bk_X5_note := ⟨rfl, rfl, rfl, rfl, rfl, rfl⟩
theorem lb_X5_note_0 : bk_X5_note.lookup 0 = some [(.aload_n 0, 1), (.getfield 43, 3), (.ifCond .ne 13, 3)] := rfl
theorem lb_X5_note_7 : bk_X5_note.lookup 7 = some [(.aload_n 0, 1), (.iload_n 1, 1), (.putfield 43, 3), (.aload_n 0, 1), (.iload_n 2, 1), (.putfield 46, 3)] := rfl
theorem lb_X5_note_17 : bk_X5_note.lookup 17 = some [(.return_, 1)] := rfl
def f_X5_note (a1 : Int32) (a2 : Int32) (M : PM) : Option (Unit × PM) :=
  if (M.1 223 2) = 0 then
    some ((), hr_si (hr_si M 223 2 a1) 223 3 a2)
  else
    some ((), M)
theorem g_X5_note (a1 : Int32) (a2 : Int32) : ∀ (M : PM) (r : Unit × PM), f_X5_note a1 a2 M = some r → hr_G 72 0 [some (.ref 223), some (.int a1), some (.int a2)] [] M (none, r.2) := by
  intro M r h
  unfold f_X5_note at h
  refine hr_Grun mf_X5_note lb_X5_note_0 (P := hr_K 223 = 4 ∧ True) (pc' := if (M.1 223 2) = 0 then 7 else 17) (ls' := [some (.ref 223), some (.int a1), some (.int a2)]) (st' := []) (M' := M) rfl rfl ⟨K_223, trivial⟩ ?_
  refine hr_Gif h (fun _ h => ?_) (fun _ h => ?_)
  · refine hr_Grun mf_X5_note lb_X5_note_7 (P := (hr_K 223 = 4 ∧ 223 < hr_n) ∧ (hr_K 223 = 4 ∧ 223 < hr_n) ∧ True) (pc' := 17) (ls' := [some (.ref 223), some (.int a1), some (.int a2)]) (st' := []) (M' := hr_si (hr_si M 223 2 a1) 223 3 a2) rfl rfl ⟨⟨K_223, L_223⟩, ⟨K_223, L_223⟩, trivial⟩ ?_
    cases h
    exact hr_Gret mf_X5_note lb_X5_note_17 rfl rfl trivial
  · cases h
    exact hr_Gret mf_X5_note lb_X5_note_17 rfl rfl trivial
theorem mf_X5_spells : hr_mf 82 5 4 (some .boolean) 3 1 bk_X5_spells := ⟨rfl, rfl, rfl, rfl, rfl, rfl⟩
theorem lb_X5_spells_0 : bk_X5_spells.lookup 0 = some [(.aload_n 1, 1), (.invokevirtual 184, 3), (.aload_n 0, 1), (.getfield 40, 3), (.aload_n 0, 1), (.getfield 66, 3), (.isub, 1), (.if_icmp .eq 5, 3)] := rfl
theorem lb_X5_spells_16 : bk_X5_spells.lookup 16 = some [(.iconst 0, 1)] := rfl
theorem lb_X5_spells_17 : bk_X5_spells.lookup 17 = some [(.ireturn, 1)] := rfl
theorem lb_X5_spells_18 : bk_X5_spells.lookup 18 = some [(.iconst 0, 1), (.istore_n 2, 1)] := rfl
theorem lb_X5_spells_20 : bk_X5_spells.lookup 20 = some [(.iload_n 2, 1), (.aload_n 1, 1), (.invokevirtual 184, 3), (.if_icmp .ge 29, 3)] := rfl
theorem lb_X5_spells_28 : bk_X5_spells.lookup 28 = some [(.aload_n 0, 1), (.aload_n 0, 1), (.getfield 66, 3), (.iload_n 2, 1), (.iadd, 1)] := rfl
theorem lb_X5_spells_35 : bk_X5_spells.lookup 35 = some [(.invokevirtual 188, 3)] := rfl
theorem lb_X5_spells_38 : bk_X5_spells.lookup 38 = some [(.aload_n 1, 1), (.iload_n 2, 1), (.invokevirtual 192, 3), (.if_icmp .eq 5, 3)] := rfl
theorem lb_X5_spells_46 : bk_X5_spells.lookup 46 = some [(.iconst 0, 1)] := rfl
theorem lb_X5_spells_47 : bk_X5_spells.lookup 47 = some [(.ireturn, 1)] := rfl
theorem lb_X5_spells_48 : bk_X5_spells.lookup 48 = some [(.iinc 2 1, 3), (.goto (-31), 3)] := rfl
theorem lb_X5_spells_54 : bk_X5_spells.lookup 54 = some [(.iconst 1, 1)] := rfl
theorem lb_X5_spells_55 : bk_X5_spells.lookup 55 = some [(.ireturn, 1)] := rfl
def f_X5_spells_20 (a1 : Nat) : Nat → Int32 → PM → Option (Int32 × PM)
  | 0, _, _ => none
  | f + 1, x2, M =>
    if (Int32.ofNat (hr_N a1)) ≤ x2 then
      some (1, M)
    else
      hr_bd (f_X5_byteAt ((M.1 223 8) + x2) M) (fun v4 M4 =>
      if inB x2 (hr_N a1) = true then if v4 = (M4.1 a1 x2.toNatClampNeg) then
        f_X5_spells_20 a1 f (x2 + 1) M4
      else
        some (0, M4)
      else none)
theorem g_X5_spells_20 (a1 : Nat) (ka1 : hr_K a1 = 20) : ∀ (f : Nat) (x2 : Int32) (M : PM) (r : Int32 × PM), f_X5_spells_20 a1 f x2 M = some r → hr_G 82 20 [some (.ref 223), some (.ref a1), some (.int x2)] [] M (some (.int r.1), r.2) := by
  intro f
  induction f with
  | zero => intro x2 M r h; cases h
  | succ f ih =>
    intro x2 M r h
    rw [f_X5_spells_20.eq_2] at h
    refine hr_Grun mf_X5_spells lb_X5_spells_20 (P := hr_K a1 = 20 ∧ True) (pc' := if (Int32.ofNat (hr_N a1)) ≤ x2 then 54 else 28) (ls' := [some (.ref 223), some (.ref a1), some (.int x2)]) (st' := []) (M' := M) rfl rfl ⟨ka1, trivial⟩ ?_
    refine hr_Gif h (fun _ h => ?_) (fun _ h => ?_)
    · refine hr_Grun mf_X5_spells lb_X5_spells_54 (P := True) (pc' := 55) (ls' := [some (.ref 223), some (.ref a1), some (.int x2)]) (st' := [.int 1]) (M' := M) rfl rfl trivial ?_
      cases h
      exact hr_Gret mf_X5_spells lb_X5_spells_55 rfl rfl (Or.inr rfl)
    · refine hr_Grun mf_X5_spells lb_X5_spells_28 (P := hr_K 223 = 4 ∧ True) (pc' := 35) (ls' := [some (.ref 223), some (.ref a1), some (.int x2)]) (st' := [.int ((M.1 223 8) + x2), .ref 223]) (M' := M) rfl rfl ⟨K_223, trivial⟩ ?_
      refine hr_Fb h (fun v4 M4 e4 h => ?_)
      refine hr_Gcv mf_X5_spells mf_X5_byteAt lb_X5_spells_35 (b := 223) (as := [.int ((M.1 223 8) + x2)]) (rest := []) (st2 := [.int v4]) (v := some (.int v4)) (M1 := M4) rfl rfl rfl rfl rfl rfl K_223 (g_X5_byteAt ((M.1 223 8) + x2) _ _ e4) rfl rfl ?_
      refine hr_Fg h (fun hg5_0 h => ?_)
      refine hr_Grun mf_X5_spells lb_X5_spells_38 (P := (hr_K a1 = 20 ∧ vp_in x2 (hr_N a1)) ∧ True) (pc' := if v4 = (M4.1 a1 x2.toNatClampNeg) then 48 else 46) (ls' := [some (.ref 223), some (.ref a1), some (.int x2)]) (st' := []) (M' := M4) rfl rfl ⟨⟨ka1, inB_in hg5_0⟩, trivial⟩ ?_
      refine hr_Gif h (fun _ h => ?_) (fun _ h => ?_)
      · refine hr_Grun mf_X5_spells lb_X5_spells_48 (P := True) (pc' := 20) (ls' := [some (.ref 223), some (.ref a1), some (.int (x2 + 1))]) (st' := []) (M' := M4) rfl rfl trivial ?_
        exact ih (x2 + 1) M4 _ h
      · refine hr_Grun mf_X5_spells lb_X5_spells_46 (P := True) (pc' := 47) (ls' := [some (.ref 223), some (.ref a1), some (.int x2)]) (st' := [.int 0]) (M' := M4) rfl rfl trivial ?_
        cases h
        exact hr_Gret mf_X5_spells lb_X5_spells_47 rfl rfl (Or.inl rfl)
def f_X5_spells (a1 : Nat) (M : PM) : Option (Int32 × PM) :=
  if hr_K a1 = 20 then if (Int32.ofNat (hr_N a1)) = ((M.1 223 6) - (M.1 223 8)) then
    f_X5_spells_20 a1 FU 0 M
  else
    some (0, M) else none
theorem g_X5_spells (a1 : Nat) : ∀ (M : PM) (r : Int32 × PM), f_X5_spells a1 M = some r → hr_G 82 0 [some (.ref 223), some (.ref a1), none] [] M (some (.int r.1), r.2) := by
  intro M r h
  unfold f_X5_spells at h
  refine hr_Fg h (fun ka1 h => ?_)
  refine hr_Grun mf_X5_spells lb_X5_spells_0 (P := hr_K a1 = 20 ∧ hr_K 223 = 4 ∧ hr_K 223 = 4 ∧ True) (pc' := if (Int32.ofNat (hr_N a1)) = ((M.1 223 6) - (M.1 223 8)) then 18 else 16) (ls' := [some (.ref 223), some (.ref a1), none]) (st' := []) (M' := M) rfl rfl ⟨ka1, K_223, K_223, trivial⟩ ?_
  refine hr_Gif h (fun _ h => ?_) (fun _ h => ?_)
  · refine hr_Grun mf_X5_spells lb_X5_spells_18 (P := True) (pc' := 20) (ls' := [some (.ref 223), some (.ref a1), some (.int 0)]) (st' := []) (M' := M) rfl rfl trivial ?_
    exact g_X5_spells_20 a1 ka1 FU 0 M _ h
  · refine hr_Grun mf_X5_spells lb_X5_spells_16 (P := True) (pc' := 17) (ls' := [some (.ref 223), some (.ref a1), none]) (st' := [.int 0]) (M' := M) rfl rfl trivial ?_
    cases h
    exact hr_Gret mf_X5_spells lb_X5_spells_17 rfl rfl (Or.inl rfl)
theorem mf_X5_lineNamed : hr_mf 81 5 5 (some (.object "HueRash$Line")) 3 1 bk_X5_lineNamed := ⟨rfl, rfl, rfl, rfl, rfl, rfl⟩
theorem lb_X5_lineNamed_0 : bk_X5_lineNamed.lookup 0 = some [(.iconst 0, 1), (.istore_n 2, 1)] := rfl
theorem lb_X5_lineNamed_2 : bk_X5_lineNamed.lookup 2 = some [(.iload_n 2, 1), (.getstatic 172, 3), (.arraylength, 1), (.if_icmp .ge 42, 3)] := rfl
theorem lb_X5_lineNamed_10 : bk_X5_lineNamed.lookup 10 = some [(.getstatic 172, 3), (.iload_n 2, 1), (.aaload, 1)] := rfl
theorem lb_X5_lineNamed_15 : bk_X5_lineNamed.lookup 15 = some [(.invokevirtual 117, 3)] := rfl
theorem lb_X5_lineNamed_18 : bk_X5_lineNamed.lookup 18 = some [(.iload_n 1, 1), (.if_icmp .ne 24, 3)] := rfl
theorem lb_X5_lineNamed_22 : bk_X5_lineNamed.lookup 22 = some [(.aload_n 0, 1), (.getstatic 172, 3), (.iload_n 2, 1), (.aaload, 1), (.getfield 176, 3)] := rfl
theorem lb_X5_lineNamed_31 : bk_X5_lineNamed.lookup 31 = some [(.invokevirtual 180, 3)] := rfl
theorem lb_X5_lineNamed_34 : bk_X5_lineNamed.lookup 34 = some [(.ifCond .eq 9, 3)] := rfl
theorem lb_X5_lineNamed_37 : bk_X5_lineNamed.lookup 37 = some [(.getstatic 172, 3), (.iload_n 2, 1), (.aaload, 1)] := rfl
theorem lb_X5_lineNamed_42 : bk_X5_lineNamed.lookup 42 = some [(.areturn, 1)] := rfl
theorem lb_X5_lineNamed_43 : bk_X5_lineNamed.lookup 43 = some [(.iinc 2 1, 3), (.goto (-44), 3)] := rfl
theorem lb_X5_lineNamed_49 : bk_X5_lineNamed.lookup 49 = some [(.aconst_null, 1)] := rfl
theorem lb_X5_lineNamed_50 : bk_X5_lineNamed.lookup 50 = some [(.areturn, 1)] := rfl
def f_X5_lineNamed_2 (a1 : Int32) : Nat → Int32 → PM → Option (Value × PM)
  | 0, _, _ => none
  | f + 1, x2, M =>
    if 18 ≤ x2 then
      some (.null, M)
    else
      if inB x2 18 = true then if hr_K (306 + 1 + x2.toNatClampNeg) = 19 then 
      hr_bd (f_X3_sort (306 + 1 + x2.toNatClampNeg) M) (fun v4 M4 =>
      if v4 = a1 then
        if inB x2 18 = true then if hr_K (306 + 1 + x2.toNatClampNeg) = 19 then 
        hr_bd (f_X5_spells ((306 + 1 + x2.toNatClampNeg) + 18) M4) (fun v7 M7 =>
        if v7 = 0 then
          f_X5_lineNamed_2 a1 f (x2 + 1) M7
        else
          if inB x2 18 = true then if hr_K (306 + 1 + x2.toNatClampNeg) = 19 then 
          some ((.ref (306 + 1 + x2.toNatClampNeg)), M7) else none else none) else none else none
      else
        f_X5_lineNamed_2 a1 f (x2 + 1) M4) else none else none
theorem g_X5_lineNamed_2 (a1 : Int32)  : ∀ (f : Nat) (x2 : Int32) (M : PM) (r : Value × PM), f_X5_lineNamed_2 a1 f x2 M = some r → hr_G 81 2 [some (.ref 223), some (.int a1), some (.int x2)] [] M (some r.1, r.2) := by
  intro f
  induction f with
  | zero => intro x2 M r h; cases h
  | succ f ih =>
    intro x2 M r h
    rw [f_X5_lineNamed_2.eq_2] at h
    refine hr_Grun mf_X5_lineNamed lb_X5_lineNamed_2 (P := (11 ≤ hr_K 306 ∧ hr_K 306 ≤ 18) ∧ True) (pc' := if 18 ≤ x2 then 49 else 10) (ls' := [some (.ref 223), some (.int a1), some (.int x2)]) (st' := []) (M' := M) rfl rfl ⟨(hr_11 K_306 (by decide)), trivial⟩ ?_
    refine hr_Gif h (fun _ h => ?_) (fun _ h => ?_)
    · refine hr_Grun mf_X5_lineNamed lb_X5_lineNamed_49 (P := True) (pc' := 50) (ls' := [some (.ref 223), some (.int a1), some (.int x2)]) (st' := [.null]) (M' := M) rfl rfl trivial ?_
      cases h
      exact hr_Gret mf_X5_lineNamed lb_X5_lineNamed_50 rfl rfl trivial
    · refine hr_Fg h (fun hg3_0 h => ?_)
      refine hr_Fg h (fun hg3_1 h => ?_)
      refine hr_Grun mf_X5_lineNamed lb_X5_lineNamed_10 (P := ((15 ≤ hr_K 306 ∧ hr_K 306 ≤ 18) ∧ vp_in x2 (hr_N 306)) ∧ True) (pc' := 15) (ls' := [some (.ref 223), some (.int a1), some (.int x2)]) (st' := [.ref (306 + 1 + x2.toNatClampNeg)]) (M' := M) rfl rfl ⟨⟨hr_15 K_306 (by decide), (inB_N N_306 hg3_0)⟩, trivial⟩ ?_
      refine hr_Fb h (fun v4 M4 e4 h => ?_)
      refine hr_Gcv mf_X5_lineNamed mf_X3_sort lb_X5_lineNamed_15 (b := (306 + 1 + x2.toNatClampNeg)) (as := []) (rest := []) (st2 := [.int v4]) (v := some (.int v4)) (M1 := M4) rfl rfl rfl rfl rfl rfl hg3_1 (g_X3_sort (306 + 1 + x2.toNatClampNeg) _ _ e4) rfl rfl ?_
      refine hr_Grun mf_X5_lineNamed lb_X5_lineNamed_18 (P := True) (pc' := if v4 = a1 then 22 else 43) (ls' := [some (.ref 223), some (.int a1), some (.int x2)]) (st' := []) (M' := M4) rfl rfl trivial ?_
      refine hr_Gif h (fun _ h => ?_) (fun _ h => ?_)
      · refine hr_Fg h (fun hg6_0 h => ?_)
        refine hr_Fg h (fun hg6_1 h => ?_)
        refine hr_Grun mf_X5_lineNamed lb_X5_lineNamed_22 (P := ((15 ≤ hr_K 306 ∧ hr_K 306 ≤ 18) ∧ vp_in x2 (hr_N 306)) ∧ hr_K (306 + 1 + x2.toNatClampNeg) = 19 ∧ True) (pc' := 31) (ls' := [some (.ref 223), some (.int a1), some (.int x2)]) (st' := [.ref ((306 + 1 + x2.toNatClampNeg) + 18), .ref 223]) (M' := M4) rfl rfl ⟨⟨hr_15 K_306 (by decide), (inB_N N_306 hg6_0)⟩, hg6_1, trivial⟩ ?_
        refine hr_Fb h (fun v7 M7 e7 h => ?_)
        refine hr_Gcv mf_X5_lineNamed mf_X5_spells lb_X5_lineNamed_31 (b := 223) (as := [.ref ((306 + 1 + x2.toNatClampNeg) + 18)]) (rest := []) (st2 := [.int v7]) (v := some (.int v7)) (M1 := M7) rfl rfl rfl rfl rfl rfl K_223 (g_X5_spells ((306 + 1 + x2.toNatClampNeg) + 18) _ _ e7) rfl rfl ?_
        refine hr_Grun mf_X5_lineNamed lb_X5_lineNamed_34 (P := True) (pc' := if v7 = 0 then 43 else 37) (ls' := [some (.ref 223), some (.int a1), some (.int x2)]) (st' := []) (M' := M7) rfl rfl trivial ?_
        refine hr_Gif h (fun _ h => ?_) (fun _ h => ?_)
        · refine hr_Grun mf_X5_lineNamed lb_X5_lineNamed_43 (P := True) (pc' := 2) (ls' := [some (.ref 223), some (.int a1), some (.int (x2 + 1))]) (st' := []) (M' := M7) rfl rfl trivial ?_
          exact ih (x2 + 1) M7 _ h
        · refine hr_Fg h (fun hg10_0 h => ?_)
          refine hr_Fg h (fun hg10_1 h => ?_)
          refine hr_Grun mf_X5_lineNamed lb_X5_lineNamed_37 (P := ((15 ≤ hr_K 306 ∧ hr_K 306 ≤ 18) ∧ vp_in x2 (hr_N 306)) ∧ True) (pc' := 42) (ls' := [some (.ref 223), some (.int a1), some (.int x2)]) (st' := [.ref (306 + 1 + x2.toNatClampNeg)]) (M' := M7) rfl rfl ⟨⟨hr_15 K_306 (by decide), (inB_N N_306 hg10_0)⟩, trivial⟩ ?_
          cases h
          exact hr_Gret mf_X5_lineNamed lb_X5_lineNamed_42 rfl rfl trivial
      · refine hr_Grun mf_X5_lineNamed lb_X5_lineNamed_43 (P := True) (pc' := 2) (ls' := [some (.ref 223), some (.int a1), some (.int (x2 + 1))]) (st' := []) (M' := M4) rfl rfl trivial ?_
        exact ih (x2 + 1) M4 _ h
def f_X5_lineNamed (a1 : Int32) (M : PM) : Option (Value × PM) :=
  f_X5_lineNamed_2 a1 FU 0 M
theorem g_X5_lineNamed (a1 : Int32) : ∀ (M : PM) (r : Value × PM), f_X5_lineNamed a1 M = some r → hr_G 81 0 [some (.ref 223), some (.int a1), none] [] M (some r.1, r.2) := by
  intro M r h
  unfold f_X5_lineNamed at h
  refine hr_Grun mf_X5_lineNamed lb_X5_lineNamed_0 (P := True) (pc' := 2) (ls' := [some (.ref 223), some (.int a1), some (.int 0)]) (st' := []) (M' := M) rfl rfl trivial ?_
  exact g_X5_lineNamed_2 a1 FU 0 M _ h
theorem mf_X5_readGuestHues : hr_mf 75 5 3 (some .boolean) 3 0 bk_X5_readGuestHues := ⟨rfl, rfl, rfl, rfl, rfl, rfl⟩
theorem lb_X5_readGuestHues_0 : bk_X5_readGuestHues.lookup 0 = some [(.aload_n 0, 1), (.getfield 59, 3), (.iconst 2, 1), (.if_icmp .eq 5, 3)] := rfl
theorem lb_X5_readGuestHues_8 : bk_X5_readGuestHues.lookup 8 = some [(.iconst 0, 1)] := rfl
theorem lb_X5_readGuestHues_9 : bk_X5_readGuestHues.lookup 9 = some [(.ireturn, 1)] := rfl
theorem lb_X5_readGuestHues_10 : bk_X5_readGuestHues.lookup 10 = some [(.aload_n 0, 1), (.iconst 0, 1), (.putfield 99, 3), (.aload_n 0, 1), (.iconst (-1), 1), (.putfield 102, 3), (.iconst 0, 1), (.istore_n 1, 1)] := rfl
theorem lb_X5_readGuestHues_22 : bk_X5_readGuestHues.lookup 22 = some [(.iload_n 1, 1), (.sipush 600, 3), (.if_icmp .gt 88, 3)] := rfl
theorem lb_X5_readGuestHues_29 : bk_X5_readGuestHues.lookup 29 = some [(.aload_n 0, 1), (.getfield 59, 3), (.iconst 2, 1), (.if_icmp .ne 80, 3)] := rfl
theorem lb_X5_readGuestHues_37 : bk_X5_readGuestHues.lookup 37 = some [(.aload_n 0, 1), (.getfield 96, 3), (.bipush 10, 2), (.if_icmp .ge 7, 3)] := rfl
theorem lb_X5_readGuestHues_46 : bk_X5_readGuestHues.lookup 46 = some [(.iconst 1, 1), (.goto 4, 3)] := rfl
theorem lb_X5_readGuestHues_50 : bk_X5_readGuestHues.lookup 50 = some [(.iconst 0, 1)] := rfl
theorem lb_X5_readGuestHues_51 : bk_X5_readGuestHues.lookup 51 = some [(.istore_n 2, 1), (.iload_n 2, 1), (.ifCond .eq 35, 3)] := rfl
theorem lb_X5_readGuestHues_56 : bk_X5_readGuestHues.lookup 56 = some [(.aload_n 0, 1), (.getfield 99, 3), (.aload_n 0, 1), (.getfield 96, 3)] := rfl
theorem lb_X5_readGuestHues_64 : bk_X5_readGuestHues.lookup 64 = some [(.invokestatic 105, 3)] := rfl
theorem lb_X5_readGuestHues_67 : bk_X5_readGuestHues.lookup 67 = some [(.ifCond .ne 21, 3)] := rfl
theorem lb_X5_readGuestHues_70 : bk_X5_readGuestHues.lookup 70 = some [(.aload_n 0, 1), (.dup, 1), (.getfield 99, 3), (.iconst 1, 1), (.aload_n 0, 1), (.getfield 96, 3), (.ishl, 1), (.ior, 1), (.putfield 99, 3), (.goto 19, 3)] := rfl
theorem lb_X5_readGuestHues_88 : bk_X5_readGuestHues.lookup 88 = some [(.aload_n 0, 1), (.getfield 102, 3), (.iconst (-1), 1), (.if_icmp .ne 11, 3)] := rfl
theorem lb_X5_readGuestHues_96 : bk_X5_readGuestHues.lookup 96 = some [(.aload_n 0, 1), (.aload_n 0, 1), (.getfield 66, 3), (.putfield 102, 3)] := rfl
theorem lb_X5_readGuestHues_104 : bk_X5_readGuestHues.lookup 104 = some [(.aload_n 0, 1)] := rfl
theorem lb_X5_readGuestHues_105 : bk_X5_readGuestHues.lookup 105 = some [(.invokevirtual 56, 3)] := rfl
theorem lb_X5_readGuestHues_108 : bk_X5_readGuestHues.lookup 108 = some [(.iinc 1 1, 3), (.goto (-89), 3)] := rfl
theorem lb_X5_readGuestHues_114 : bk_X5_readGuestHues.lookup 114 = some [(.iconst 1, 1)] := rfl
theorem lb_X5_readGuestHues_115 : bk_X5_readGuestHues.lookup 115 = some [(.ireturn, 1)] := rfl
def f_X5_readGuestHues_104  (k22 : Int32 → PM → Option (Int32 × PM)) (x1 : Int32) (M : PM) : Option (Int32 × PM) :=
  hr_bd (f_X5_advance M) (fun v2 M2 =>
  k22 (x1 + 1) M2)
theorem g_X5_readGuestHues_104   (k22 : Int32 → PM → Option (Int32 × PM)) (hk22 : ∀ (x1 : Int32) (M : PM) (r : Int32 × PM), k22 x1 M = some r → hr_G 75 22 [some (.ref 223), some (.int x1), none] [] M (some (.int r.1), r.2)) : ∀ (x1 : Int32) (M : PM) (r : Int32 × PM), f_X5_readGuestHues_104 k22 x1 M = some r → hr_G 75 104 [some (.ref 223), some (.int x1), none] [] M (some (.int r.1), r.2) := by
  intro x1 M r h
  unfold f_X5_readGuestHues_104 at h
  refine hr_Grun mf_X5_readGuestHues lb_X5_readGuestHues_104 (P := True) (pc' := 105) (ls' := [some (.ref 223), some (.int x1), none]) (st' := [.ref 223]) (M' := M) rfl rfl trivial ?_
  refine hr_Fb h (fun v2 M2 e2 h => ?_)
  refine hr_Gcv mf_X5_readGuestHues mf_X5_advance lb_X5_readGuestHues_105 (b := 223) (as := []) (rest := []) (st2 := []) (v := none) (M1 := M2) rfl rfl rfl rfl rfl rfl K_223 (g_X5_advance  _ _ e2) rfl rfl ?_
  refine hr_Grun mf_X5_readGuestHues lb_X5_readGuestHues_108 (P := True) (pc' := 22) (ls' := [some (.ref 223), some (.int (x1 + 1)), none]) (st' := []) (M' := M2) rfl rfl trivial ?_
  exact hk22 (x1 + 1) M2 _ h
def f_X5_readGuestHues_88  (k22 : Int32 → PM → Option (Int32 × PM)) (x1 : Int32) (M : PM) : Option (Int32 × PM) :=
  if (M.1 223 13) = (-1) then
    f_X5_readGuestHues_104 k22 x1 (hr_si M 223 13 (M.1 223 8))
  else
    f_X5_readGuestHues_104 k22 x1 M
theorem g_X5_readGuestHues_88   (k22 : Int32 → PM → Option (Int32 × PM)) (hk22 : ∀ (x1 : Int32) (M : PM) (r : Int32 × PM), k22 x1 M = some r → hr_G 75 22 [some (.ref 223), some (.int x1), none] [] M (some (.int r.1), r.2)) : ∀ (x1 : Int32) (M : PM) (r : Int32 × PM), f_X5_readGuestHues_88 k22 x1 M = some r → hr_G 75 88 [some (.ref 223), some (.int x1), none] [] M (some (.int r.1), r.2) := by
  intro x1 M r h
  unfold f_X5_readGuestHues_88 at h
  refine hr_Grun mf_X5_readGuestHues lb_X5_readGuestHues_88 (P := hr_K 223 = 4 ∧ True) (pc' := if (M.1 223 13) = (-1) then 96 else 104) (ls' := [some (.ref 223), some (.int x1), none]) (st' := []) (M' := M) rfl rfl ⟨K_223, trivial⟩ ?_
  refine hr_Gif h (fun _ h => ?_) (fun _ h => ?_)
  · refine hr_Grun mf_X5_readGuestHues lb_X5_readGuestHues_96 (P := hr_K 223 = 4 ∧ (hr_K 223 = 4 ∧ 223 < hr_n) ∧ True) (pc' := 104) (ls' := [some (.ref 223), some (.int x1), none]) (st' := []) (M' := hr_si M 223 13 (M.1 223 8)) rfl rfl ⟨K_223, ⟨K_223, L_223⟩, trivial⟩ ?_
    exact g_X5_readGuestHues_104 k22 hk22 x1 (hr_si M 223 13 (M.1 223 8)) _ h
  · exact g_X5_readGuestHues_104 k22 hk22 x1 M _ h
def f_X5_readGuestHues_51  (k22 : Int32 → PM → Option (Int32 × PM)) (x1 : Int32) (s0 : Int32) (M : PM) : Option (Int32 × PM) :=
  if s0 = 0 then
    f_X5_readGuestHues_88 k22 x1 M
  else
    hr_bd (f_X10_holdsBit (M.1 223 12) (M.1 223 9) M) (fun v3 M3 =>
    if v3 = 0 then
      f_X5_readGuestHues_104 k22 x1 (hr_si M3 223 12 ((M3.1 223 12) ||| (jl 1 (M3.1 223 9))))
    else
      f_X5_readGuestHues_88 k22 x1 M3)
theorem g_X5_readGuestHues_51   (k22 : Int32 → PM → Option (Int32 × PM)) (hk22 : ∀ (x1 : Int32) (M : PM) (r : Int32 × PM), k22 x1 M = some r → hr_G 75 22 [some (.ref 223), some (.int x1), none] [] M (some (.int r.1), r.2)) : ∀ (x1 : Int32) (s0 : Int32) (M : PM) (r : Int32 × PM), f_X5_readGuestHues_51 k22 x1 s0 M = some r → hr_G 75 51 [some (.ref 223), some (.int x1), none] [.int s0] M (some (.int r.1), r.2) := by
  intro x1 s0 M r h
  unfold f_X5_readGuestHues_51 at h
  refine hr_Grun mf_X5_readGuestHues lb_X5_readGuestHues_51 (P := True) (pc' := if s0 = 0 then 88 else 56) (ls' := [some (.ref 223), some (.int x1), some (.int s0)]) (st' := []) (M' := M) rfl rfl trivial ?_
  refine hr_Gif h (fun _ h => ?_) (fun _ h => ?_)
  · refine hr_Gle (ls := [some (.ref 223), some (.int x1), none]) (hr_le_s (hr_le_s (hr_le_n hr_le_0))) ?_
    exact g_X5_readGuestHues_88 k22 hk22 x1 M _ h
  · refine hr_Grun mf_X5_readGuestHues lb_X5_readGuestHues_56 (P := hr_K 223 = 4 ∧ hr_K 223 = 4 ∧ True) (pc' := 64) (ls' := [some (.ref 223), some (.int x1), some (.int s0)]) (st' := [.int (M.1 223 9), .int (M.1 223 12)]) (M' := M) rfl rfl ⟨K_223, K_223, trivial⟩ ?_
    refine hr_Fb h (fun v3 M3 e3 h => ?_)
    refine hr_Gcs mf_X5_readGuestHues mf_X10_holdsBit lb_X5_readGuestHues_64 (as := [.int (M.1 223 12), .int (M.1 223 9)]) (rest := []) (st2 := [.int v3]) (v := some (.int v3)) (M1 := M3) rfl rfl rfl rfl rfl rfl (g_X10_holdsBit (M.1 223 12) (M.1 223 9) _ _ e3) rfl rfl ?_
    refine hr_Grun mf_X5_readGuestHues lb_X5_readGuestHues_67 (P := True) (pc' := if v3 = 0 then 70 else 88) (ls' := [some (.ref 223), some (.int x1), some (.int s0)]) (st' := []) (M' := M3) rfl rfl trivial ?_
    refine hr_Gif h (fun _ h => ?_) (fun _ h => ?_)
    · refine hr_Grun mf_X5_readGuestHues lb_X5_readGuestHues_70 (P := hr_K 223 = 4 ∧ hr_K 223 = 4 ∧ (hr_K 223 = 4 ∧ 223 < hr_n) ∧ True) (pc' := 104) (ls' := [some (.ref 223), some (.int x1), some (.int s0)]) (st' := []) (M' := hr_si M3 223 12 ((M3.1 223 12) ||| (jl 1 (M3.1 223 9)))) rfl rfl ⟨K_223, K_223, ⟨K_223, L_223⟩, trivial⟩ ?_
      refine hr_Gle (ls := [some (.ref 223), some (.int x1), none]) (hr_le_s (hr_le_s (hr_le_n hr_le_0))) ?_
      exact g_X5_readGuestHues_104 k22 hk22 x1 (hr_si M3 223 12 ((M3.1 223 12) ||| (jl 1 (M3.1 223 9)))) _ h
    · refine hr_Gle (ls := [some (.ref 223), some (.int x1), none]) (hr_le_s (hr_le_s (hr_le_n hr_le_0))) ?_
      exact g_X5_readGuestHues_88 k22 hk22 x1 M3 _ h
def f_X5_readGuestHues_22  : Nat → Int32 → PM → Option (Int32 × PM)
  | 0, _, _ => none
  | f + 1, x1, M =>
    if 600 < x1 then
      some (1, M)
    else
      if (M.1 223 7) = 2 then
        if 10 ≤ (M.1 223 9) then
          f_X5_readGuestHues_51 (fun x1 M => f_X5_readGuestHues_22 f x1 M) x1 0 M
        else
          f_X5_readGuestHues_51 (fun x1 M => f_X5_readGuestHues_22 f x1 M) x1 1 M
      else
        some (1, M)
theorem g_X5_readGuestHues_22   : ∀ (f : Nat) (x1 : Int32) (M : PM) (r : Int32 × PM), f_X5_readGuestHues_22 f x1 M = some r → hr_G 75 22 [some (.ref 223), some (.int x1), none] [] M (some (.int r.1), r.2) := by
  intro f
  induction f with
  | zero => intro x1 M r h; cases h
  | succ f ih =>
    intro x1 M r h
    rw [f_X5_readGuestHues_22.eq_2] at h
    refine hr_Grun mf_X5_readGuestHues lb_X5_readGuestHues_22 (P := True) (pc' := if 600 < x1 then 114 else 29) (ls' := [some (.ref 223), some (.int x1), none]) (st' := []) (M' := M) rfl rfl trivial ?_
    refine hr_Gif h (fun _ h => ?_) (fun _ h => ?_)
    · refine hr_Grun mf_X5_readGuestHues lb_X5_readGuestHues_114 (P := True) (pc' := 115) (ls' := [some (.ref 223), some (.int x1), none]) (st' := [.int 1]) (M' := M) rfl rfl trivial ?_
      cases h
      exact hr_Gret mf_X5_readGuestHues lb_X5_readGuestHues_115 rfl rfl (Or.inr rfl)
    · refine hr_Grun mf_X5_readGuestHues lb_X5_readGuestHues_29 (P := hr_K 223 = 4 ∧ True) (pc' := if (M.1 223 7) = 2 then 37 else 114) (ls' := [some (.ref 223), some (.int x1), none]) (st' := []) (M' := M) rfl rfl ⟨K_223, trivial⟩ ?_
      refine hr_Gif h (fun _ h => ?_) (fun _ h => ?_)
      · refine hr_Grun mf_X5_readGuestHues lb_X5_readGuestHues_37 (P := hr_K 223 = 4 ∧ True) (pc' := if 10 ≤ (M.1 223 9) then 50 else 46) (ls' := [some (.ref 223), some (.int x1), none]) (st' := []) (M' := M) rfl rfl ⟨K_223, trivial⟩ ?_
        refine hr_Gif h (fun _ h => ?_) (fun _ h => ?_)
        · refine hr_Grun mf_X5_readGuestHues lb_X5_readGuestHues_50 (P := True) (pc' := 51) (ls' := [some (.ref 223), some (.int x1), none]) (st' := [.int 0]) (M' := M) rfl rfl trivial ?_
          exact g_X5_readGuestHues_51 (fun x1 M => f_X5_readGuestHues_22 f x1 M) (fun x1 M r h => ih x1 M r h) x1 0 M _ h
        · refine hr_Grun mf_X5_readGuestHues lb_X5_readGuestHues_46 (P := True) (pc' := 51) (ls' := [some (.ref 223), some (.int x1), none]) (st' := [.int 1]) (M' := M) rfl rfl trivial ?_
          exact g_X5_readGuestHues_51 (fun x1 M => f_X5_readGuestHues_22 f x1 M) (fun x1 M r h => ih x1 M r h) x1 1 M _ h
      · refine hr_Grun mf_X5_readGuestHues lb_X5_readGuestHues_114 (P := True) (pc' := 115) (ls' := [some (.ref 223), some (.int x1), none]) (st' := [.int 1]) (M' := M) rfl rfl trivial ?_
        cases h
        exact hr_Gret mf_X5_readGuestHues lb_X5_readGuestHues_115 rfl rfl (Or.inr rfl)
def f_X5_readGuestHues (M : PM) : Option (Int32 × PM) :=
  if (M.1 223 7) = 2 then
    f_X5_readGuestHues_22 FU 0 (hr_si (hr_si M 223 12 0) 223 13 (-1))
  else
    some (0, M)
theorem g_X5_readGuestHues  : ∀ (M : PM) (r : Int32 × PM), f_X5_readGuestHues M = some r → hr_G 75 0 [some (.ref 223), none, none] [] M (some (.int r.1), r.2) := by
  intro M r h
  unfold f_X5_readGuestHues at h
  refine hr_Grun mf_X5_readGuestHues lb_X5_readGuestHues_0 (P := hr_K 223 = 4 ∧ True) (pc' := if (M.1 223 7) = 2 then 10 else 8) (ls' := [some (.ref 223), none, none]) (st' := []) (M' := M) rfl rfl ⟨K_223, trivial⟩ ?_
  refine hr_Gif h (fun _ h => ?_) (fun _ h => ?_)
  · refine hr_Grun mf_X5_readGuestHues lb_X5_readGuestHues_10 (P := (hr_K 223 = 4 ∧ 223 < hr_n) ∧ (hr_K 223 = 4 ∧ 223 < hr_n) ∧ True) (pc' := 22) (ls' := [some (.ref 223), some (.int 0), none]) (st' := []) (M' := hr_si (hr_si M 223 12 0) 223 13 (-1)) rfl rfl ⟨⟨K_223, L_223⟩, ⟨K_223, L_223⟩, trivial⟩ ?_
    exact g_X5_readGuestHues_22 FU 0 (hr_si (hr_si M 223 12 0) 223 13 (-1)) _ h
  · refine hr_Grun mf_X5_readGuestHues lb_X5_readGuestHues_8 (P := True) (pc' := 9) (ls' := [some (.ref 223), none, none]) (st' := [.int 0]) (M' := M) rfl rfl trivial ?_
    cases h
    exact hr_Gret mf_X5_readGuestHues lb_X5_readGuestHues_9 rfl rfl (Or.inl rfl)
theorem mf_X5_isFull : hr_mf 77 5 1 (some .boolean) 2 1 bk_X5_isFull := ⟨rfl, rfl, rfl, rfl, rfl, rfl⟩
theorem lb_X5_isFull_0 : bk_X5_isFull.lookup 0 = some [(.aload_n 1, 1), (.getfield 80, 3), (.bipush 6, 2), (.if_icmp .eq 12, 3)] := rfl
theorem lb_X5_isFull_9 : bk_X5_isFull.lookup 9 = some [(.aload_n 1, 1), (.getfield 80, 3), (.bipush 11, 2), (.if_icmp .ne 5, 3)] := rfl
theorem lb_X5_isFull_18 : bk_X5_isFull.lookup 18 = some [(.iconst 0, 1)] := rfl
theorem lb_X5_isFull_19 : bk_X5_isFull.lookup 19 = some [(.ireturn, 1)] := rfl
theorem lb_X5_isFull_20 : bk_X5_isFull.lookup 20 = some [(.aload_n 1, 1), (.getfield 80, 3), (.iconst 5, 1), (.if_icmp .ne 21, 3)] := rfl
theorem lb_X5_isFull_28 : bk_X5_isFull.lookup 28 = some [(.aload_n 0, 1), (.getfield 12, 3), (.getfield 128, 3), (.bipush 10, 2), (.if_icmp .lt 7, 3)] := rfl
theorem lb_X5_isFull_40 : bk_X5_isFull.lookup 40 = some [(.iconst 1, 1), (.goto 4, 3)] := rfl
theorem lb_X5_isFull_44 : bk_X5_isFull.lookup 44 = some [(.iconst 0, 1)] := rfl
theorem lb_X5_isFull_45 : bk_X5_isFull.lookup 45 = some [(.ireturn, 1)] := rfl
theorem lb_X5_isFull_46 : bk_X5_isFull.lookup 46 = some [(.aload_n 1, 1)] := rfl
theorem lb_X5_isFull_47 : bk_X5_isFull.lookup 47 = some [(.invokevirtual 117, 3)] := rfl
theorem lb_X5_isFull_50 : bk_X5_isFull.lookup 50 = some [(.ifCond .ne 21, 3)] := rfl
theorem lb_X5_isFull_53 : bk_X5_isFull.lookup 53 = some [(.aload_n 0, 1), (.getfield 12, 3), (.getfield 131, 3), (.bipush 6, 2), (.if_icmp .lt 7, 3)] := rfl
theorem lb_X5_isFull_65 : bk_X5_isFull.lookup 65 = some [(.iconst 1, 1), (.goto 4, 3)] := rfl
theorem lb_X5_isFull_69 : bk_X5_isFull.lookup 69 = some [(.iconst 0, 1)] := rfl
theorem lb_X5_isFull_70 : bk_X5_isFull.lookup 70 = some [(.ireturn, 1)] := rfl
theorem lb_X5_isFull_71 : bk_X5_isFull.lookup 71 = some [(.aload_n 0, 1), (.getfield 21, 3), (.getfield 134, 3), (.getstatic 137, 3), (.aload_n 1, 1)] := rfl
theorem lb_X5_isFull_82 : bk_X5_isFull.lookup 82 = some [(.invokevirtual 117, 3)] := rfl
theorem lb_X5_isFull_85 : bk_X5_isFull.lookup 85 = some [(.iaload, 1), (.if_icmp .lt 7, 3)] := rfl
theorem lb_X5_isFull_89 : bk_X5_isFull.lookup 89 = some [(.iconst 1, 1), (.goto 4, 3)] := rfl
theorem lb_X5_isFull_93 : bk_X5_isFull.lookup 93 = some [(.iconst 0, 1)] := rfl
theorem lb_X5_isFull_94 : bk_X5_isFull.lookup 94 = some [(.ireturn, 1)] := rfl
def f_X5_isFull (a1 : Nat) (M : PM) : Option (Int32 × PM) :=
  if hr_K a1 = 19 then if (M.1 a1 0) = 6 then
    some (0, M)
  else
    if (M.1 a1 0) = 11 then
      some (0, M)
    else
      if (M.1 a1 0) = 5 then
        if (M.1 224 0) < 10 then
          some (0, M)
        else
          some (1, M)
      else
        hr_bd (f_X3_sort a1 M) (fun v10 M10 =>
        if v10 = 0 then
          if (M10.1 224 1) < 6 then
            some (0, M10)
          else
            some (1, M10)
        else
          hr_bd (f_X3_sort a1 M10) (fun v16 M16 =>
          if inB v16 5 = true then if (M10.1 233 0) < (M16.1 305 v16.toNatClampNeg) then
            some (0, M16)
          else
            some (1, M16)
          else none)) else none
theorem g_X5_isFull (a1 : Nat) : ∀ (M : PM) (r : Int32 × PM), f_X5_isFull a1 M = some r → hr_G 77 0 [some (.ref 223), some (.ref a1)] [] M (some (.int r.1), r.2) := by
  intro M r h
  unfold f_X5_isFull at h
  refine hr_Fg h (fun ka1 h => ?_)
  refine hr_Grun mf_X5_isFull lb_X5_isFull_0 (P := hr_K a1 = 19 ∧ True) (pc' := if (M.1 a1 0) = 6 then 18 else 9) (ls' := [some (.ref 223), some (.ref a1)]) (st' := []) (M' := M) rfl rfl ⟨ka1, trivial⟩ ?_
  refine hr_Gif h (fun _ h => ?_) (fun _ h => ?_)
  · refine hr_Grun mf_X5_isFull lb_X5_isFull_18 (P := True) (pc' := 19) (ls' := [some (.ref 223), some (.ref a1)]) (st' := [.int 0]) (M' := M) rfl rfl trivial ?_
    cases h
    exact hr_Gret mf_X5_isFull lb_X5_isFull_19 rfl rfl (Or.inl rfl)
  · refine hr_Grun mf_X5_isFull lb_X5_isFull_9 (P := hr_K a1 = 19 ∧ True) (pc' := if (M.1 a1 0) = 11 then 18 else 20) (ls' := [some (.ref 223), some (.ref a1)]) (st' := []) (M' := M) rfl rfl ⟨ka1, trivial⟩ ?_
    refine hr_Gif h (fun _ h => ?_) (fun _ h => ?_)
    · refine hr_Grun mf_X5_isFull lb_X5_isFull_18 (P := True) (pc' := 19) (ls' := [some (.ref 223), some (.ref a1)]) (st' := [.int 0]) (M' := M) rfl rfl trivial ?_
      cases h
      exact hr_Gret mf_X5_isFull lb_X5_isFull_19 rfl rfl (Or.inl rfl)
    · refine hr_Grun mf_X5_isFull lb_X5_isFull_20 (P := hr_K a1 = 19 ∧ True) (pc' := if (M.1 a1 0) = 5 then 28 else 46) (ls' := [some (.ref 223), some (.ref a1)]) (st' := []) (M' := M) rfl rfl ⟨ka1, trivial⟩ ?_
      refine hr_Gif h (fun _ h => ?_) (fun _ h => ?_)
      · refine hr_Grun mf_X5_isFull lb_X5_isFull_28 (P := hr_K 223 = 4 ∧ hr_K 224 = 3 ∧ True) (pc' := if (M.1 224 0) < 10 then 44 else 40) (ls' := [some (.ref 223), some (.ref a1)]) (st' := []) (M' := M) rfl rfl ⟨K_223, K_224, trivial⟩ ?_
        refine hr_Gif h (fun _ h => ?_) (fun _ h => ?_)
        · refine hr_Grun mf_X5_isFull lb_X5_isFull_44 (P := True) (pc' := 45) (ls' := [some (.ref 223), some (.ref a1)]) (st' := [.int 0]) (M' := M) rfl rfl trivial ?_
          cases h
          exact hr_Gret mf_X5_isFull lb_X5_isFull_45 rfl rfl (Or.inl rfl)
        · refine hr_Grun mf_X5_isFull lb_X5_isFull_40 (P := True) (pc' := 45) (ls' := [some (.ref 223), some (.ref a1)]) (st' := [.int 1]) (M' := M) rfl rfl trivial ?_
          cases h
          exact hr_Gret mf_X5_isFull lb_X5_isFull_45 rfl rfl (Or.inr rfl)
      · refine hr_Grun mf_X5_isFull lb_X5_isFull_46 (P := True) (pc' := 47) (ls' := [some (.ref 223), some (.ref a1)]) (st' := [.ref a1]) (M' := M) rfl rfl trivial ?_
        refine hr_Fb h (fun v10 M10 e10 h => ?_)
        refine hr_Gcv mf_X5_isFull mf_X3_sort lb_X5_isFull_47 (b := a1) (as := []) (rest := []) (st2 := [.int v10]) (v := some (.int v10)) (M1 := M10) rfl rfl rfl rfl rfl rfl ka1 (g_X3_sort a1 _ _ e10) rfl rfl ?_
        refine hr_Grun mf_X5_isFull lb_X5_isFull_50 (P := True) (pc' := if v10 = 0 then 53 else 71) (ls' := [some (.ref 223), some (.ref a1)]) (st' := []) (M' := M10) rfl rfl trivial ?_
        refine hr_Gif h (fun _ h => ?_) (fun _ h => ?_)
        · refine hr_Grun mf_X5_isFull lb_X5_isFull_53 (P := hr_K 223 = 4 ∧ hr_K 224 = 3 ∧ True) (pc' := if (M10.1 224 1) < 6 then 69 else 65) (ls' := [some (.ref 223), some (.ref a1)]) (st' := []) (M' := M10) rfl rfl ⟨K_223, K_224, trivial⟩ ?_
          refine hr_Gif h (fun _ h => ?_) (fun _ h => ?_)
          · refine hr_Grun mf_X5_isFull lb_X5_isFull_69 (P := True) (pc' := 70) (ls' := [some (.ref 223), some (.ref a1)]) (st' := [.int 0]) (M' := M10) rfl rfl trivial ?_
            cases h
            exact hr_Gret mf_X5_isFull lb_X5_isFull_70 rfl rfl (Or.inl rfl)
          · refine hr_Grun mf_X5_isFull lb_X5_isFull_65 (P := True) (pc' := 70) (ls' := [some (.ref 223), some (.ref a1)]) (st' := [.int 1]) (M' := M10) rfl rfl trivial ?_
            cases h
            exact hr_Gret mf_X5_isFull lb_X5_isFull_70 rfl rfl (Or.inr rfl)
        · refine hr_Grun mf_X5_isFull lb_X5_isFull_71 (P := hr_K 223 = 4 ∧ hr_K 233 = 5 ∧ True) (pc' := 82) (ls' := [some (.ref 223), some (.ref a1)]) (st' := [.ref a1, .ref 305, .int (M10.1 233 0)]) (M' := M10) rfl rfl ⟨K_223, K_233, trivial⟩ ?_
          refine hr_Fb h (fun v16 M16 e16 h => ?_)
          refine hr_Gcv mf_X5_isFull mf_X3_sort lb_X5_isFull_82 (b := a1) (as := []) (rest := [.ref 305, .int (M10.1 233 0)]) (st2 := [.int v16, .ref 305, .int (M10.1 233 0)]) (v := some (.int v16)) (M1 := M16) rfl rfl rfl rfl rfl rfl ka1 (g_X3_sort a1 _ _ e16) rfl rfl ?_
          refine hr_Fg h (fun hg17_0 h => ?_)
          refine hr_Grun mf_X5_isFull lb_X5_isFull_85 (P := (hr_K 305 = 12 ∧ vp_in v16 (hr_N 305)) ∧ True) (pc' := if (M10.1 233 0) < (M16.1 305 v16.toNatClampNeg) then 93 else 89) (ls' := [some (.ref 223), some (.ref a1)]) (st' := []) (M' := M16) rfl rfl ⟨⟨K_305, (inB_N N_305 hg17_0)⟩, trivial⟩ ?_
          refine hr_Gif h (fun _ h => ?_) (fun _ h => ?_)
          · refine hr_Grun mf_X5_isFull lb_X5_isFull_93 (P := True) (pc' := 94) (ls' := [some (.ref 223), some (.ref a1)]) (st' := [.int 0]) (M' := M16) rfl rfl trivial ?_
            cases h
            exact hr_Gret mf_X5_isFull lb_X5_isFull_94 rfl rfl (Or.inl rfl)
          · refine hr_Grun mf_X5_isFull lb_X5_isFull_89 (P := True) (pc' := 94) (ls' := [some (.ref 223), some (.ref a1)]) (st' := [.int 1]) (M' := M16) rfl rfl trivial ?_
            cases h
            exact hr_Gret mf_X5_isFull lb_X5_isFull_94 rfl rfl (Or.inr rfl)
theorem mf_X5_badPlace : hr_mf 78 5 1 (some .int) 2 1 bk_X5_badPlace := ⟨rfl, rfl, rfl, rfl, rfl, rfl⟩
theorem lb_X5_badPlace_0 : bk_X5_badPlace.lookup 0 = some [(.aload_n 1, 1), (.getfield 80, 3), (.bipush 40, 2), (.if_icmp .ne 8, 3)] := rfl
theorem lb_X5_badPlace_9 : bk_X5_badPlace.lookup 9 = some [(.aload_n 0, 1), (.getfield 102, 3)] := rfl
theorem lb_X5_badPlace_13 : bk_X5_badPlace.lookup 13 = some [(.ireturn, 1)] := rfl
theorem lb_X5_badPlace_14 : bk_X5_badPlace.lookup 14 = some [(.aload_n 1, 1), (.getfield 87, 3), (.ifCond .le 23, 3)] := rfl
theorem lb_X5_badPlace_21 : bk_X5_badPlace.lookup 21 = some [(.aload_n 1, 1), (.aload_n 0, 1), (.getfield 29, 3), (.iconst 0, 1), (.iaload, 1)] := rfl
theorem lb_X5_badPlace_28 : bk_X5_badPlace.lookup 28 = some [(.invokevirtual 140, 3)] := rfl
theorem lb_X5_badPlace_31 : bk_X5_badPlace.lookup 31 = some [(.ifCond .ne 10, 3)] := rfl
theorem lb_X5_badPlace_34 : bk_X5_badPlace.lookup 34 = some [(.aload_n 0, 1), (.getfield 33, 3), (.iconst 0, 1), (.iaload, 1)] := rfl
theorem lb_X5_badPlace_40 : bk_X5_badPlace.lookup 40 = some [(.ireturn, 1)] := rfl
theorem lb_X5_badPlace_41 : bk_X5_badPlace.lookup 41 = some [(.aload_n 1, 1), (.getfield 87, 3), (.iconst 1, 1), (.if_icmp .le 29, 3)] := rfl
theorem lb_X5_badPlace_49 : bk_X5_badPlace.lookup 49 = some [(.aload_n 1, 1), (.aload_n 0, 1), (.getfield 29, 3), (.iconst 1, 1), (.iaload, 1), (.aload_n 0, 1), (.getfield 29, 3), (.iconst 0, 1), (.iaload, 1)] := rfl
theorem lb_X5_badPlace_62 : bk_X5_badPlace.lookup 62 = some [(.invokevirtual 143, 3)] := rfl
theorem lb_X5_badPlace_65 : bk_X5_badPlace.lookup 65 = some [(.ifCond .ne 10, 3)] := rfl
theorem lb_X5_badPlace_68 : bk_X5_badPlace.lookup 68 = some [(.aload_n 0, 1), (.getfield 33, 3), (.iconst 1, 1), (.iaload, 1)] := rfl
theorem lb_X5_badPlace_74 : bk_X5_badPlace.lookup 74 = some [(.ireturn, 1)] := rfl
theorem lb_X5_badPlace_75 : bk_X5_badPlace.lookup 75 = some [(.aload_n 1, 1), (.getfield 87, 3), (.iconst 2, 1), (.if_icmp .le 23, 3)] := rfl
theorem lb_X5_badPlace_83 : bk_X5_badPlace.lookup 83 = some [(.aload_n 1, 1), (.aload_n 0, 1), (.getfield 29, 3), (.iconst 2, 1), (.iaload, 1)] := rfl
theorem lb_X5_badPlace_90 : bk_X5_badPlace.lookup 90 = some [(.invokevirtual 146, 3)] := rfl
theorem lb_X5_badPlace_93 : bk_X5_badPlace.lookup 93 = some [(.ifCond .ne 10, 3)] := rfl
theorem lb_X5_badPlace_96 : bk_X5_badPlace.lookup 96 = some [(.aload_n 0, 1), (.getfield 33, 3), (.iconst 2, 1), (.iaload, 1)] := rfl
theorem lb_X5_badPlace_102 : bk_X5_badPlace.lookup 102 = some [(.ireturn, 1)] := rfl
theorem lb_X5_badPlace_103 : bk_X5_badPlace.lookup 103 = some [(.iconst (-1), 1)] := rfl
theorem lb_X5_badPlace_104 : bk_X5_badPlace.lookup 104 = some [(.ireturn, 1)] := rfl
def f_X5_badPlace_75 (a1 : Nat) (M : PM) : Option (Int32 × PM) :=
  if (M.1 a1 2) ≤ 2 then
    some ((-1), M)
  else
    if inB 2 3 = true then 
    hr_bd (f_X3_thirdCanBe a1 (M.1 238 (2 : Int32).toNatClampNeg) M) (fun v4 M4 =>
    if v4 = 0 then
      if inB 2 3 = true then 
      some ((M4.1 239 (2 : Int32).toNatClampNeg), M4) else none
    else
      some ((-1), M4)) else none
theorem g_X5_badPlace_75 (a1 : Nat) (ka1 : hr_K a1 = 19) : ∀ (M : PM) (r : Int32 × PM), f_X5_badPlace_75 a1 M = some r → hr_G 78 75 [some (.ref 223), some (.ref a1)] [] M (some (.int r.1), r.2) := by
  intro M r h
  unfold f_X5_badPlace_75 at h
  refine hr_Grun mf_X5_badPlace lb_X5_badPlace_75 (P := hr_K a1 = 19 ∧ True) (pc' := if (M.1 a1 2) ≤ 2 then 103 else 83) (ls' := [some (.ref 223), some (.ref a1)]) (st' := []) (M' := M) rfl rfl ⟨ka1, trivial⟩ ?_
  refine hr_Gif h (fun _ h => ?_) (fun _ h => ?_)
  · refine hr_Grun mf_X5_badPlace lb_X5_badPlace_103 (P := True) (pc' := 104) (ls' := [some (.ref 223), some (.ref a1)]) (st' := [.int (-1)]) (M' := M) rfl rfl trivial ?_
    cases h
    exact hr_Gret mf_X5_badPlace lb_X5_badPlace_104 rfl rfl trivial
  · refine hr_Fg h (fun hg3_0 h => ?_)
    refine hr_Grun mf_X5_badPlace lb_X5_badPlace_83 (P := hr_K 223 = 4 ∧ (hr_K 238 = 12 ∧ vp_in 2 (hr_N 238)) ∧ True) (pc' := 90) (ls' := [some (.ref 223), some (.ref a1)]) (st' := [.int (M.1 238 (2 : Int32).toNatClampNeg), .ref a1]) (M' := M) rfl rfl ⟨K_223, ⟨K_238, (inB_N N_238 hg3_0)⟩, trivial⟩ ?_
    refine hr_Fb h (fun v4 M4 e4 h => ?_)
    refine hr_Gcv mf_X5_badPlace mf_X3_thirdCanBe lb_X5_badPlace_90 (b := a1) (as := [.int (M.1 238 (2 : Int32).toNatClampNeg)]) (rest := []) (st2 := [.int v4]) (v := some (.int v4)) (M1 := M4) rfl rfl rfl rfl rfl rfl ka1 (g_X3_thirdCanBe a1 (M.1 238 (2 : Int32).toNatClampNeg) _ _ e4) rfl rfl ?_
    refine hr_Grun mf_X5_badPlace lb_X5_badPlace_93 (P := True) (pc' := if v4 = 0 then 96 else 103) (ls' := [some (.ref 223), some (.ref a1)]) (st' := []) (M' := M4) rfl rfl trivial ?_
    refine hr_Gif h (fun _ h => ?_) (fun _ h => ?_)
    · refine hr_Fg h (fun hg6_0 h => ?_)
      refine hr_Grun mf_X5_badPlace lb_X5_badPlace_96 (P := hr_K 223 = 4 ∧ (hr_K 239 = 12 ∧ vp_in 2 (hr_N 239)) ∧ True) (pc' := 102) (ls' := [some (.ref 223), some (.ref a1)]) (st' := [.int (M4.1 239 (2 : Int32).toNatClampNeg)]) (M' := M4) rfl rfl ⟨K_223, ⟨K_239, (inB_N N_239 hg6_0)⟩, trivial⟩ ?_
      cases h
      exact hr_Gret mf_X5_badPlace lb_X5_badPlace_102 rfl rfl trivial
    · refine hr_Grun mf_X5_badPlace lb_X5_badPlace_103 (P := True) (pc' := 104) (ls' := [some (.ref 223), some (.ref a1)]) (st' := [.int (-1)]) (M' := M4) rfl rfl trivial ?_
      cases h
      exact hr_Gret mf_X5_badPlace lb_X5_badPlace_104 rfl rfl trivial
def f_X5_badPlace_41 (a1 : Nat) (M : PM) : Option (Int32 × PM) :=
  if (M.1 a1 2) ≤ 1 then
    f_X5_badPlace_75 a1 M
  else
    if inB 1 3 = true then if inB 0 3 = true then 
    hr_bd (f_X3_secondCanBe a1 (M.1 238 (1 : Int32).toNatClampNeg) (M.1 238 (0 : Int32).toNatClampNeg) M) (fun v3 M3 =>
    if v3 = 0 then
      if inB 1 3 = true then 
      some ((M3.1 239 (1 : Int32).toNatClampNeg), M3) else none
    else
      f_X5_badPlace_75 a1 M3) else none else none
theorem g_X5_badPlace_41 (a1 : Nat) (ka1 : hr_K a1 = 19) : ∀ (M : PM) (r : Int32 × PM), f_X5_badPlace_41 a1 M = some r → hr_G 78 41 [some (.ref 223), some (.ref a1)] [] M (some (.int r.1), r.2) := by
  intro M r h
  unfold f_X5_badPlace_41 at h
  refine hr_Grun mf_X5_badPlace lb_X5_badPlace_41 (P := hr_K a1 = 19 ∧ True) (pc' := if (M.1 a1 2) ≤ 1 then 75 else 49) (ls' := [some (.ref 223), some (.ref a1)]) (st' := []) (M' := M) rfl rfl ⟨ka1, trivial⟩ ?_
  refine hr_Gif h (fun _ h => ?_) (fun _ h => ?_)
  · exact g_X5_badPlace_75 a1 ka1 M _ h
  · refine hr_Fg h (fun hg2_0 h => ?_)
    refine hr_Fg h (fun hg2_1 h => ?_)
    refine hr_Grun mf_X5_badPlace lb_X5_badPlace_49 (P := hr_K 223 = 4 ∧ (hr_K 238 = 12 ∧ vp_in 1 (hr_N 238)) ∧ hr_K 223 = 4 ∧ (hr_K 238 = 12 ∧ vp_in 0 (hr_N 238)) ∧ True) (pc' := 62) (ls' := [some (.ref 223), some (.ref a1)]) (st' := [.int (M.1 238 (0 : Int32).toNatClampNeg), .int (M.1 238 (1 : Int32).toNatClampNeg), .ref a1]) (M' := M) rfl rfl ⟨K_223, ⟨K_238, (inB_N N_238 hg2_0)⟩, K_223, ⟨K_238, (inB_N N_238 hg2_1)⟩, trivial⟩ ?_
    refine hr_Fb h (fun v3 M3 e3 h => ?_)
    refine hr_Gcv mf_X5_badPlace mf_X3_secondCanBe lb_X5_badPlace_62 (b := a1) (as := [.int (M.1 238 (1 : Int32).toNatClampNeg), .int (M.1 238 (0 : Int32).toNatClampNeg)]) (rest := []) (st2 := [.int v3]) (v := some (.int v3)) (M1 := M3) rfl rfl rfl rfl rfl rfl ka1 (g_X3_secondCanBe a1 (M.1 238 (1 : Int32).toNatClampNeg) (M.1 238 (0 : Int32).toNatClampNeg) _ _ e3) rfl rfl ?_
    refine hr_Grun mf_X5_badPlace lb_X5_badPlace_65 (P := True) (pc' := if v3 = 0 then 68 else 75) (ls' := [some (.ref 223), some (.ref a1)]) (st' := []) (M' := M3) rfl rfl trivial ?_
    refine hr_Gif h (fun _ h => ?_) (fun _ h => ?_)
    · refine hr_Fg h (fun hg5_0 h => ?_)
      refine hr_Grun mf_X5_badPlace lb_X5_badPlace_68 (P := hr_K 223 = 4 ∧ (hr_K 239 = 12 ∧ vp_in 1 (hr_N 239)) ∧ True) (pc' := 74) (ls' := [some (.ref 223), some (.ref a1)]) (st' := [.int (M3.1 239 (1 : Int32).toNatClampNeg)]) (M' := M3) rfl rfl ⟨K_223, ⟨K_239, (inB_N N_239 hg5_0)⟩, trivial⟩ ?_
      cases h
      exact hr_Gret mf_X5_badPlace lb_X5_badPlace_74 rfl rfl trivial
    · exact g_X5_badPlace_75 a1 ka1 M3 _ h
def f_X5_badPlace (a1 : Nat) (M : PM) : Option (Int32 × PM) :=
  if hr_K a1 = 19 then if (M.1 a1 0) = 40 then
    some ((M.1 223 13), M)
  else
    if (M.1 a1 2) ≤ 0 then
      f_X5_badPlace_41 a1 M
    else
      if inB 0 3 = true then 
      hr_bd (f_X3_firstCanBe a1 (M.1 238 (0 : Int32).toNatClampNeg) M) (fun v5 M5 =>
      if v5 = 0 then
        if inB 0 3 = true then 
        some ((M5.1 239 (0 : Int32).toNatClampNeg), M5) else none
      else
        f_X5_badPlace_41 a1 M5) else none else none
theorem g_X5_badPlace (a1 : Nat) : ∀ (M : PM) (r : Int32 × PM), f_X5_badPlace a1 M = some r → hr_G 78 0 [some (.ref 223), some (.ref a1)] [] M (some (.int r.1), r.2) := by
  intro M r h
  unfold f_X5_badPlace at h
  refine hr_Fg h (fun ka1 h => ?_)
  refine hr_Grun mf_X5_badPlace lb_X5_badPlace_0 (P := hr_K a1 = 19 ∧ True) (pc' := if (M.1 a1 0) = 40 then 9 else 14) (ls' := [some (.ref 223), some (.ref a1)]) (st' := []) (M' := M) rfl rfl ⟨ka1, trivial⟩ ?_
  refine hr_Gif h (fun _ h => ?_) (fun _ h => ?_)
  · refine hr_Grun mf_X5_badPlace lb_X5_badPlace_9 (P := hr_K 223 = 4 ∧ True) (pc' := 13) (ls' := [some (.ref 223), some (.ref a1)]) (st' := [.int (M.1 223 13)]) (M' := M) rfl rfl ⟨K_223, trivial⟩ ?_
    cases h
    exact hr_Gret mf_X5_badPlace lb_X5_badPlace_13 rfl rfl trivial
  · refine hr_Grun mf_X5_badPlace lb_X5_badPlace_14 (P := hr_K a1 = 19 ∧ True) (pc' := if (M.1 a1 2) ≤ 0 then 41 else 21) (ls' := [some (.ref 223), some (.ref a1)]) (st' := []) (M' := M) rfl rfl ⟨ka1, trivial⟩ ?_
    refine hr_Gif h (fun _ h => ?_) (fun _ h => ?_)
    · exact g_X5_badPlace_41 a1 ka1 M _ h
    · refine hr_Fg h (fun hg4_0 h => ?_)
      refine hr_Grun mf_X5_badPlace lb_X5_badPlace_21 (P := hr_K 223 = 4 ∧ (hr_K 238 = 12 ∧ vp_in 0 (hr_N 238)) ∧ True) (pc' := 28) (ls' := [some (.ref 223), some (.ref a1)]) (st' := [.int (M.1 238 (0 : Int32).toNatClampNeg), .ref a1]) (M' := M) rfl rfl ⟨K_223, ⟨K_238, (inB_N N_238 hg4_0)⟩, trivial⟩ ?_
      refine hr_Fb h (fun v5 M5 e5 h => ?_)
      refine hr_Gcv mf_X5_badPlace mf_X3_firstCanBe lb_X5_badPlace_28 (b := a1) (as := [.int (M.1 238 (0 : Int32).toNatClampNeg)]) (rest := []) (st2 := [.int v5]) (v := some (.int v5)) (M1 := M5) rfl rfl rfl rfl rfl rfl ka1 (g_X3_firstCanBe a1 (M.1 238 (0 : Int32).toNatClampNeg) _ _ e5) rfl rfl ?_
      refine hr_Grun mf_X5_badPlace lb_X5_badPlace_31 (P := True) (pc' := if v5 = 0 then 34 else 41) (ls' := [some (.ref 223), some (.ref a1)]) (st' := []) (M' := M5) rfl rfl trivial ?_
      refine hr_Gif h (fun _ h => ?_) (fun _ h => ?_)
      · refine hr_Fg h (fun hg7_0 h => ?_)
        refine hr_Grun mf_X5_badPlace lb_X5_badPlace_34 (P := hr_K 223 = 4 ∧ (hr_K 239 = 12 ∧ vp_in 0 (hr_N 239)) ∧ True) (pc' := 40) (ls' := [some (.ref 223), some (.ref a1)]) (st' := [.int (M5.1 239 (0 : Int32).toNatClampNeg)]) (M' := M5) rfl rfl ⟨K_223, ⟨K_239, (inB_N N_239 hg7_0)⟩, trivial⟩ ?_
        cases h
        exact hr_Gret mf_X5_badPlace lb_X5_badPlace_40 rfl rfl trivial
      · exact g_X5_badPlace_41 a1 ka1 M5 _ h
theorem mf_X5_keepInPalette : hr_mf 79 5 1 none 2 1 bk_X5_keepInPalette := ⟨rfl, rfl, rfl, rfl, rfl, rfl⟩
theorem lb_X5_keepInPalette_0 : bk_X5_keepInPalette.lookup 0 = some [(.aload_n 1, 1), (.getfield 80, 3), (.iconst 5, 1), (.if_icmp .ne 31, 3)] := rfl
theorem lb_X5_keepInPalette_8 : bk_X5_keepInPalette.lookup 8 = some [(.aload_n 0, 1), (.getfield 12, 3), (.aload_n 0, 1), (.getfield 29, 3), (.iconst 0, 1), (.iaload, 1), (.aload_n 0, 1), (.getfield 29, 3), (.iconst 1, 1), (.iaload, 1), (.aload_n 0, 1), (.getfield 29, 3), (.iconst 2, 1), (.iaload, 1)] := rfl
theorem lb_X5_keepInPalette_30 : bk_X5_keepInPalette.lookup 30 = some [(.invokevirtual 149, 3)] := rfl
theorem lb_X5_keepInPalette_33 : bk_X5_keepInPalette.lookup 33 = some [(.goto 118, 3)] := rfl
theorem lb_X5_keepInPalette_36 : bk_X5_keepInPalette.lookup 36 = some [(.aload_n 1, 1), (.getfield 80, 3), (.bipush 6, 2), (.if_icmp .ne 48, 3)] := rfl
theorem lb_X5_keepInPalette_45 : bk_X5_keepInPalette.lookup 45 = some [(.aload_n 0, 1), (.getfield 12, 3), (.aload_n 0, 1), (.getfield 29, 3), (.iconst 0, 1), (.iaload, 1), (.aload_n 0, 1), (.getfield 29, 3), (.iconst 1, 1), (.iaload, 1), (.aload_n 0, 1), (.getfield 29, 3), (.iconst 2, 1), (.iaload, 1)] := rfl
theorem lb_X5_keepInPalette_67 : bk_X5_keepInPalette.lookup 67 = some [(.invokevirtual 153, 3)] := rfl
theorem lb_X5_keepInPalette_70 : bk_X5_keepInPalette.lookup 70 = some [(.aload_n 0, 1), (.dup, 1), (.getfield 49, 3), (.iconst 1, 1), (.aload_n 0, 1), (.getfield 29, 3), (.iconst 1, 1), (.iaload, 1), (.ishl, 1), (.ior, 1), (.putfield 49, 3), (.goto 64, 3)] := rfl
theorem lb_X5_keepInPalette_90 : bk_X5_keepInPalette.lookup 90 = some [(.aload_n 0, 1), (.getfield 12, 3), (.aload_n 1, 1), (.getfield 80, 3), (.aload_n 0, 1), (.getfield 29, 3), (.iconst 0, 1), (.iaload, 1), (.aload_n 0, 1), (.getfield 29, 3), (.iconst 1, 1), (.iaload, 1)] := rfl
theorem lb_X5_keepInPalette_110 : bk_X5_keepInPalette.lookup 110 = some [(.invokevirtual 156, 3)] := rfl
theorem lb_X5_keepInPalette_113 : bk_X5_keepInPalette.lookup 113 = some [(.aload_n 0, 1), (.dup, 1), (.getfield 49, 3), (.aload_n 1, 1), (.getfield 80, 3), (.iconst 3, 1), (.if_icmp .ne 23, 3)] := rfl
theorem lb_X5_keepInPalette_126 : bk_X5_keepInPalette.lookup 126 = some [(.iconst 1, 1), (.aload_n 0, 1), (.getfield 29, 3), (.iconst 0, 1), (.iaload, 1), (.ishl, 1), (.iconst 1, 1), (.aload_n 0, 1), (.getfield 29, 3), (.iconst 1, 1), (.iaload, 1), (.ishl, 1), (.ior, 1), (.goto 4, 3)] := rfl
theorem lb_X5_keepInPalette_146 : bk_X5_keepInPalette.lookup 146 = some [(.iconst 0, 1)] := rfl
theorem lb_X5_keepInPalette_147 : bk_X5_keepInPalette.lookup 147 = some [(.ior, 1), (.putfield 49, 3)] := rfl
theorem lb_X5_keepInPalette_151 : bk_X5_keepInPalette.lookup 151 = some [(.return_, 1)] := rfl
def f_X5_keepInPalette (a1 : Nat) (M : PM) : Option (Unit × PM) :=
  if hr_K a1 = 19 then if (M.1 a1 0) = 5 then
    if inB 0 3 = true then if inB 1 3 = true then if inB 2 3 = true then 
    hr_bd (f_X4_addHue 224 (M.1 238 (0 : Int32).toNatClampNeg) (M.1 238 (1 : Int32).toNatClampNeg) (M.1 238 (2 : Int32).toNatClampNeg) M) (fun v3 M3 =>
    some ((), M3)) else none else none else none
  else
    if (M.1 a1 0) = 6 then
      if inB 0 3 = true then if inB 1 3 = true then if inB 2 3 = true then 
      hr_bd (f_X4_setLikes 224 (M.1 238 (0 : Int32).toNatClampNeg) (M.1 238 (1 : Int32).toNatClampNeg) (M.1 238 (2 : Int32).toNatClampNeg) M) (fun v7 M7 =>
      if inB 1 3 = true then 
      some ((), hr_si M7 223 14 ((M7.1 223 14) ||| (jl 1 (M7.1 238 (1 : Int32).toNatClampNeg)))) else none) else none else none else none
    else
      if inB 0 3 = true then if inB 1 3 = true then 
      hr_bd (f_X4_addRule 224 (M.1 a1 0) (M.1 238 (0 : Int32).toNatClampNeg) (M.1 238 (1 : Int32).toNatClampNeg) M) (fun v10 M10 =>
      if (M10.1 a1 0) = 3 then
        if inB 0 3 = true then if inB 1 3 = true then 
        some ((), hr_si M10 223 14 ((M10.1 223 14) ||| ((jl 1 (M10.1 238 (0 : Int32).toNatClampNeg)) ||| (jl 1 (M10.1 238 (1 : Int32).toNatClampNeg))))) else none else none
      else
        some ((), hr_si M10 223 14 ((M10.1 223 14) ||| 0))) else none else none else none
theorem g_X5_keepInPalette (a1 : Nat) : ∀ (M : PM) (r : Unit × PM), f_X5_keepInPalette a1 M = some r → hr_G 79 0 [some (.ref 223), some (.ref a1)] [] M (none, r.2) := by
  intro M r h
  unfold f_X5_keepInPalette at h
  refine hr_Fg h (fun ka1 h => ?_)
  refine hr_Grun mf_X5_keepInPalette lb_X5_keepInPalette_0 (P := hr_K a1 = 19 ∧ True) (pc' := if (M.1 a1 0) = 5 then 8 else 36) (ls' := [some (.ref 223), some (.ref a1)]) (st' := []) (M' := M) rfl rfl ⟨ka1, trivial⟩ ?_
  refine hr_Gif h (fun _ h => ?_) (fun _ h => ?_)
  · refine hr_Fg h (fun hg2_0 h => ?_)
    refine hr_Fg h (fun hg2_1 h => ?_)
    refine hr_Fg h (fun hg2_2 h => ?_)
    refine hr_Grun mf_X5_keepInPalette lb_X5_keepInPalette_8 (P := hr_K 223 = 4 ∧ hr_K 223 = 4 ∧ (hr_K 238 = 12 ∧ vp_in 0 (hr_N 238)) ∧ hr_K 223 = 4 ∧ (hr_K 238 = 12 ∧ vp_in 1 (hr_N 238)) ∧ hr_K 223 = 4 ∧ (hr_K 238 = 12 ∧ vp_in 2 (hr_N 238)) ∧ True) (pc' := 30) (ls' := [some (.ref 223), some (.ref a1)]) (st' := [.int (M.1 238 (2 : Int32).toNatClampNeg), .int (M.1 238 (1 : Int32).toNatClampNeg), .int (M.1 238 (0 : Int32).toNatClampNeg), .ref 224]) (M' := M) rfl rfl ⟨K_223, K_223, ⟨K_238, (inB_N N_238 hg2_0)⟩, K_223, ⟨K_238, (inB_N N_238 hg2_1)⟩, K_223, ⟨K_238, (inB_N N_238 hg2_2)⟩, trivial⟩ ?_
    refine hr_Fb h (fun v3 M3 e3 h => ?_)
    refine hr_Gcv mf_X5_keepInPalette mf_X4_addHue lb_X5_keepInPalette_30 (b := 224) (as := [.int (M.1 238 (0 : Int32).toNatClampNeg), .int (M.1 238 (1 : Int32).toNatClampNeg), .int (M.1 238 (2 : Int32).toNatClampNeg)]) (rest := []) (st2 := []) (v := none) (M1 := M3) rfl rfl rfl rfl rfl rfl K_224 (g_X4_addHue 224 (M.1 238 (0 : Int32).toNatClampNeg) (M.1 238 (1 : Int32).toNatClampNeg) (M.1 238 (2 : Int32).toNatClampNeg) _ _ e3) rfl rfl ?_
    refine hr_Grun mf_X5_keepInPalette lb_X5_keepInPalette_33 (P := True) (pc' := 151) (ls' := [some (.ref 223), some (.ref a1)]) (st' := []) (M' := M3) rfl rfl trivial ?_
    cases h
    exact hr_Gret mf_X5_keepInPalette lb_X5_keepInPalette_151 rfl rfl trivial
  · refine hr_Grun mf_X5_keepInPalette lb_X5_keepInPalette_36 (P := hr_K a1 = 19 ∧ True) (pc' := if (M.1 a1 0) = 6 then 45 else 90) (ls' := [some (.ref 223), some (.ref a1)]) (st' := []) (M' := M) rfl rfl ⟨ka1, trivial⟩ ?_
    refine hr_Gif h (fun _ h => ?_) (fun _ h => ?_)
    · refine hr_Fg h (fun hg6_0 h => ?_)
      refine hr_Fg h (fun hg6_1 h => ?_)
      refine hr_Fg h (fun hg6_2 h => ?_)
      refine hr_Grun mf_X5_keepInPalette lb_X5_keepInPalette_45 (P := hr_K 223 = 4 ∧ hr_K 223 = 4 ∧ (hr_K 238 = 12 ∧ vp_in 0 (hr_N 238)) ∧ hr_K 223 = 4 ∧ (hr_K 238 = 12 ∧ vp_in 1 (hr_N 238)) ∧ hr_K 223 = 4 ∧ (hr_K 238 = 12 ∧ vp_in 2 (hr_N 238)) ∧ True) (pc' := 67) (ls' := [some (.ref 223), some (.ref a1)]) (st' := [.int (M.1 238 (2 : Int32).toNatClampNeg), .int (M.1 238 (1 : Int32).toNatClampNeg), .int (M.1 238 (0 : Int32).toNatClampNeg), .ref 224]) (M' := M) rfl rfl ⟨K_223, K_223, ⟨K_238, (inB_N N_238 hg6_0)⟩, K_223, ⟨K_238, (inB_N N_238 hg6_1)⟩, K_223, ⟨K_238, (inB_N N_238 hg6_2)⟩, trivial⟩ ?_
      refine hr_Fb h (fun v7 M7 e7 h => ?_)
      refine hr_Gcv mf_X5_keepInPalette mf_X4_setLikes lb_X5_keepInPalette_67 (b := 224) (as := [.int (M.1 238 (0 : Int32).toNatClampNeg), .int (M.1 238 (1 : Int32).toNatClampNeg), .int (M.1 238 (2 : Int32).toNatClampNeg)]) (rest := []) (st2 := []) (v := none) (M1 := M7) rfl rfl rfl rfl rfl rfl K_224 (g_X4_setLikes 224 (M.1 238 (0 : Int32).toNatClampNeg) (M.1 238 (1 : Int32).toNatClampNeg) (M.1 238 (2 : Int32).toNatClampNeg) _ _ e7) rfl rfl ?_
      refine hr_Fg h (fun hg8_0 h => ?_)
      refine hr_Grun mf_X5_keepInPalette lb_X5_keepInPalette_70 (P := hr_K 223 = 4 ∧ hr_K 223 = 4 ∧ (hr_K 238 = 12 ∧ vp_in 1 (hr_N 238)) ∧ (hr_K 223 = 4 ∧ 223 < hr_n) ∧ True) (pc' := 151) (ls' := [some (.ref 223), some (.ref a1)]) (st' := []) (M' := hr_si M7 223 14 ((M7.1 223 14) ||| (jl 1 (M7.1 238 (1 : Int32).toNatClampNeg)))) rfl rfl ⟨K_223, K_223, ⟨K_238, (inB_N N_238 hg8_0)⟩, ⟨K_223, L_223⟩, trivial⟩ ?_
      cases h
      exact hr_Gret mf_X5_keepInPalette lb_X5_keepInPalette_151 rfl rfl trivial
    · refine hr_Fg h (fun hg9_0 h => ?_)
      refine hr_Fg h (fun hg9_1 h => ?_)
      refine hr_Grun mf_X5_keepInPalette lb_X5_keepInPalette_90 (P := hr_K 223 = 4 ∧ hr_K a1 = 19 ∧ hr_K 223 = 4 ∧ (hr_K 238 = 12 ∧ vp_in 0 (hr_N 238)) ∧ hr_K 223 = 4 ∧ (hr_K 238 = 12 ∧ vp_in 1 (hr_N 238)) ∧ True) (pc' := 110) (ls' := [some (.ref 223), some (.ref a1)]) (st' := [.int (M.1 238 (1 : Int32).toNatClampNeg), .int (M.1 238 (0 : Int32).toNatClampNeg), .int (M.1 a1 0), .ref 224]) (M' := M) rfl rfl ⟨K_223, ka1, K_223, ⟨K_238, (inB_N N_238 hg9_0)⟩, K_223, ⟨K_238, (inB_N N_238 hg9_1)⟩, trivial⟩ ?_
      refine hr_Fb h (fun v10 M10 e10 h => ?_)
      refine hr_Gcv mf_X5_keepInPalette mf_X4_addRule lb_X5_keepInPalette_110 (b := 224) (as := [.int (M.1 a1 0), .int (M.1 238 (0 : Int32).toNatClampNeg), .int (M.1 238 (1 : Int32).toNatClampNeg)]) (rest := []) (st2 := []) (v := none) (M1 := M10) rfl rfl rfl rfl rfl rfl K_224 (g_X4_addRule 224 (M.1 a1 0) (M.1 238 (0 : Int32).toNatClampNeg) (M.1 238 (1 : Int32).toNatClampNeg) _ _ e10) rfl rfl ?_
      refine hr_Grun mf_X5_keepInPalette lb_X5_keepInPalette_113 (P := hr_K 223 = 4 ∧ hr_K a1 = 19 ∧ True) (pc' := if (M10.1 a1 0) = 3 then 126 else 146) (ls' := [some (.ref 223), some (.ref a1)]) (st' := [.int (M10.1 223 14), .ref 223]) (M' := M10) rfl rfl ⟨K_223, ka1, trivial⟩ ?_
      refine hr_Gif h (fun _ h => ?_) (fun _ h => ?_)
      · refine hr_Fg h (fun hg12_0 h => ?_)
        refine hr_Fg h (fun hg12_1 h => ?_)
        refine hr_Grun mf_X5_keepInPalette lb_X5_keepInPalette_126 (P := hr_K 223 = 4 ∧ (hr_K 238 = 12 ∧ vp_in 0 (hr_N 238)) ∧ hr_K 223 = 4 ∧ (hr_K 238 = 12 ∧ vp_in 1 (hr_N 238)) ∧ True) (pc' := 147) (ls' := [some (.ref 223), some (.ref a1)]) (st' := [.int ((jl 1 (M10.1 238 (0 : Int32).toNatClampNeg)) ||| (jl 1 (M10.1 238 (1 : Int32).toNatClampNeg))), .int (M10.1 223 14), .ref 223]) (M' := M10) rfl rfl ⟨K_223, ⟨K_238, (inB_N N_238 hg12_0)⟩, K_223, ⟨K_238, (inB_N N_238 hg12_1)⟩, trivial⟩ ?_
        refine hr_Grun mf_X5_keepInPalette lb_X5_keepInPalette_147 (P := (hr_K 223 = 4 ∧ 223 < hr_n) ∧ True) (pc' := 151) (ls' := [some (.ref 223), some (.ref a1)]) (st' := []) (M' := hr_si M10 223 14 ((M10.1 223 14) ||| ((jl 1 (M10.1 238 (0 : Int32).toNatClampNeg)) ||| (jl 1 (M10.1 238 (1 : Int32).toNatClampNeg))))) rfl rfl ⟨⟨K_223, L_223⟩, trivial⟩ ?_
        cases h
        exact hr_Gret mf_X5_keepInPalette lb_X5_keepInPalette_151 rfl rfl trivial
      · refine hr_Grun mf_X5_keepInPalette lb_X5_keepInPalette_146 (P := True) (pc' := 147) (ls' := [some (.ref 223), some (.ref a1)]) (st' := [.int 0, .int (M10.1 223 14), .ref 223]) (M' := M10) rfl rfl trivial ?_
        refine hr_Grun mf_X5_keepInPalette lb_X5_keepInPalette_147 (P := (hr_K 223 = 4 ∧ 223 < hr_n) ∧ True) (pc' := 151) (ls' := [some (.ref 223), some (.ref a1)]) (st' := []) (M' := hr_si M10 223 14 ((M10.1 223 14) ||| 0)) rfl rfl ⟨⟨K_223, L_223⟩, trivial⟩ ?_
        cases h
        exact hr_Gret mf_X5_keepInPalette lb_X5_keepInPalette_151 rfl rfl trivial
theorem mf_X6_name : hr_mf 91 6 0 none 2 1 bk_X6_name := ⟨rfl, rfl, rfl, rfl, rfl, rfl⟩
theorem lb_X6_name_0 : bk_X6_name.lookup 0 = some [(.aload_n 0, 1), (.dup, 1), (.getfield 28, 3), (.iload_n 1, 1), (.ior, 1), (.putfield 28, 3)] := rfl
theorem lb_X6_name_10 : bk_X6_name.lookup 10 = some [(.return_, 1)] := rfl
def f_X6_name (a0 : Nat) (a1 : Int32) (M : PM) : Option (Unit × PM) :=
  if hr_K a0 = 5 then some ((), hr_si M a0 2 ((M.1 a0 2) ||| a1)) else none
theorem g_X6_name (a0 : Nat) (a1 : Int32) : ∀ (M : PM) (r : Unit × PM), f_X6_name a0 a1 M = some r → hr_G 91 0 [some (.ref a0), some (.int a1)] [] M (none, r.2) := by
  intro M r h
  unfold f_X6_name at h
  refine hr_Fg h (fun ka0 h => ?_)
  refine hr_Grun mf_X6_name lb_X6_name_0 (P := hr_K a0 = 5 ∧ (hr_K a0 = 5 ∧ a0 < hr_n) ∧ True) (pc' := 10) (ls' := [some (.ref a0), some (.int a1)]) (st' := []) (M' := hr_si M a0 2 ((M.1 a0 2) ||| a1)) rfl rfl ⟨ka0, ⟨ka0, (hr_dk ka0 (by decide))⟩, trivial⟩ ?_
  cases h
  exact hr_Gret mf_X6_name lb_X6_name_10 rfl rfl trivial
theorem mf_X6_add : hr_mf 92 6 0 none 4 3 bk_X6_add := ⟨rfl, rfl, rfl, rfl, rfl, rfl⟩
theorem lb_X6_add_0 : bk_X6_add.lookup 0 = some [(.aload_n 0, 1), (.getfield 25, 3), (.aload_n 0, 1), (.getfield 15, 3), (.arraylength, 1), (.if_icmp .ge 43, 3)] := rfl
theorem lb_X6_add_12 : bk_X6_add.lookup 12 = some [(.aload_n 0, 1), (.getfield 15, 3), (.aload_n 0, 1), (.getfield 25, 3), (.iload_n 1, 1), (.iastore, 1), (.aload_n 0, 1), (.getfield 19, 3), (.aload_n 0, 1), (.getfield 25, 3), (.iload_n 2, 1), (.iastore, 1), (.aload_n 0, 1), (.getfield 22, 3), (.aload_n 0, 1), (.getfield 25, 3), (.iload_n 3, 1), (.iastore, 1), (.aload_n 0, 1), (.dup, 1), (.getfield 25, 3), (.iconst 1, 1), (.iadd, 1), (.putfield 25, 3)] := rfl
theorem lb_X6_add_52 : bk_X6_add.lookup 52 = some [(.return_, 1)] := rfl
def f_X6_add (a0 : Nat) (a1 : Int32) (a2 : Int32) (a3 : Int32) (M : PM) : Option (Unit × PM) :=
  if hr_K a0 = 5 then if (Int32.ofNat (hr_N (a0 + 1))) ≤ (M.1 a0 0) then
    some ((), M)
  else
    if inB (M.1 a0 0) 40 = true then if inB ((hr_si M (a0 + 1) (M.1 a0 0).toNatClampNeg a1).1 a0 0) 40 = true then if inB ((hr_si (hr_si M (a0 + 1) (M.1 a0 0).toNatClampNeg a1) (a0 + 2) ((hr_si M (a0 + 1) (M.1 a0 0).toNatClampNeg a1).1 a0 0).toNatClampNeg a2).1 a0 0) 40 = true then 
    some ((), hr_si (hr_si (hr_si (hr_si M (a0 + 1) (M.1 a0 0).toNatClampNeg a1) (a0 + 2) ((hr_si M (a0 + 1) (M.1 a0 0).toNatClampNeg a1).1 a0 0).toNatClampNeg a2) (a0 + 3) ((hr_si (hr_si M (a0 + 1) (M.1 a0 0).toNatClampNeg a1) (a0 + 2) ((hr_si M (a0 + 1) (M.1 a0 0).toNatClampNeg a1).1 a0 0).toNatClampNeg a2).1 a0 0).toNatClampNeg a3) a0 0 (((hr_si (hr_si (hr_si M (a0 + 1) (M.1 a0 0).toNatClampNeg a1) (a0 + 2) ((hr_si M (a0 + 1) (M.1 a0 0).toNatClampNeg a1).1 a0 0).toNatClampNeg a2) (a0 + 3) ((hr_si (hr_si M (a0 + 1) (M.1 a0 0).toNatClampNeg a1) (a0 + 2) ((hr_si M (a0 + 1) (M.1 a0 0).toNatClampNeg a1).1 a0 0).toNatClampNeg a2).1 a0 0).toNatClampNeg a3).1 a0 0) + 1)) else none else none else none else none
theorem g_X6_add (a0 : Nat) (a1 : Int32) (a2 : Int32) (a3 : Int32) : ∀ (M : PM) (r : Unit × PM), f_X6_add a0 a1 a2 a3 M = some r → hr_G 92 0 [some (.ref a0), some (.int a1), some (.int a2), some (.int a3)] [] M (none, r.2) := by
  intro M r h
  unfold f_X6_add at h
  refine hr_Fg h (fun ka0 h => ?_)
  refine hr_Grun mf_X6_add lb_X6_add_0 (P := hr_K a0 = 5 ∧ hr_K a0 = 5 ∧ (11 ≤ hr_K (a0 + 1) ∧ hr_K (a0 + 1) ≤ 18) ∧ True) (pc' := if (Int32.ofNat (hr_N (a0 + 1))) ≤ (M.1 a0 0) then 52 else 12) (ls' := [some (.ref a0), some (.int a1), some (.int a2), some (.int a3)]) (st' := []) (M' := M) rfl rfl ⟨ka0, ka0, (hr_11 (kf_5_3 ka0).1 (by decide)), trivial⟩ ?_
  refine hr_Gif h (fun _ h => ?_) (fun _ h => ?_)
  · cases h
    exact hr_Gret mf_X6_add lb_X6_add_52 rfl rfl trivial
  · refine hr_Fg h (fun hg2_0 h => ?_)
    refine hr_Fg h (fun hg2_1 h => ?_)
    refine hr_Fg h (fun hg2_2 h => ?_)
    refine hr_Grun mf_X6_add lb_X6_add_12 (P := hr_K a0 = 5 ∧ hr_K a0 = 5 ∧ ((hr_K (a0 + 1) = 12 ∧ (a0 + 1) < hr_n) ∧ vp_in (M.1 a0 0) (hr_N (a0 + 1))) ∧ hr_K a0 = 5 ∧ hr_K a0 = 5 ∧ ((hr_K (a0 + 2) = 12 ∧ (a0 + 2) < hr_n) ∧ vp_in ((hr_si M (a0 + 1) (M.1 a0 0).toNatClampNeg a1).1 a0 0) (hr_N (a0 + 2))) ∧ hr_K a0 = 5 ∧ hr_K a0 = 5 ∧ ((hr_K (a0 + 3) = 12 ∧ (a0 + 3) < hr_n) ∧ vp_in ((hr_si (hr_si M (a0 + 1) (M.1 a0 0).toNatClampNeg a1) (a0 + 2) ((hr_si M (a0 + 1) (M.1 a0 0).toNatClampNeg a1).1 a0 0).toNatClampNeg a2).1 a0 0) (hr_N (a0 + 3))) ∧ hr_K a0 = 5 ∧ (hr_K a0 = 5 ∧ a0 < hr_n) ∧ True) (pc' := 52) (ls' := [some (.ref a0), some (.int a1), some (.int a2), some (.int a3)]) (st' := []) (M' := hr_si (hr_si (hr_si (hr_si M (a0 + 1) (M.1 a0 0).toNatClampNeg a1) (a0 + 2) ((hr_si M (a0 + 1) (M.1 a0 0).toNatClampNeg a1).1 a0 0).toNatClampNeg a2) (a0 + 3) ((hr_si (hr_si M (a0 + 1) (M.1 a0 0).toNatClampNeg a1) (a0 + 2) ((hr_si M (a0 + 1) (M.1 a0 0).toNatClampNeg a1).1 a0 0).toNatClampNeg a2).1 a0 0).toNatClampNeg a3) a0 0 (((hr_si (hr_si (hr_si M (a0 + 1) (M.1 a0 0).toNatClampNeg a1) (a0 + 2) ((hr_si M (a0 + 1) (M.1 a0 0).toNatClampNeg a1).1 a0 0).toNatClampNeg a2) (a0 + 3) ((hr_si (hr_si M (a0 + 1) (M.1 a0 0).toNatClampNeg a1) (a0 + 2) ((hr_si M (a0 + 1) (M.1 a0 0).toNatClampNeg a1).1 a0 0).toNatClampNeg a2).1 a0 0).toNatClampNeg a3).1 a0 0) + 1)) rfl rfl ⟨ka0, ka0, ⟨⟨(kf_5_3 ka0).1, (kf_5_3 ka0).2.2⟩, (inB_N (kf_5_3 ka0).2.1 hg2_0)⟩, ka0, ka0, ⟨⟨(kf_5_4 ka0).1, (kf_5_4 ka0).2.2⟩, (inB_N (kf_5_4 ka0).2.1 hg2_1)⟩, ka0, ka0, ⟨⟨(kf_5_5 ka0).1, (kf_5_5 ka0).2.2⟩, (inB_N (kf_5_5 ka0).2.1 hg2_2)⟩, ka0, ⟨ka0, (hr_dk ka0 (by decide))⟩, trivial⟩ ?_
    cases h
    exact hr_Gret mf_X6_add lb_X6_add_52 rfl rfl trivial
theorem mf_X5_keepInRoll : hr_mf 80 5 1 none 2 1 bk_X5_keepInRoll := ⟨rfl, rfl, rfl, rfl, rfl, rfl⟩
theorem lb_X5_keepInRoll_0 : bk_X5_keepInRoll.lookup 0 = some [(.aload_n 1, 1), (.getfield 80, 3), (.lookupswitch 189 #[(10, 68), (11, 52), (30, 109), (31, 109), (40, 159)], 52)] := rfl
theorem lb_X5_keepInRoll_56 : bk_X5_keepInRoll.lookup 56 = some [(.aload_n 0, 1), (.getfield 21, 3), (.aload_n 0, 1), (.getfield 29, 3), (.iconst 0, 1), (.iaload, 1), (.putfield 159, 3), (.goto 147, 3)] := rfl
theorem lb_X5_keepInRoll_72 : bk_X5_keepInRoll.lookup 72 = some [(.aload_n 0, 1), (.getfield 21, 3), (.iconst 1, 1), (.aload_n 0, 1), (.getfield 29, 3), (.iconst 0, 1), (.iaload, 1), (.ishl, 1)] := rfl
theorem lb_X5_keepInRoll_84 : bk_X5_keepInRoll.lookup 84 = some [(.invokevirtual 162, 3)] := rfl
theorem lb_X5_keepInRoll_87 : bk_X5_keepInRoll.lookup 87 = some [(.aload_n 0, 1), (.getfield 21, 3), (.aload_n 1, 1)] := rfl
theorem lb_X5_keepInRoll_92 : bk_X5_keepInRoll.lookup 92 = some [(.invokevirtual 166, 3)] := rfl
theorem lb_X5_keepInRoll_95 : bk_X5_keepInRoll.lookup 95 = some [(.aload_n 0, 1), (.getfield 29, 3), (.iconst 0, 1), (.iaload, 1), (.aload_n 0, 1), (.getfield 29, 3), (.iconst 1, 1), (.iaload, 1)] := rfl
theorem lb_X5_keepInRoll_107 : bk_X5_keepInRoll.lookup 107 = some [(.invokevirtual 169, 3)] := rfl
theorem lb_X5_keepInRoll_110 : bk_X5_keepInRoll.lookup 110 = some [(.goto 106, 3)] := rfl
theorem lb_X5_keepInRoll_113 : bk_X5_keepInRoll.lookup 113 = some [(.aload_n 0, 1), (.getfield 21, 3), (.iconst 1, 1), (.aload_n 0, 1), (.getfield 29, 3), (.iconst 0, 1), (.iaload, 1), (.ishl, 1), (.iconst 1, 1), (.aload_n 0, 1), (.getfield 29, 3), (.iconst 1, 1), (.iaload, 1), (.ishl, 1), (.ior, 1)] := rfl
theorem lb_X5_keepInRoll_134 : bk_X5_keepInRoll.lookup 134 = some [(.invokevirtual 162, 3)] := rfl
theorem lb_X5_keepInRoll_137 : bk_X5_keepInRoll.lookup 137 = some [(.aload_n 0, 1), (.getfield 21, 3), (.aload_n 1, 1)] := rfl
theorem lb_X5_keepInRoll_142 : bk_X5_keepInRoll.lookup 142 = some [(.invokevirtual 166, 3)] := rfl
theorem lb_X5_keepInRoll_145 : bk_X5_keepInRoll.lookup 145 = some [(.aload_n 0, 1), (.getfield 29, 3), (.iconst 0, 1), (.iaload, 1), (.aload_n 0, 1), (.getfield 29, 3), (.iconst 1, 1), (.iaload, 1)] := rfl
theorem lb_X5_keepInRoll_157 : bk_X5_keepInRoll.lookup 157 = some [(.invokevirtual 169, 3)] := rfl
theorem lb_X5_keepInRoll_160 : bk_X5_keepInRoll.lookup 160 = some [(.goto 56, 3)] := rfl
theorem lb_X5_keepInRoll_163 : bk_X5_keepInRoll.lookup 163 = some [(.aload_n 0, 1), (.getfield 21, 3), (.aload_n 0, 1), (.getfield 99, 3)] := rfl
theorem lb_X5_keepInRoll_171 : bk_X5_keepInRoll.lookup 171 = some [(.invokevirtual 162, 3)] := rfl
theorem lb_X5_keepInRoll_174 : bk_X5_keepInRoll.lookup 174 = some [(.aload_n 0, 1), (.getfield 21, 3), (.aload_n 1, 1)] := rfl
theorem lb_X5_keepInRoll_179 : bk_X5_keepInRoll.lookup 179 = some [(.invokevirtual 166, 3)] := rfl
theorem lb_X5_keepInRoll_182 : bk_X5_keepInRoll.lookup 182 = some [(.aload_n 0, 1), (.getfield 99, 3), (.iconst (-1), 1)] := rfl
theorem lb_X5_keepInRoll_187 : bk_X5_keepInRoll.lookup 187 = some [(.invokevirtual 169, 3)] := rfl
theorem lb_X5_keepInRoll_190 : bk_X5_keepInRoll.lookup 190 = some [(.goto 26, 3)] := rfl
theorem lb_X5_keepInRoll_193 : bk_X5_keepInRoll.lookup 193 = some [(.aload_n 0, 1), (.getfield 21, 3), (.aload_n 1, 1)] := rfl
theorem lb_X5_keepInRoll_198 : bk_X5_keepInRoll.lookup 198 = some [(.invokevirtual 166, 3)] := rfl
theorem lb_X5_keepInRoll_201 : bk_X5_keepInRoll.lookup 201 = some [(.aload_n 0, 1), (.getfield 29, 3), (.iconst 0, 1), (.iaload, 1), (.aload_n 0, 1), (.getfield 29, 3), (.iconst 1, 1), (.iaload, 1)] := rfl
theorem lb_X5_keepInRoll_213 : bk_X5_keepInRoll.lookup 213 = some [(.invokevirtual 169, 3)] := rfl
theorem lb_X5_keepInRoll_216 : bk_X5_keepInRoll.lookup 216 = some [(.return_, 1)] := rfl
def f_X5_keepInRoll (a1 : Nat) (M : PM) : Option (Unit × PM) :=
  if hr_K a1 = 19 then if (M.1 a1 0) = 10 then
    if inB 0 3 = true then 
    hr_bd (f_X6_name 233 (jl 1 (M.1 238 (0 : Int32).toNatClampNeg)) M) (fun v3 M3 =>
    hr_bd (f_X3_code a1 M3) (fun v5 M5 =>
    if inB 0 3 = true then if inB 1 3 = true then 
    hr_bd (f_X6_add 233 v5 (M5.1 238 (0 : Int32).toNatClampNeg) (M5.1 238 (1 : Int32).toNatClampNeg) M5) (fun v7 M7 =>
    some ((), M7)) else none else none)) else none
  else if (M.1 a1 0) = 11 then
    if inB 0 3 = true then 
    some ((), hr_si M 233 1 (M.1 238 (0 : Int32).toNatClampNeg)) else none
  else if (M.1 a1 0) = 30 then
    if inB 0 3 = true then if inB 1 3 = true then 
    hr_bd (f_X6_name 233 ((jl 1 (M.1 238 (0 : Int32).toNatClampNeg)) ||| (jl 1 (M.1 238 (1 : Int32).toNatClampNeg))) M) (fun v11 M11 =>
    hr_bd (f_X3_code a1 M11) (fun v13 M13 =>
    if inB 0 3 = true then if inB 1 3 = true then 
    hr_bd (f_X6_add 233 v13 (M13.1 238 (0 : Int32).toNatClampNeg) (M13.1 238 (1 : Int32).toNatClampNeg) M13) (fun v15 M15 =>
    some ((), M15)) else none else none)) else none else none
  else if (M.1 a1 0) = 31 then
    if inB 0 3 = true then if inB 1 3 = true then 
    hr_bd (f_X6_name 233 ((jl 1 (M.1 238 (0 : Int32).toNatClampNeg)) ||| (jl 1 (M.1 238 (1 : Int32).toNatClampNeg))) M) (fun v18 M18 =>
    hr_bd (f_X3_code a1 M18) (fun v20 M20 =>
    if inB 0 3 = true then if inB 1 3 = true then 
    hr_bd (f_X6_add 233 v20 (M20.1 238 (0 : Int32).toNatClampNeg) (M20.1 238 (1 : Int32).toNatClampNeg) M20) (fun v22 M22 =>
    some ((), M22)) else none else none)) else none else none
  else if (M.1 a1 0) = 40 then
    hr_bd (f_X6_name 233 (M.1 223 12) M) (fun v25 M25 =>
    hr_bd (f_X3_code a1 M25) (fun v27 M27 =>
    hr_bd (f_X6_add 233 v27 (M27.1 223 12) (-1) M27) (fun v29 M29 =>
    some ((), M29))))
  else 
    hr_bd (f_X3_code a1 M) (fun v32 M32 =>
    if inB 0 3 = true then if inB 1 3 = true then 
    hr_bd (f_X6_add 233 v32 (M32.1 238 (0 : Int32).toNatClampNeg) (M32.1 238 (1 : Int32).toNatClampNeg) M32) (fun v34 M34 =>
    some ((), M34)) else none else none) else none
theorem g_X5_keepInRoll (a1 : Nat) : ∀ (M : PM) (r : Unit × PM), f_X5_keepInRoll a1 M = some r → hr_G 80 0 [some (.ref 223), some (.ref a1)] [] M (none, r.2) := by
  intro M r h
  unfold f_X5_keepInRoll at h
  refine hr_Fg h (fun ka1 h => ?_)
  refine hr_Grun mf_X5_keepInRoll lb_X5_keepInRoll_0 (P := hr_K a1 = 19 ∧ True) (pc' := if (M.1 a1 0) = 10 then 72 else if (M.1 a1 0) = 11 then 56 else if (M.1 a1 0) = 30 then 113 else if (M.1 a1 0) = 31 then 113 else if (M.1 a1 0) = 40 then 163 else 193) (ls' := [some (.ref 223), some (.ref a1)]) (st' := []) (M' := M) rfl rfl ⟨ka1, trivial⟩ ?_
  refine hr_Gif h (fun _ h => ?_) (fun _ h => ?_)
  · refine hr_Fg h (fun hg2_0 h => ?_)
    refine hr_Grun mf_X5_keepInRoll lb_X5_keepInRoll_72 (P := hr_K 223 = 4 ∧ hr_K 223 = 4 ∧ (hr_K 238 = 12 ∧ vp_in 0 (hr_N 238)) ∧ True) (pc' := 84) (ls' := [some (.ref 223), some (.ref a1)]) (st' := [.int (jl 1 (M.1 238 (0 : Int32).toNatClampNeg)), .ref 233]) (M' := M) rfl rfl ⟨K_223, K_223, ⟨K_238, (inB_N N_238 hg2_0)⟩, trivial⟩ ?_
    refine hr_Fb h (fun v3 M3 e3 h => ?_)
    refine hr_Gcv mf_X5_keepInRoll mf_X6_name lb_X5_keepInRoll_84 (b := 233) (as := [.int (jl 1 (M.1 238 (0 : Int32).toNatClampNeg))]) (rest := []) (st2 := []) (v := none) (M1 := M3) rfl rfl rfl rfl rfl rfl K_233 (g_X6_name 233 (jl 1 (M.1 238 (0 : Int32).toNatClampNeg)) _ _ e3) rfl rfl ?_
    refine hr_Grun mf_X5_keepInRoll lb_X5_keepInRoll_87 (P := hr_K 223 = 4 ∧ True) (pc' := 92) (ls' := [some (.ref 223), some (.ref a1)]) (st' := [.ref a1, .ref 233]) (M' := M3) rfl rfl ⟨K_223, trivial⟩ ?_
    refine hr_Fb h (fun v5 M5 e5 h => ?_)
    refine hr_Gcv mf_X5_keepInRoll mf_X3_code lb_X5_keepInRoll_92 (b := a1) (as := []) (rest := [.ref 233]) (st2 := [.int v5, .ref 233]) (v := some (.int v5)) (M1 := M5) rfl rfl rfl rfl rfl rfl ka1 (g_X3_code a1 _ _ e5) rfl rfl ?_
    refine hr_Fg h (fun hg6_0 h => ?_)
    refine hr_Fg h (fun hg6_1 h => ?_)
    refine hr_Grun mf_X5_keepInRoll lb_X5_keepInRoll_95 (P := hr_K 223 = 4 ∧ (hr_K 238 = 12 ∧ vp_in 0 (hr_N 238)) ∧ hr_K 223 = 4 ∧ (hr_K 238 = 12 ∧ vp_in 1 (hr_N 238)) ∧ True) (pc' := 107) (ls' := [some (.ref 223), some (.ref a1)]) (st' := [.int (M5.1 238 (1 : Int32).toNatClampNeg), .int (M5.1 238 (0 : Int32).toNatClampNeg), .int v5, .ref 233]) (M' := M5) rfl rfl ⟨K_223, ⟨K_238, (inB_N N_238 hg6_0)⟩, K_223, ⟨K_238, (inB_N N_238 hg6_1)⟩, trivial⟩ ?_
    refine hr_Fb h (fun v7 M7 e7 h => ?_)
    refine hr_Gcv mf_X5_keepInRoll mf_X6_add lb_X5_keepInRoll_107 (b := 233) (as := [.int v5, .int (M5.1 238 (0 : Int32).toNatClampNeg), .int (M5.1 238 (1 : Int32).toNatClampNeg)]) (rest := []) (st2 := []) (v := none) (M1 := M7) rfl rfl rfl rfl rfl rfl K_233 (g_X6_add 233 v5 (M5.1 238 (0 : Int32).toNatClampNeg) (M5.1 238 (1 : Int32).toNatClampNeg) _ _ e7) rfl rfl ?_
    refine hr_Grun mf_X5_keepInRoll lb_X5_keepInRoll_110 (P := True) (pc' := 216) (ls' := [some (.ref 223), some (.ref a1)]) (st' := []) (M' := M7) rfl rfl trivial ?_
    cases h
    exact hr_Gret mf_X5_keepInRoll lb_X5_keepInRoll_216 rfl rfl trivial
  refine hr_Gif h (fun _ h => ?_) (fun _ h => ?_)
  · refine hr_Fg h (fun hg9_0 h => ?_)
    refine hr_Grun mf_X5_keepInRoll lb_X5_keepInRoll_56 (P := hr_K 223 = 4 ∧ hr_K 223 = 4 ∧ (hr_K 238 = 12 ∧ vp_in 0 (hr_N 238)) ∧ (hr_K 233 = 5 ∧ 233 < hr_n) ∧ True) (pc' := 216) (ls' := [some (.ref 223), some (.ref a1)]) (st' := []) (M' := hr_si M 233 1 (M.1 238 (0 : Int32).toNatClampNeg)) rfl rfl ⟨K_223, K_223, ⟨K_238, (inB_N N_238 hg9_0)⟩, ⟨K_233, L_233⟩, trivial⟩ ?_
    cases h
    exact hr_Gret mf_X5_keepInRoll lb_X5_keepInRoll_216 rfl rfl trivial
  refine hr_Gif h (fun _ h => ?_) (fun _ h => ?_)
  · refine hr_Fg h (fun hg10_0 h => ?_)
    refine hr_Fg h (fun hg10_1 h => ?_)
    refine hr_Grun mf_X5_keepInRoll lb_X5_keepInRoll_113 (P := hr_K 223 = 4 ∧ hr_K 223 = 4 ∧ (hr_K 238 = 12 ∧ vp_in 0 (hr_N 238)) ∧ hr_K 223 = 4 ∧ (hr_K 238 = 12 ∧ vp_in 1 (hr_N 238)) ∧ True) (pc' := 134) (ls' := [some (.ref 223), some (.ref a1)]) (st' := [.int ((jl 1 (M.1 238 (0 : Int32).toNatClampNeg)) ||| (jl 1 (M.1 238 (1 : Int32).toNatClampNeg))), .ref 233]) (M' := M) rfl rfl ⟨K_223, K_223, ⟨K_238, (inB_N N_238 hg10_0)⟩, K_223, ⟨K_238, (inB_N N_238 hg10_1)⟩, trivial⟩ ?_
    refine hr_Fb h (fun v11 M11 e11 h => ?_)
    refine hr_Gcv mf_X5_keepInRoll mf_X6_name lb_X5_keepInRoll_134 (b := 233) (as := [.int ((jl 1 (M.1 238 (0 : Int32).toNatClampNeg)) ||| (jl 1 (M.1 238 (1 : Int32).toNatClampNeg)))]) (rest := []) (st2 := []) (v := none) (M1 := M11) rfl rfl rfl rfl rfl rfl K_233 (g_X6_name 233 ((jl 1 (M.1 238 (0 : Int32).toNatClampNeg)) ||| (jl 1 (M.1 238 (1 : Int32).toNatClampNeg))) _ _ e11) rfl rfl ?_
    refine hr_Grun mf_X5_keepInRoll lb_X5_keepInRoll_137 (P := hr_K 223 = 4 ∧ True) (pc' := 142) (ls' := [some (.ref 223), some (.ref a1)]) (st' := [.ref a1, .ref 233]) (M' := M11) rfl rfl ⟨K_223, trivial⟩ ?_
    refine hr_Fb h (fun v13 M13 e13 h => ?_)
    refine hr_Gcv mf_X5_keepInRoll mf_X3_code lb_X5_keepInRoll_142 (b := a1) (as := []) (rest := [.ref 233]) (st2 := [.int v13, .ref 233]) (v := some (.int v13)) (M1 := M13) rfl rfl rfl rfl rfl rfl ka1 (g_X3_code a1 _ _ e13) rfl rfl ?_
    refine hr_Fg h (fun hg14_0 h => ?_)
    refine hr_Fg h (fun hg14_1 h => ?_)
    refine hr_Grun mf_X5_keepInRoll lb_X5_keepInRoll_145 (P := hr_K 223 = 4 ∧ (hr_K 238 = 12 ∧ vp_in 0 (hr_N 238)) ∧ hr_K 223 = 4 ∧ (hr_K 238 = 12 ∧ vp_in 1 (hr_N 238)) ∧ True) (pc' := 157) (ls' := [some (.ref 223), some (.ref a1)]) (st' := [.int (M13.1 238 (1 : Int32).toNatClampNeg), .int (M13.1 238 (0 : Int32).toNatClampNeg), .int v13, .ref 233]) (M' := M13) rfl rfl ⟨K_223, ⟨K_238, (inB_N N_238 hg14_0)⟩, K_223, ⟨K_238, (inB_N N_238 hg14_1)⟩, trivial⟩ ?_
    refine hr_Fb h (fun v15 M15 e15 h => ?_)
    refine hr_Gcv mf_X5_keepInRoll mf_X6_add lb_X5_keepInRoll_157 (b := 233) (as := [.int v13, .int (M13.1 238 (0 : Int32).toNatClampNeg), .int (M13.1 238 (1 : Int32).toNatClampNeg)]) (rest := []) (st2 := []) (v := none) (M1 := M15) rfl rfl rfl rfl rfl rfl K_233 (g_X6_add 233 v13 (M13.1 238 (0 : Int32).toNatClampNeg) (M13.1 238 (1 : Int32).toNatClampNeg) _ _ e15) rfl rfl ?_
    refine hr_Grun mf_X5_keepInRoll lb_X5_keepInRoll_160 (P := True) (pc' := 216) (ls' := [some (.ref 223), some (.ref a1)]) (st' := []) (M' := M15) rfl rfl trivial ?_
    cases h
    exact hr_Gret mf_X5_keepInRoll lb_X5_keepInRoll_216 rfl rfl trivial
  refine hr_Gif h (fun _ h => ?_) (fun _ h => ?_)
  · refine hr_Fg h (fun hg17_0 h => ?_)
    refine hr_Fg h (fun hg17_1 h => ?_)
    refine hr_Grun mf_X5_keepInRoll lb_X5_keepInRoll_113 (P := hr_K 223 = 4 ∧ hr_K 223 = 4 ∧ (hr_K 238 = 12 ∧ vp_in 0 (hr_N 238)) ∧ hr_K 223 = 4 ∧ (hr_K 238 = 12 ∧ vp_in 1 (hr_N 238)) ∧ True) (pc' := 134) (ls' := [some (.ref 223), some (.ref a1)]) (st' := [.int ((jl 1 (M.1 238 (0 : Int32).toNatClampNeg)) ||| (jl 1 (M.1 238 (1 : Int32).toNatClampNeg))), .ref 233]) (M' := M) rfl rfl ⟨K_223, K_223, ⟨K_238, (inB_N N_238 hg17_0)⟩, K_223, ⟨K_238, (inB_N N_238 hg17_1)⟩, trivial⟩ ?_
    refine hr_Fb h (fun v18 M18 e18 h => ?_)
    refine hr_Gcv mf_X5_keepInRoll mf_X6_name lb_X5_keepInRoll_134 (b := 233) (as := [.int ((jl 1 (M.1 238 (0 : Int32).toNatClampNeg)) ||| (jl 1 (M.1 238 (1 : Int32).toNatClampNeg)))]) (rest := []) (st2 := []) (v := none) (M1 := M18) rfl rfl rfl rfl rfl rfl K_233 (g_X6_name 233 ((jl 1 (M.1 238 (0 : Int32).toNatClampNeg)) ||| (jl 1 (M.1 238 (1 : Int32).toNatClampNeg))) _ _ e18) rfl rfl ?_
    refine hr_Grun mf_X5_keepInRoll lb_X5_keepInRoll_137 (P := hr_K 223 = 4 ∧ True) (pc' := 142) (ls' := [some (.ref 223), some (.ref a1)]) (st' := [.ref a1, .ref 233]) (M' := M18) rfl rfl ⟨K_223, trivial⟩ ?_
    refine hr_Fb h (fun v20 M20 e20 h => ?_)
    refine hr_Gcv mf_X5_keepInRoll mf_X3_code lb_X5_keepInRoll_142 (b := a1) (as := []) (rest := [.ref 233]) (st2 := [.int v20, .ref 233]) (v := some (.int v20)) (M1 := M20) rfl rfl rfl rfl rfl rfl ka1 (g_X3_code a1 _ _ e20) rfl rfl ?_
    refine hr_Fg h (fun hg21_0 h => ?_)
    refine hr_Fg h (fun hg21_1 h => ?_)
    refine hr_Grun mf_X5_keepInRoll lb_X5_keepInRoll_145 (P := hr_K 223 = 4 ∧ (hr_K 238 = 12 ∧ vp_in 0 (hr_N 238)) ∧ hr_K 223 = 4 ∧ (hr_K 238 = 12 ∧ vp_in 1 (hr_N 238)) ∧ True) (pc' := 157) (ls' := [some (.ref 223), some (.ref a1)]) (st' := [.int (M20.1 238 (1 : Int32).toNatClampNeg), .int (M20.1 238 (0 : Int32).toNatClampNeg), .int v20, .ref 233]) (M' := M20) rfl rfl ⟨K_223, ⟨K_238, (inB_N N_238 hg21_0)⟩, K_223, ⟨K_238, (inB_N N_238 hg21_1)⟩, trivial⟩ ?_
    refine hr_Fb h (fun v22 M22 e22 h => ?_)
    refine hr_Gcv mf_X5_keepInRoll mf_X6_add lb_X5_keepInRoll_157 (b := 233) (as := [.int v20, .int (M20.1 238 (0 : Int32).toNatClampNeg), .int (M20.1 238 (1 : Int32).toNatClampNeg)]) (rest := []) (st2 := []) (v := none) (M1 := M22) rfl rfl rfl rfl rfl rfl K_233 (g_X6_add 233 v20 (M20.1 238 (0 : Int32).toNatClampNeg) (M20.1 238 (1 : Int32).toNatClampNeg) _ _ e22) rfl rfl ?_
    refine hr_Grun mf_X5_keepInRoll lb_X5_keepInRoll_160 (P := True) (pc' := 216) (ls' := [some (.ref 223), some (.ref a1)]) (st' := []) (M' := M22) rfl rfl trivial ?_
    cases h
    exact hr_Gret mf_X5_keepInRoll lb_X5_keepInRoll_216 rfl rfl trivial
  refine hr_Gif h (fun _ h => ?_) (fun _ h => ?_)
  · refine hr_Grun mf_X5_keepInRoll lb_X5_keepInRoll_163 (P := hr_K 223 = 4 ∧ hr_K 223 = 4 ∧ True) (pc' := 171) (ls' := [some (.ref 223), some (.ref a1)]) (st' := [.int (M.1 223 12), .ref 233]) (M' := M) rfl rfl ⟨K_223, K_223, trivial⟩ ?_
    refine hr_Fb h (fun v25 M25 e25 h => ?_)
    refine hr_Gcv mf_X5_keepInRoll mf_X6_name lb_X5_keepInRoll_171 (b := 233) (as := [.int (M.1 223 12)]) (rest := []) (st2 := []) (v := none) (M1 := M25) rfl rfl rfl rfl rfl rfl K_233 (g_X6_name 233 (M.1 223 12) _ _ e25) rfl rfl ?_
    refine hr_Grun mf_X5_keepInRoll lb_X5_keepInRoll_174 (P := hr_K 223 = 4 ∧ True) (pc' := 179) (ls' := [some (.ref 223), some (.ref a1)]) (st' := [.ref a1, .ref 233]) (M' := M25) rfl rfl ⟨K_223, trivial⟩ ?_
    refine hr_Fb h (fun v27 M27 e27 h => ?_)
    refine hr_Gcv mf_X5_keepInRoll mf_X3_code lb_X5_keepInRoll_179 (b := a1) (as := []) (rest := [.ref 233]) (st2 := [.int v27, .ref 233]) (v := some (.int v27)) (M1 := M27) rfl rfl rfl rfl rfl rfl ka1 (g_X3_code a1 _ _ e27) rfl rfl ?_
    refine hr_Grun mf_X5_keepInRoll lb_X5_keepInRoll_182 (P := hr_K 223 = 4 ∧ True) (pc' := 187) (ls' := [some (.ref 223), some (.ref a1)]) (st' := [.int (-1), .int (M27.1 223 12), .int v27, .ref 233]) (M' := M27) rfl rfl ⟨K_223, trivial⟩ ?_
    refine hr_Fb h (fun v29 M29 e29 h => ?_)
    refine hr_Gcv mf_X5_keepInRoll mf_X6_add lb_X5_keepInRoll_187 (b := 233) (as := [.int v27, .int (M27.1 223 12), .int (-1)]) (rest := []) (st2 := []) (v := none) (M1 := M29) rfl rfl rfl rfl rfl rfl K_233 (g_X6_add 233 v27 (M27.1 223 12) (-1) _ _ e29) rfl rfl ?_
    refine hr_Grun mf_X5_keepInRoll lb_X5_keepInRoll_190 (P := True) (pc' := 216) (ls' := [some (.ref 223), some (.ref a1)]) (st' := []) (M' := M29) rfl rfl trivial ?_
    cases h
    exact hr_Gret mf_X5_keepInRoll lb_X5_keepInRoll_216 rfl rfl trivial
  · refine hr_Grun mf_X5_keepInRoll lb_X5_keepInRoll_193 (P := hr_K 223 = 4 ∧ True) (pc' := 198) (ls' := [some (.ref 223), some (.ref a1)]) (st' := [.ref a1, .ref 233]) (M' := M) rfl rfl ⟨K_223, trivial⟩ ?_
    refine hr_Fb h (fun v32 M32 e32 h => ?_)
    refine hr_Gcv mf_X5_keepInRoll mf_X3_code lb_X5_keepInRoll_198 (b := a1) (as := []) (rest := [.ref 233]) (st2 := [.int v32, .ref 233]) (v := some (.int v32)) (M1 := M32) rfl rfl rfl rfl rfl rfl ka1 (g_X3_code a1 _ _ e32) rfl rfl ?_
    refine hr_Fg h (fun hg33_0 h => ?_)
    refine hr_Fg h (fun hg33_1 h => ?_)
    refine hr_Grun mf_X5_keepInRoll lb_X5_keepInRoll_201 (P := hr_K 223 = 4 ∧ (hr_K 238 = 12 ∧ vp_in 0 (hr_N 238)) ∧ hr_K 223 = 4 ∧ (hr_K 238 = 12 ∧ vp_in 1 (hr_N 238)) ∧ True) (pc' := 213) (ls' := [some (.ref 223), some (.ref a1)]) (st' := [.int (M32.1 238 (1 : Int32).toNatClampNeg), .int (M32.1 238 (0 : Int32).toNatClampNeg), .int v32, .ref 233]) (M' := M32) rfl rfl ⟨K_223, ⟨K_238, (inB_N N_238 hg33_0)⟩, K_223, ⟨K_238, (inB_N N_238 hg33_1)⟩, trivial⟩ ?_
    refine hr_Fb h (fun v34 M34 e34 h => ?_)
    refine hr_Gcv mf_X5_keepInRoll mf_X6_add lb_X5_keepInRoll_213 (b := 233) (as := [.int v32, .int (M32.1 238 (0 : Int32).toNatClampNeg), .int (M32.1 238 (1 : Int32).toNatClampNeg)]) (rest := []) (st2 := []) (v := none) (M1 := M34) rfl rfl rfl rfl rfl rfl K_233 (g_X6_add 233 v32 (M32.1 238 (0 : Int32).toNatClampNeg) (M32.1 238 (1 : Int32).toNatClampNeg) _ _ e34) rfl rfl ?_
    cases h
    exact hr_Gret mf_X5_keepInRoll lb_X5_keepInRoll_216 rfl rfl trivial
theorem mf_X5_take : hr_mf 76 5 2 none 4 2 bk_X5_take := ⟨rfl, rfl, rfl, rfl, rfl, rfl⟩
theorem lb_X5_take_0 : bk_X5_take.lookup 0 = some [(.aload_n 0, 1), (.aload_n 1, 1)] := rfl
theorem lb_X5_take_2 : bk_X5_take.lookup 2 = some [(.invokevirtual 109, 3)] := rfl
theorem lb_X5_take_5 : bk_X5_take.lookup 5 = some [(.ifCond .eq 10, 3)] := rfl
theorem lb_X5_take_8 : bk_X5_take.lookup 8 = some [(.aload_n 0, 1), (.iconst 3, 1), (.iload_n 2, 1)] := rfl
theorem lb_X5_take_11 : bk_X5_take.lookup 11 = some [(.invokevirtual 72, 3)] := rfl
theorem lb_X5_take_14 : bk_X5_take.lookup 14 = some [(.return_, 1)] := rfl
theorem lb_X5_take_15 : bk_X5_take.lookup 15 = some [(.aload_n 0, 1), (.aload_n 1, 1)] := rfl
theorem lb_X5_take_17 : bk_X5_take.lookup 17 = some [(.invokevirtual 113, 3)] := rfl
theorem lb_X5_take_20 : bk_X5_take.lookup 20 = some [(.istore_n 3, 1), (.iload_n 3, 1), (.iconst (-1), 1), (.if_icmp .eq 10, 3)] := rfl
theorem lb_X5_take_26 : bk_X5_take.lookup 26 = some [(.aload_n 0, 1), (.iconst 2, 1), (.iload_n 3, 1)] := rfl
theorem lb_X5_take_29 : bk_X5_take.lookup 29 = some [(.invokevirtual 72, 3)] := rfl
theorem lb_X5_take_32 : bk_X5_take.lookup 32 = some [(.return_, 1)] := rfl
theorem lb_X5_take_33 : bk_X5_take.lookup 33 = some [(.aload_n 1, 1)] := rfl
theorem lb_X5_take_34 : bk_X5_take.lookup 34 = some [(.invokevirtual 117, 3)] := rfl
theorem lb_X5_take_37 : bk_X5_take.lookup 37 = some [(.ifCond .ne 11, 3)] := rfl
theorem lb_X5_take_40 : bk_X5_take.lookup 40 = some [(.aload_n 0, 1), (.aload_n 1, 1)] := rfl
theorem lb_X5_take_42 : bk_X5_take.lookup 42 = some [(.invokevirtual 121, 3)] := rfl
theorem lb_X5_take_45 : bk_X5_take.lookup 45 = some [(.goto 8, 3)] := rfl
theorem lb_X5_take_48 : bk_X5_take.lookup 48 = some [(.aload_n 0, 1), (.aload_n 1, 1)] := rfl
theorem lb_X5_take_50 : bk_X5_take.lookup 50 = some [(.invokevirtual 125, 3)] := rfl
theorem lb_X5_take_53 : bk_X5_take.lookup 53 = some [(.return_, 1)] := rfl
def f_X5_take (a1 : Nat) (a2 : Int32) (M : PM) : Option (Unit × PM) :=
  if hr_K a1 = 19 then hr_bd (f_X5_isFull a1 M) (fun v2 M2 =>
  if v2 = 0 then
    hr_bd (f_X5_badPlace a1 M2) (fun v5 M5 =>
    if v5 = (-1) then
      hr_bd (f_X3_sort a1 M5) (fun v8 M8 =>
      if v8 = 0 then
        hr_bd (f_X5_keepInPalette a1 M8) (fun v11 M11 =>
        some ((), M11))
      else
        hr_bd (f_X5_keepInRoll a1 M8) (fun v14 M14 =>
        some ((), M14)))
    else
      hr_bd (f_X5_note 2 v5 M5) (fun v16 M16 =>
      some ((), M16)))
  else
    hr_bd (f_X5_note 3 a2 M2) (fun v18 M18 =>
    some ((), M18))) else none
theorem g_X5_take (a1 : Nat) (a2 : Int32) : ∀ (M : PM) (r : Unit × PM), f_X5_take a1 a2 M = some r → hr_G 76 0 [some (.ref 223), some (.ref a1), some (.int a2), none] [] M (none, r.2) := by
  intro M r h
  unfold f_X5_take at h
  refine hr_Fg h (fun ka1 h => ?_)
  refine hr_Grun mf_X5_take lb_X5_take_0 (P := True) (pc' := 2) (ls' := [some (.ref 223), some (.ref a1), some (.int a2), none]) (st' := [.ref a1, .ref 223]) (M' := M) rfl rfl trivial ?_
  refine hr_Fb h (fun v2 M2 e2 h => ?_)
  refine hr_Gcv mf_X5_take mf_X5_isFull lb_X5_take_2 (b := 223) (as := [.ref a1]) (rest := []) (st2 := [.int v2]) (v := some (.int v2)) (M1 := M2) rfl rfl rfl rfl rfl rfl K_223 (g_X5_isFull a1 _ _ e2) rfl rfl ?_
  refine hr_Grun mf_X5_take lb_X5_take_5 (P := True) (pc' := if v2 = 0 then 15 else 8) (ls' := [some (.ref 223), some (.ref a1), some (.int a2), none]) (st' := []) (M' := M2) rfl rfl trivial ?_
  refine hr_Gif h (fun _ h => ?_) (fun _ h => ?_)
  · refine hr_Grun mf_X5_take lb_X5_take_15 (P := True) (pc' := 17) (ls' := [some (.ref 223), some (.ref a1), some (.int a2), none]) (st' := [.ref a1, .ref 223]) (M' := M2) rfl rfl trivial ?_
    refine hr_Fb h (fun v5 M5 e5 h => ?_)
    refine hr_Gcv mf_X5_take mf_X5_badPlace lb_X5_take_17 (b := 223) (as := [.ref a1]) (rest := []) (st2 := [.int v5]) (v := some (.int v5)) (M1 := M5) rfl rfl rfl rfl rfl rfl K_223 (g_X5_badPlace a1 _ _ e5) rfl rfl ?_
    refine hr_Grun mf_X5_take lb_X5_take_20 (P := True) (pc' := if v5 = (-1) then 33 else 26) (ls' := [some (.ref 223), some (.ref a1), some (.int a2), some (.int v5)]) (st' := []) (M' := M5) rfl rfl trivial ?_
    refine hr_Gif h (fun _ h => ?_) (fun _ h => ?_)
    · refine hr_Grun mf_X5_take lb_X5_take_33 (P := True) (pc' := 34) (ls' := [some (.ref 223), some (.ref a1), some (.int a2), some (.int v5)]) (st' := [.ref a1]) (M' := M5) rfl rfl trivial ?_
      refine hr_Fb h (fun v8 M8 e8 h => ?_)
      refine hr_Gcv mf_X5_take mf_X3_sort lb_X5_take_34 (b := a1) (as := []) (rest := []) (st2 := [.int v8]) (v := some (.int v8)) (M1 := M8) rfl rfl rfl rfl rfl rfl ka1 (g_X3_sort a1 _ _ e8) rfl rfl ?_
      refine hr_Grun mf_X5_take lb_X5_take_37 (P := True) (pc' := if v8 = 0 then 40 else 48) (ls' := [some (.ref 223), some (.ref a1), some (.int a2), some (.int v5)]) (st' := []) (M' := M8) rfl rfl trivial ?_
      refine hr_Gif h (fun _ h => ?_) (fun _ h => ?_)
      · refine hr_Grun mf_X5_take lb_X5_take_40 (P := True) (pc' := 42) (ls' := [some (.ref 223), some (.ref a1), some (.int a2), some (.int v5)]) (st' := [.ref a1, .ref 223]) (M' := M8) rfl rfl trivial ?_
        refine hr_Fb h (fun v11 M11 e11 h => ?_)
        refine hr_Gcv mf_X5_take mf_X5_keepInPalette lb_X5_take_42 (b := 223) (as := [.ref a1]) (rest := []) (st2 := []) (v := none) (M1 := M11) rfl rfl rfl rfl rfl rfl K_223 (g_X5_keepInPalette a1 _ _ e11) rfl rfl ?_
        refine hr_Grun mf_X5_take lb_X5_take_45 (P := True) (pc' := 53) (ls' := [some (.ref 223), some (.ref a1), some (.int a2), some (.int v5)]) (st' := []) (M' := M11) rfl rfl trivial ?_
        cases h
        exact hr_Gret mf_X5_take lb_X5_take_53 rfl rfl trivial
      · refine hr_Grun mf_X5_take lb_X5_take_48 (P := True) (pc' := 50) (ls' := [some (.ref 223), some (.ref a1), some (.int a2), some (.int v5)]) (st' := [.ref a1, .ref 223]) (M' := M8) rfl rfl trivial ?_
        refine hr_Fb h (fun v14 M14 e14 h => ?_)
        refine hr_Gcv mf_X5_take mf_X5_keepInRoll lb_X5_take_50 (b := 223) (as := [.ref a1]) (rest := []) (st2 := []) (v := none) (M1 := M14) rfl rfl rfl rfl rfl rfl K_223 (g_X5_keepInRoll a1 _ _ e14) rfl rfl ?_
        cases h
        exact hr_Gret mf_X5_take lb_X5_take_53 rfl rfl trivial
    · refine hr_Grun mf_X5_take lb_X5_take_26 (P := True) (pc' := 29) (ls' := [some (.ref 223), some (.ref a1), some (.int a2), some (.int v5)]) (st' := [.int v5, .int 2, .ref 223]) (M' := M5) rfl rfl trivial ?_
      refine hr_Fb h (fun v16 M16 e16 h => ?_)
      refine hr_Gcv mf_X5_take mf_X5_note lb_X5_take_29 (b := 223) (as := [.int 2, .int v5]) (rest := []) (st2 := []) (v := none) (M1 := M16) rfl rfl rfl rfl rfl rfl K_223 (g_X5_note 2 v5 _ _ e16) rfl rfl ?_
      cases h
      exact hr_Gret mf_X5_take lb_X5_take_32 rfl rfl trivial
  · refine hr_Grun mf_X5_take lb_X5_take_8 (P := True) (pc' := 11) (ls' := [some (.ref 223), some (.ref a1), some (.int a2), none]) (st' := [.int a2, .int 3, .ref 223]) (M' := M2) rfl rfl trivial ?_
    refine hr_Fb h (fun v18 M18 e18 h => ?_)
    refine hr_Gcv mf_X5_take mf_X5_note lb_X5_take_11 (b := 223) (as := [.int 3, .int a2]) (rest := []) (st2 := []) (v := none) (M1 := M18) rfl rfl rfl rfl rfl rfl K_223 (g_X5_note 3 a2 _ _ e18) rfl rfl ?_
    cases h
    exact hr_Gret mf_X5_take lb_X5_take_14 rfl rfl trivial
theorem mf_X5_readNumbers : hr_mf 74 5 3 (some .boolean) 3 1 bk_X5_readNumbers := ⟨rfl, rfl, rfl, rfl, rfl, rfl⟩
theorem lb_X5_readNumbers_0 : bk_X5_readNumbers.lookup 0 = some [(.iconst 0, 1), (.istore_n 2, 1)] := rfl
theorem lb_X5_readNumbers_2 : bk_X5_readNumbers.lookup 2 = some [(.iload_n 2, 1), (.iconst 3, 1), (.if_icmp .ge 23, 3)] := rfl
theorem lb_X5_readNumbers_7 : bk_X5_readNumbers.lookup 7 = some [(.aload_n 0, 1), (.getfield 29, 3), (.iload_n 2, 1), (.iconst (-1), 1), (.iastore, 1), (.aload_n 0, 1), (.getfield 33, 3), (.iload_n 2, 1), (.iconst (-1), 1), (.iastore, 1), (.iinc 2 1, 3), (.goto (-22), 3)] := rfl
theorem lb_X5_readNumbers_27 : bk_X5_readNumbers.lookup 27 = some [(.iconst 0, 1), (.istore_n 2, 1)] := rfl
theorem lb_X5_readNumbers_29 : bk_X5_readNumbers.lookup 29 = some [(.iload_n 2, 1), (.iload_n 1, 1), (.if_icmp .ge 48, 3)] := rfl
theorem lb_X5_readNumbers_34 : bk_X5_readNumbers.lookup 34 = some [(.iload_n 2, 1), (.iconst 3, 1), (.if_icmp .ge 43, 3)] := rfl
theorem lb_X5_readNumbers_39 : bk_X5_readNumbers.lookup 39 = some [(.aload_n 0, 1), (.getfield 59, 3), (.iconst 2, 1), (.if_icmp .eq 5, 3)] := rfl
theorem lb_X5_readNumbers_47 : bk_X5_readNumbers.lookup 47 = some [(.iconst 0, 1)] := rfl
theorem lb_X5_readNumbers_48 : bk_X5_readNumbers.lookup 48 = some [(.ireturn, 1)] := rfl
theorem lb_X5_readNumbers_49 : bk_X5_readNumbers.lookup 49 = some [(.aload_n 0, 1), (.getfield 29, 3), (.iload_n 2, 1), (.aload_n 0, 1), (.getfield 96, 3), (.iastore, 1), (.aload_n 0, 1), (.getfield 33, 3), (.iload_n 2, 1), (.aload_n 0, 1), (.getfield 66, 3), (.iastore, 1), (.aload_n 0, 1)] := rfl
theorem lb_X5_readNumbers_70 : bk_X5_readNumbers.lookup 70 = some [(.invokevirtual 56, 3)] := rfl
theorem lb_X5_readNumbers_73 : bk_X5_readNumbers.lookup 73 = some [(.iinc 2 1, 3), (.goto (-47), 3)] := rfl
theorem lb_X5_readNumbers_79 : bk_X5_readNumbers.lookup 79 = some [(.iconst 1, 1)] := rfl
theorem lb_X5_readNumbers_80 : bk_X5_readNumbers.lookup 80 = some [(.ireturn, 1)] := rfl
def f_X5_readNumbers_29 (a1 : Int32) : Nat → Int32 → PM → Option (Int32 × PM)
  | 0, _, _ => none
  | f + 1, x2, M =>
    if a1 ≤ x2 then
      some (1, M)
    else
      if 3 ≤ x2 then
        some (1, M)
      else
        if (M.1 223 7) = 2 then
          if inB x2 3 = true then if inB x2 3 = true then 
          hr_bd (f_X5_advance (hr_si (hr_si M 238 x2.toNatClampNeg (M.1 223 9)) 239 x2.toNatClampNeg ((hr_si M 238 x2.toNatClampNeg (M.1 223 9)).1 223 8))) (fun v7 M7 =>
          f_X5_readNumbers_29 a1 f (x2 + 1) M7) else none else none
        else
          some (0, M)
theorem g_X5_readNumbers_29 (a1 : Int32)  : ∀ (f : Nat) (x2 : Int32) (M : PM) (r : Int32 × PM), f_X5_readNumbers_29 a1 f x2 M = some r → hr_G 74 29 [some (.ref 223), some (.int a1), some (.int x2)] [] M (some (.int r.1), r.2) := by
  intro f
  induction f with
  | zero => intro x2 M r h; cases h
  | succ f ih =>
    intro x2 M r h
    rw [f_X5_readNumbers_29.eq_2] at h
    refine hr_Grun mf_X5_readNumbers lb_X5_readNumbers_29 (P := True) (pc' := if a1 ≤ x2 then 79 else 34) (ls' := [some (.ref 223), some (.int a1), some (.int x2)]) (st' := []) (M' := M) rfl rfl trivial ?_
    refine hr_Gif h (fun _ h => ?_) (fun _ h => ?_)
    · refine hr_Grun mf_X5_readNumbers lb_X5_readNumbers_79 (P := True) (pc' := 80) (ls' := [some (.ref 223), some (.int a1), some (.int x2)]) (st' := [.int 1]) (M' := M) rfl rfl trivial ?_
      cases h
      exact hr_Gret mf_X5_readNumbers lb_X5_readNumbers_80 rfl rfl (Or.inr rfl)
    · refine hr_Grun mf_X5_readNumbers lb_X5_readNumbers_34 (P := True) (pc' := if 3 ≤ x2 then 79 else 39) (ls' := [some (.ref 223), some (.int a1), some (.int x2)]) (st' := []) (M' := M) rfl rfl trivial ?_
      refine hr_Gif h (fun _ h => ?_) (fun _ h => ?_)
      · refine hr_Grun mf_X5_readNumbers lb_X5_readNumbers_79 (P := True) (pc' := 80) (ls' := [some (.ref 223), some (.int a1), some (.int x2)]) (st' := [.int 1]) (M' := M) rfl rfl trivial ?_
        cases h
        exact hr_Gret mf_X5_readNumbers lb_X5_readNumbers_80 rfl rfl (Or.inr rfl)
      · refine hr_Grun mf_X5_readNumbers lb_X5_readNumbers_39 (P := hr_K 223 = 4 ∧ True) (pc' := if (M.1 223 7) = 2 then 49 else 47) (ls' := [some (.ref 223), some (.int a1), some (.int x2)]) (st' := []) (M' := M) rfl rfl ⟨K_223, trivial⟩ ?_
        refine hr_Gif h (fun _ h => ?_) (fun _ h => ?_)
        · refine hr_Fg h (fun hg6_0 h => ?_)
          refine hr_Fg h (fun hg6_1 h => ?_)
          refine hr_Grun mf_X5_readNumbers lb_X5_readNumbers_49 (P := hr_K 223 = 4 ∧ hr_K 223 = 4 ∧ ((hr_K 238 = 12 ∧ 238 < hr_n) ∧ vp_in x2 (hr_N 238)) ∧ hr_K 223 = 4 ∧ hr_K 223 = 4 ∧ ((hr_K 239 = 12 ∧ 239 < hr_n) ∧ vp_in x2 (hr_N 239)) ∧ True) (pc' := 70) (ls' := [some (.ref 223), some (.int a1), some (.int x2)]) (st' := [.ref 223]) (M' := hr_si (hr_si M 238 x2.toNatClampNeg (M.1 223 9)) 239 x2.toNatClampNeg ((hr_si M 238 x2.toNatClampNeg (M.1 223 9)).1 223 8)) rfl rfl ⟨K_223, K_223, ⟨⟨K_238, L_238⟩, (inB_N N_238 hg6_0)⟩, K_223, K_223, ⟨⟨K_239, L_239⟩, (inB_N N_239 hg6_1)⟩, trivial⟩ ?_
          refine hr_Fb h (fun v7 M7 e7 h => ?_)
          refine hr_Gcv mf_X5_readNumbers mf_X5_advance lb_X5_readNumbers_70 (b := 223) (as := []) (rest := []) (st2 := []) (v := none) (M1 := M7) rfl rfl rfl rfl rfl rfl K_223 (g_X5_advance  _ _ e7) rfl rfl ?_
          refine hr_Grun mf_X5_readNumbers lb_X5_readNumbers_73 (P := True) (pc' := 29) (ls' := [some (.ref 223), some (.int a1), some (.int (x2 + 1))]) (st' := []) (M' := M7) rfl rfl trivial ?_
          exact ih (x2 + 1) M7 _ h
        · refine hr_Grun mf_X5_readNumbers lb_X5_readNumbers_47 (P := True) (pc' := 48) (ls' := [some (.ref 223), some (.int a1), some (.int x2)]) (st' := [.int 0]) (M' := M) rfl rfl trivial ?_
          cases h
          exact hr_Gret mf_X5_readNumbers lb_X5_readNumbers_48 rfl rfl (Or.inl rfl)
def f_X5_readNumbers_2 (a1 : Int32) : Nat → Int32 → PM → Option (Int32 × PM)
  | 0, _, _ => none
  | f + 1, x2, M =>
    if 3 ≤ x2 then
      f_X5_readNumbers_29 a1 FU 0 M
    else
      if inB x2 3 = true then if inB x2 3 = true then 
      f_X5_readNumbers_2 a1 f (x2 + 1) (hr_si (hr_si M 238 x2.toNatClampNeg (-1)) 239 x2.toNatClampNeg (-1)) else none else none
theorem g_X5_readNumbers_2 (a1 : Int32)  : ∀ (f : Nat) (x2 : Int32) (M : PM) (r : Int32 × PM), f_X5_readNumbers_2 a1 f x2 M = some r → hr_G 74 2 [some (.ref 223), some (.int a1), some (.int x2)] [] M (some (.int r.1), r.2) := by
  intro f
  induction f with
  | zero => intro x2 M r h; cases h
  | succ f ih =>
    intro x2 M r h
    rw [f_X5_readNumbers_2.eq_2] at h
    refine hr_Grun mf_X5_readNumbers lb_X5_readNumbers_2 (P := True) (pc' := if 3 ≤ x2 then 27 else 7) (ls' := [some (.ref 223), some (.int a1), some (.int x2)]) (st' := []) (M' := M) rfl rfl trivial ?_
    refine hr_Gif h (fun _ h => ?_) (fun _ h => ?_)
    · refine hr_Grun mf_X5_readNumbers lb_X5_readNumbers_27 (P := True) (pc' := 29) (ls' := [some (.ref 223), some (.int a1), some (.int 0)]) (st' := []) (M' := M) rfl rfl trivial ?_
      exact g_X5_readNumbers_29 a1 FU 0 M _ h
    · refine hr_Fg h (fun hg3_0 h => ?_)
      refine hr_Fg h (fun hg3_1 h => ?_)
      refine hr_Grun mf_X5_readNumbers lb_X5_readNumbers_7 (P := hr_K 223 = 4 ∧ ((hr_K 238 = 12 ∧ 238 < hr_n) ∧ vp_in x2 (hr_N 238)) ∧ hr_K 223 = 4 ∧ ((hr_K 239 = 12 ∧ 239 < hr_n) ∧ vp_in x2 (hr_N 239)) ∧ True) (pc' := 2) (ls' := [some (.ref 223), some (.int a1), some (.int (x2 + 1))]) (st' := []) (M' := hr_si (hr_si M 238 x2.toNatClampNeg (-1)) 239 x2.toNatClampNeg (-1)) rfl rfl ⟨K_223, ⟨⟨K_238, L_238⟩, (inB_N N_238 hg3_0)⟩, K_223, ⟨⟨K_239, L_239⟩, (inB_N N_239 hg3_1)⟩, trivial⟩ ?_
      exact ih (x2 + 1) (hr_si (hr_si M 238 x2.toNatClampNeg (-1)) 239 x2.toNatClampNeg (-1)) _ h
def f_X5_readNumbers (a1 : Int32) (M : PM) : Option (Int32 × PM) :=
  f_X5_readNumbers_2 a1 FU 0 M
theorem g_X5_readNumbers (a1 : Int32) : ∀ (M : PM) (r : Int32 × PM), f_X5_readNumbers a1 M = some r → hr_G 74 0 [some (.ref 223), some (.int a1), none] [] M (some (.int r.1), r.2) := by
  intro M r h
  unfold f_X5_readNumbers at h
  refine hr_Grun mf_X5_readNumbers lb_X5_readNumbers_0 (P := True) (pc' := 2) (ls' := [some (.ref 223), some (.int a1), some (.int 0)]) (st' := []) (M' := M) rfl rfl trivial ?_
  exact g_X5_readNumbers_2 a1 FU 0 M _ h
theorem mf_X5_readLine : hr_mf 73 5 6 (some .boolean) 5 1 bk_X5_readLine := ⟨rfl, rfl, rfl, rfl, rfl, rfl⟩
theorem lb_X5_readLine_0 : bk_X5_readLine.lookup 0 = some [(.aload_n 0, 1), (.getfield 59, 3), (.iconst 1, 1), (.if_icmp .ne 11, 3)] := rfl
theorem lb_X5_readLine_8 : bk_X5_readLine.lookup 8 = some [(.aload_n 0, 1), (.iload_n 1, 1)] := rfl
theorem lb_X5_readLine_10 : bk_X5_readLine.lookup 10 = some [(.invokevirtual 76, 3)] := rfl
theorem lb_X5_readLine_13 : bk_X5_readLine.lookup 13 = some [(.goto 4, 3)] := rfl
theorem lb_X5_readLine_16 : bk_X5_readLine.lookup 16 = some [(.aconst_null, 1)] := rfl
theorem lb_X5_readLine_17 : bk_X5_readLine.lookup 17 = some [(.astore_n 2, 1), (.aload_n 2, 1), (.ifnonnull 5, 3)] := rfl
theorem lb_X5_readLine_22 : bk_X5_readLine.lookup 22 = some [(.iconst 0, 1)] := rfl
theorem lb_X5_readLine_23 : bk_X5_readLine.lookup 23 = some [(.ireturn, 1)] := rfl
theorem lb_X5_readLine_24 : bk_X5_readLine.lookup 24 = some [(.aload_n 0, 1), (.getfield 66, 3), (.istore_n 3, 1), (.aload_n 0, 1)] := rfl
theorem lb_X5_readLine_30 : bk_X5_readLine.lookup 30 = some [(.invokevirtual 56, 3)] := rfl
theorem lb_X5_readLine_33 : bk_X5_readLine.lookup 33 = some [(.aload_n 2, 1), (.getfield 80, 3), (.bipush 40, 2), (.if_icmp .ne 10, 3)] := rfl
theorem lb_X5_readLine_42 : bk_X5_readLine.lookup 42 = some [(.aload_n 0, 1)] := rfl
theorem lb_X5_readLine_43 : bk_X5_readLine.lookup 43 = some [(.invokevirtual 83, 3)] := rfl
theorem lb_X5_readLine_46 : bk_X5_readLine.lookup 46 = some [(.goto 11, 3)] := rfl
theorem lb_X5_readLine_49 : bk_X5_readLine.lookup 49 = some [(.aload_n 0, 1), (.aload_n 2, 1), (.getfield 87, 3)] := rfl
theorem lb_X5_readLine_54 : bk_X5_readLine.lookup 54 = some [(.invokevirtual 89, 3)] := rfl
theorem lb_X5_readLine_57 : bk_X5_readLine.lookup 57 = some [(.istore 4, 2), (.iload 4, 2), (.ifCond .eq 11, 3)] := rfl
theorem lb_X5_readLine_64 : bk_X5_readLine.lookup 64 = some [(.aload_n 0, 1), (.getfield 59, 3), (.iconst 3, 1), (.if_icmp .eq 5, 3)] := rfl
theorem lb_X5_readLine_72 : bk_X5_readLine.lookup 72 = some [(.iconst 0, 1)] := rfl
theorem lb_X5_readLine_73 : bk_X5_readLine.lookup 73 = some [(.ireturn, 1)] := rfl
theorem lb_X5_readLine_74 : bk_X5_readLine.lookup 74 = some [(.aload_n 0, 1)] := rfl
theorem lb_X5_readLine_75 : bk_X5_readLine.lookup 75 = some [(.invokevirtual 56, 3)] := rfl
theorem lb_X5_readLine_78 : bk_X5_readLine.lookup 78 = some [(.aload_n 0, 1), (.getfield 43, 3), (.ifCond .ne 9, 3)] := rfl
theorem lb_X5_readLine_85 : bk_X5_readLine.lookup 85 = some [(.aload_n 0, 1), (.aload_n 2, 1), (.iload_n 3, 1)] := rfl
theorem lb_X5_readLine_88 : bk_X5_readLine.lookup 88 = some [(.invokevirtual 92, 3)] := rfl
theorem lb_X5_readLine_91 : bk_X5_readLine.lookup 91 = some [(.iconst 1, 1)] := rfl
theorem lb_X5_readLine_92 : bk_X5_readLine.lookup 92 = some [(.ireturn, 1)] := rfl
def f_X5_readLine_57 (a1 : Int32) (x2 : Nat) (x3 : Int32) (s0 : Int32) (M : PM) : Option (Int32 × PM) :=
  if s0 = 0 then
    some (0, M)
  else
    if (M.1 223 7) = 3 then
      hr_bd (f_X5_advance M) (fun v5 M5 =>
      if (M5.1 223 2) = 0 then
        hr_bd (f_X5_take x2 x3 M5) (fun v8 M8 =>
        some (1, M8))
      else
        some (1, M5))
    else
      some (0, M)
theorem g_X5_readLine_57 (a1 : Int32)  : ∀ (x2 : Nat) (x3 : Int32) (s0 : Int32) (kx2 : hr_K x2 = 19) (M : PM) (r : Int32 × PM), f_X5_readLine_57 a1 x2 x3 s0 M = some r → hr_G 73 57 [some (.ref 223), none, some (.ref x2), some (.int x3), none] [.int s0] M (some (.int r.1), r.2) := by
  intro x2 x3 s0 kx2 M r h
  unfold f_X5_readLine_57 at h
  refine hr_Grun mf_X5_readLine lb_X5_readLine_57 (P := True) (pc' := if s0 = 0 then 72 else 64) (ls' := [some (.ref 223), none, some (.ref x2), some (.int x3), some (.int s0)]) (st' := []) (M' := M) rfl rfl trivial ?_
  refine hr_Gif h (fun _ h => ?_) (fun _ h => ?_)
  · refine hr_Grun mf_X5_readLine lb_X5_readLine_72 (P := True) (pc' := 73) (ls' := [some (.ref 223), none, some (.ref x2), some (.int x3), some (.int s0)]) (st' := [.int 0]) (M' := M) rfl rfl trivial ?_
    cases h
    exact hr_Gret mf_X5_readLine lb_X5_readLine_73 rfl rfl (Or.inl rfl)
  · refine hr_Grun mf_X5_readLine lb_X5_readLine_64 (P := hr_K 223 = 4 ∧ True) (pc' := if (M.1 223 7) = 3 then 74 else 72) (ls' := [some (.ref 223), none, some (.ref x2), some (.int x3), some (.int s0)]) (st' := []) (M' := M) rfl rfl ⟨K_223, trivial⟩ ?_
    refine hr_Gif h (fun _ h => ?_) (fun _ h => ?_)
    · refine hr_Grun mf_X5_readLine lb_X5_readLine_74 (P := True) (pc' := 75) (ls' := [some (.ref 223), none, some (.ref x2), some (.int x3), some (.int s0)]) (st' := [.ref 223]) (M' := M) rfl rfl trivial ?_
      refine hr_Fb h (fun v5 M5 e5 h => ?_)
      refine hr_Gcv mf_X5_readLine mf_X5_advance lb_X5_readLine_75 (b := 223) (as := []) (rest := []) (st2 := []) (v := none) (M1 := M5) rfl rfl rfl rfl rfl rfl K_223 (g_X5_advance  _ _ e5) rfl rfl ?_
      refine hr_Grun mf_X5_readLine lb_X5_readLine_78 (P := hr_K 223 = 4 ∧ True) (pc' := if (M5.1 223 2) = 0 then 85 else 91) (ls' := [some (.ref 223), none, some (.ref x2), some (.int x3), some (.int s0)]) (st' := []) (M' := M5) rfl rfl ⟨K_223, trivial⟩ ?_
      refine hr_Gif h (fun _ h => ?_) (fun _ h => ?_)
      · refine hr_Grun mf_X5_readLine lb_X5_readLine_85 (P := True) (pc' := 88) (ls' := [some (.ref 223), none, some (.ref x2), some (.int x3), some (.int s0)]) (st' := [.int x3, .ref x2, .ref 223]) (M' := M5) rfl rfl trivial ?_
        refine hr_Fb h (fun v8 M8 e8 h => ?_)
        refine hr_Gcv mf_X5_readLine mf_X5_take lb_X5_readLine_88 (b := 223) (as := [.ref x2, .int x3]) (rest := []) (st2 := []) (v := none) (M1 := M8) rfl rfl rfl rfl rfl rfl K_223 (g_X5_take x2 x3 _ _ e8) rfl rfl ?_
        refine hr_Grun mf_X5_readLine lb_X5_readLine_91 (P := True) (pc' := 92) (ls' := [some (.ref 223), none, some (.ref x2), some (.int x3), some (.int s0)]) (st' := [.int 1]) (M' := M8) rfl rfl trivial ?_
        cases h
        exact hr_Gret mf_X5_readLine lb_X5_readLine_92 rfl rfl (Or.inr rfl)
      · refine hr_Grun mf_X5_readLine lb_X5_readLine_91 (P := True) (pc' := 92) (ls' := [some (.ref 223), none, some (.ref x2), some (.int x3), some (.int s0)]) (st' := [.int 1]) (M' := M5) rfl rfl trivial ?_
        cases h
        exact hr_Gret mf_X5_readLine lb_X5_readLine_92 rfl rfl (Or.inr rfl)
    · refine hr_Grun mf_X5_readLine lb_X5_readLine_72 (P := True) (pc' := 73) (ls' := [some (.ref 223), none, some (.ref x2), some (.int x3), some (.int s0)]) (st' := [.int 0]) (M' := M) rfl rfl trivial ?_
      cases h
      exact hr_Gret mf_X5_readLine lb_X5_readLine_73 rfl rfl (Or.inl rfl)
def f_X5_readLine (a1 : Int32) (M : PM) : Option (Int32 × PM) :=
  if (M.1 223 7) = 1 then
    hr_bd (f_X5_lineNamed a1 M) (fun v3 M3 => match v3 with
    | .null => some (0, M3)
    | .ref q3 => if hr_K q3 = 19 then
      hr_bd (f_X5_advance M3) (fun v10 M10 =>
      if (M10.1 q3 0) = 40 then
        hr_bd (f_X5_readGuestHues M10) (fun v13 M13 =>
        f_X5_readLine_57 a1 q3 (M3.1 223 8) v13 M13)
      else
        hr_bd (f_X5_readNumbers (M10.1 q3 2) M10) (fun v16 M16 =>
        f_X5_readLine_57 a1 q3 (M3.1 223 8) v16 M16))
      else none
    | _ => none)
  else
    some (0, M)
theorem g_X5_readLine (a1 : Int32) : ∀ (M : PM) (r : Int32 × PM), f_X5_readLine a1 M = some r → hr_G 73 0 [some (.ref 223), some (.int a1), none, none, none] [] M (some (.int r.1), r.2) := by
  intro M r h
  unfold f_X5_readLine at h
  refine hr_Grun mf_X5_readLine lb_X5_readLine_0 (P := hr_K 223 = 4 ∧ True) (pc' := if (M.1 223 7) = 1 then 8 else 16) (ls' := [some (.ref 223), some (.int a1), none, none, none]) (st' := []) (M' := M) rfl rfl ⟨K_223, trivial⟩ ?_
  refine hr_Gif h (fun _ h => ?_) (fun _ h => ?_)
  · refine hr_Grun mf_X5_readLine lb_X5_readLine_8 (P := True) (pc' := 10) (ls' := [some (.ref 223), some (.int a1), none, none, none]) (st' := [.int a1, .ref 223]) (M' := M) rfl rfl trivial ?_
    refine hr_Fb h (fun v3 M3 e3 h => ?_)
    refine hr_Fv h (fun hv h => ?_) (fun q3 hv h => ?_)
    · subst hv
      refine hr_Gcv mf_X5_readLine mf_X5_lineNamed lb_X5_readLine_10 (b := 223) (as := [.int a1]) (rest := []) (st2 := [.null]) (v := some .null) (M1 := M3) rfl rfl rfl rfl rfl rfl K_223 (g_X5_lineNamed a1 _ _ e3) rfl rfl ?_
      refine hr_Grun mf_X5_readLine lb_X5_readLine_13 (P := True) (pc' := 17) (ls' := [some (.ref 223), some (.int a1), none, none, none]) (st' := [.null]) (M' := M3) rfl rfl trivial ?_
      refine hr_Grun mf_X5_readLine lb_X5_readLine_17 (P := True) (pc' := 22) (ls' := [some (.ref 223), some (.int a1), some .null, none, none]) (st' := []) (M' := M3) rfl rfl trivial ?_
      refine hr_Grun mf_X5_readLine lb_X5_readLine_22 (P := True) (pc' := 23) (ls' := [some (.ref 223), some (.int a1), some .null, none, none]) (st' := [.int 0]) (M' := M3) rfl rfl trivial ?_
      cases h
      exact hr_Gret mf_X5_readLine lb_X5_readLine_23 rfl rfl (Or.inl rfl)
    · subst hv
      refine hr_Fg h (fun kq3 h => ?_)
      refine hr_Gcv mf_X5_readLine mf_X5_lineNamed lb_X5_readLine_10 (b := 223) (as := [.int a1]) (rest := []) (st2 := [.ref q3]) (v := some (.ref q3)) (M1 := M3) rfl rfl rfl rfl rfl rfl K_223 (g_X5_lineNamed a1 _ _ e3) rfl rfl ?_
      refine hr_Grun mf_X5_readLine lb_X5_readLine_13 (P := True) (pc' := 17) (ls' := [some (.ref 223), some (.int a1), none, none, none]) (st' := [.ref q3]) (M' := M3) rfl rfl trivial ?_
      refine hr_Grun mf_X5_readLine lb_X5_readLine_17 (P := True) (pc' := 24) (ls' := [some (.ref 223), some (.int a1), some (.ref q3), none, none]) (st' := []) (M' := M3) rfl rfl trivial ?_
      refine hr_Grun mf_X5_readLine lb_X5_readLine_24 (P := hr_K 223 = 4 ∧ True) (pc' := 30) (ls' := [some (.ref 223), some (.int a1), some (.ref q3), some (.int (M3.1 223 8)), none]) (st' := [.ref 223]) (M' := M3) rfl rfl ⟨K_223, trivial⟩ ?_
      refine hr_Fb h (fun v10 M10 e10 h => ?_)
      refine hr_Gcv mf_X5_readLine mf_X5_advance lb_X5_readLine_30 (b := 223) (as := []) (rest := []) (st2 := []) (v := none) (M1 := M10) rfl rfl rfl rfl rfl rfl K_223 (g_X5_advance  _ _ e10) rfl rfl ?_
      refine hr_Grun mf_X5_readLine lb_X5_readLine_33 (P := hr_K q3 = 19 ∧ True) (pc' := if (M10.1 q3 0) = 40 then 42 else 49) (ls' := [some (.ref 223), some (.int a1), some (.ref q3), some (.int (M3.1 223 8)), none]) (st' := []) (M' := M10) rfl rfl ⟨kq3, trivial⟩ ?_
      refine hr_Gif h (fun _ h => ?_) (fun _ h => ?_)
      · refine hr_Grun mf_X5_readLine lb_X5_readLine_42 (P := True) (pc' := 43) (ls' := [some (.ref 223), some (.int a1), some (.ref q3), some (.int (M3.1 223 8)), none]) (st' := [.ref 223]) (M' := M10) rfl rfl trivial ?_
        refine hr_Fb h (fun v13 M13 e13 h => ?_)
        refine hr_Gcv mf_X5_readLine mf_X5_readGuestHues lb_X5_readLine_43 (b := 223) (as := []) (rest := []) (st2 := [.int v13]) (v := some (.int v13)) (M1 := M13) rfl rfl rfl rfl rfl rfl K_223 (g_X5_readGuestHues  _ _ e13) rfl rfl ?_
        refine hr_Grun mf_X5_readLine lb_X5_readLine_46 (P := True) (pc' := 57) (ls' := [some (.ref 223), some (.int a1), some (.ref q3), some (.int (M3.1 223 8)), none]) (st' := [.int v13]) (M' := M13) rfl rfl trivial ?_
        refine hr_Gle (ls := [some (.ref 223), none, some (.ref q3), some (.int (M3.1 223 8)), none]) (hr_le_s (hr_le_n (hr_le_s (hr_le_s (hr_le_n hr_le_0))))) ?_
        exact g_X5_readLine_57 a1 q3 (M3.1 223 8) v13 kq3 M13 _ h
      · refine hr_Grun mf_X5_readLine lb_X5_readLine_49 (P := hr_K q3 = 19 ∧ True) (pc' := 54) (ls' := [some (.ref 223), some (.int a1), some (.ref q3), some (.int (M3.1 223 8)), none]) (st' := [.int (M10.1 q3 2), .ref 223]) (M' := M10) rfl rfl ⟨kq3, trivial⟩ ?_
        refine hr_Fb h (fun v16 M16 e16 h => ?_)
        refine hr_Gcv mf_X5_readLine mf_X5_readNumbers lb_X5_readLine_54 (b := 223) (as := [.int (M10.1 q3 2)]) (rest := []) (st2 := [.int v16]) (v := some (.int v16)) (M1 := M16) rfl rfl rfl rfl rfl rfl K_223 (g_X5_readNumbers (M10.1 q3 2) _ _ e16) rfl rfl ?_
        refine hr_Gle (ls := [some (.ref 223), none, some (.ref q3), some (.int (M3.1 223 8)), none]) (hr_le_s (hr_le_n (hr_le_s (hr_le_s (hr_le_n hr_le_0))))) ?_
        exact g_X5_readLine_57 a1 q3 (M3.1 223 8) v16 kq3 M16 _ h
  · refine hr_Grun mf_X5_readLine lb_X5_readLine_16 (P := True) (pc' := 17) (ls' := [some (.ref 223), some (.int a1), none, none, none]) (st' := [.null]) (M' := M) rfl rfl trivial ?_
    refine hr_Grun mf_X5_readLine lb_X5_readLine_17 (P := True) (pc' := 22) (ls' := [some (.ref 223), some (.int a1), some .null, none, none]) (st' := []) (M' := M) rfl rfl trivial ?_
    refine hr_Grun mf_X5_readLine lb_X5_readLine_22 (P := True) (pc' := 23) (ls' := [some (.ref 223), some (.int a1), some .null, none, none]) (st' := [.int 0]) (M' := M) rfl rfl trivial ?_
    cases h
    exact hr_Gret mf_X5_readLine lb_X5_readLine_23 rfl rfl (Or.inl rfl)
theorem mf_X5_read : hr_mf 71 5 7 none 6 3 bk_X5_read := ⟨rfl, rfl, rfl, rfl, rfl, rfl⟩
theorem lb_X5_read_0 : bk_X5_read.lookup 0 = some [(.aload_n 0, 1), (.aload_n 1, 1), (.putfield 25, 3), (.aload_n 0, 1), (.iload_n 2, 1), (.putfield 36, 3), (.aload_n 0, 1), (.iconst 0, 1), (.putfield 40, 3), (.aload_n 0, 1), (.iconst 0, 1), (.putfield 43, 3), (.aload_n 0, 1), (.iconst (-1), 1), (.putfield 46, 3), (.aload_n 0, 1), (.iconst 0, 1), (.putfield 49, 3), (.aload_n 0, 1), (.getfield 12, 3)] := rfl
theorem lb_X5_read_34 : bk_X5_read.lookup 34 = some [(.invokevirtual 52, 3)] := rfl
theorem lb_X5_read_37 : bk_X5_read.lookup 37 = some [(.aload_n 0, 1), (.getfield 21, 3)] := rfl
theorem lb_X5_read_41 : bk_X5_read.lookup 41 = some [(.invokevirtual 55, 3)] := rfl
theorem lb_X5_read_44 : bk_X5_read.lookup 44 = some [(.aload_n 0, 1)] := rfl
theorem lb_X5_read_45 : bk_X5_read.lookup 45 = some [(.invokevirtual 56, 3)] := rfl
theorem lb_X5_read_48 : bk_X5_read.lookup 48 = some [(.iconst 1, 1), (.istore 4, 2), (.iconst 0, 1), (.istore 5, 2)] := rfl
theorem lb_X5_read_54 : bk_X5_read.lookup 54 = some [(.iload 5, 2), (.sipush 600, 3), (.if_icmp .gt 28, 3)] := rfl
theorem lb_X5_read_62 : bk_X5_read.lookup 62 = some [(.iload 4, 2), (.ifCond .eq 23, 3)] := rfl
theorem lb_X5_read_67 : bk_X5_read.lookup 67 = some [(.aload_n 0, 1), (.getfield 59, 3), (.ifCond .eq 16, 3)] := rfl
theorem lb_X5_read_74 : bk_X5_read.lookup 74 = some [(.aload_n 0, 1), (.iload_n 3, 1)] := rfl
theorem lb_X5_read_76 : bk_X5_read.lookup 76 = some [(.invokevirtual 62, 3)] := rfl
theorem lb_X5_read_79 : bk_X5_read.lookup 79 = some [(.istore 4, 2), (.iinc 5 1, 3), (.goto (-30), 3)] := rfl
theorem lb_X5_read_87 : bk_X5_read.lookup 87 = some [(.iload 4, 2), (.ifCond .ne 19, 3)] := rfl
theorem lb_X5_read_92 : bk_X5_read.lookup 92 = some [(.aload_n 0, 1), (.iconst 1, 1), (.putfield 43, 3), (.aload_n 0, 1), (.aload_n 0, 1), (.getfield 66, 3), (.putfield 46, 3), (.goto 26, 3)] := rfl
theorem lb_X5_read_108 : bk_X5_read.lookup 108 = some [(.aload_n 0, 1), (.getfield 12, 3), (.aload_n 0, 1), (.getfield 49, 3)] := rfl
theorem lb_X5_read_116 : bk_X5_read.lookup 116 = some [(.invokevirtual 69, 3)] := rfl
theorem lb_X5_read_119 : bk_X5_read.lookup 119 = some [(.ifCond .ne 12, 3)] := rfl
theorem lb_X5_read_122 : bk_X5_read.lookup 122 = some [(.aload_n 0, 1), (.iconst 4, 1), (.aload_n 0, 1), (.getfield 36, 3)] := rfl
theorem lb_X5_read_128 : bk_X5_read.lookup 128 = some [(.invokevirtual 72, 3)] := rfl
theorem lb_X5_read_131 : bk_X5_read.lookup 131 = some [(.return_, 1)] := rfl
def f_X5_read_87 (a1 : Nat) (a2 : Int32) (a3 : Int32) (x4 : Int32) (M : PM) : Option (Unit × PM) :=
  if x4 = 0 then
    some ((), hr_si (hr_si M 223 2 1) 223 3 ((hr_si M 223 2 1).1 223 8))
  else
    hr_bd (f_X4_hasAll 224 (M.1 223 14) M) (fun v4 M4 =>
    if v4 = 0 then
      hr_bd (f_X5_note 4 (M4.1 223 5) M4) (fun v7 M7 =>
      some ((), M7))
    else
      some ((), M4))
theorem g_X5_read_87 (a1 : Nat) (a2 : Int32) (a3 : Int32) (ka1 : hr_K a1 = 11 ∧ a1 < hr_n) : ∀ (x4 : Int32) (M : PM) (r : Unit × PM), f_X5_read_87 a1 a2 a3 x4 M = some r → hr_G 71 87 [some (.ref 223), none, none, none, some (.int x4), none] [] M (none, r.2) := by
  intro x4 M r h
  unfold f_X5_read_87 at h
  refine hr_Grun mf_X5_read lb_X5_read_87 (P := True) (pc' := if x4 = 0 then 92 else 108) (ls' := [some (.ref 223), none, none, none, some (.int x4), none]) (st' := []) (M' := M) rfl rfl trivial ?_
  refine hr_Gif h (fun _ h => ?_) (fun _ h => ?_)
  · refine hr_Grun mf_X5_read lb_X5_read_92 (P := (hr_K 223 = 4 ∧ 223 < hr_n) ∧ hr_K 223 = 4 ∧ (hr_K 223 = 4 ∧ 223 < hr_n) ∧ True) (pc' := 131) (ls' := [some (.ref 223), none, none, none, some (.int x4), none]) (st' := []) (M' := hr_si (hr_si M 223 2 1) 223 3 ((hr_si M 223 2 1).1 223 8)) rfl rfl ⟨⟨K_223, L_223⟩, K_223, ⟨K_223, L_223⟩, trivial⟩ ?_
    cases h
    exact hr_Gret mf_X5_read lb_X5_read_131 rfl rfl trivial
  · refine hr_Grun mf_X5_read lb_X5_read_108 (P := hr_K 223 = 4 ∧ hr_K 223 = 4 ∧ True) (pc' := 116) (ls' := [some (.ref 223), none, none, none, some (.int x4), none]) (st' := [.int (M.1 223 14), .ref 224]) (M' := M) rfl rfl ⟨K_223, K_223, trivial⟩ ?_
    refine hr_Fb h (fun v4 M4 e4 h => ?_)
    refine hr_Gcv mf_X5_read mf_X4_hasAll lb_X5_read_116 (b := 224) (as := [.int (M.1 223 14)]) (rest := []) (st2 := [.int v4]) (v := some (.int v4)) (M1 := M4) rfl rfl rfl rfl rfl rfl K_224 (g_X4_hasAll 224 (M.1 223 14) _ _ e4) rfl rfl ?_
    refine hr_Grun mf_X5_read lb_X5_read_119 (P := True) (pc' := if v4 = 0 then 122 else 131) (ls' := [some (.ref 223), none, none, none, some (.int x4), none]) (st' := []) (M' := M4) rfl rfl trivial ?_
    refine hr_Gif h (fun _ h => ?_) (fun _ h => ?_)
    · refine hr_Grun mf_X5_read lb_X5_read_122 (P := hr_K 223 = 4 ∧ True) (pc' := 128) (ls' := [some (.ref 223), none, none, none, some (.int x4), none]) (st' := [.int (M4.1 223 5), .int 4, .ref 223]) (M' := M4) rfl rfl ⟨K_223, trivial⟩ ?_
      refine hr_Fb h (fun v7 M7 e7 h => ?_)
      refine hr_Gcv mf_X5_read mf_X5_note lb_X5_read_128 (b := 223) (as := [.int 4, .int (M4.1 223 5)]) (rest := []) (st2 := []) (v := none) (M1 := M7) rfl rfl rfl rfl rfl rfl K_223 (g_X5_note 4 (M4.1 223 5) _ _ e7) rfl rfl ?_
      cases h
      exact hr_Gret mf_X5_read lb_X5_read_131 rfl rfl trivial
    · cases h
      exact hr_Gret mf_X5_read lb_X5_read_131 rfl rfl trivial
def f_X5_read_54 (a1 : Nat) (a2 : Int32) (a3 : Int32) : Nat → Int32 → Int32 → PM → Option (Unit × PM)
  | 0, _, _, _ => none
  | f + 1, x4, x5, M =>
    if 600 < x5 then
      f_X5_read_87 a1 a2 a3 x4 M
    else
      if x4 = 0 then
        f_X5_read_87 a1 a2 a3 x4 M
      else
        if (M.1 223 7) = 0 then
          f_X5_read_87 a1 a2 a3 x4 M
        else
          hr_bd (f_X5_readLine a3 M) (fun v5 M5 =>
          f_X5_read_54 a1 a2 a3 f v5 (x5 + 1) M5)
theorem g_X5_read_54 (a1 : Nat) (a2 : Int32) (a3 : Int32) (ka1 : hr_K a1 = 11 ∧ a1 < hr_n) : ∀ (f : Nat) (x4 : Int32) (x5 : Int32) (M : PM) (r : Unit × PM), f_X5_read_54 a1 a2 a3 f x4 x5 M = some r → hr_G 71 54 [some (.ref 223), none, none, some (.int a3), some (.int x4), some (.int x5)] [] M (none, r.2) := by
  intro f
  induction f with
  | zero => intro x4 x5 M r h; cases h
  | succ f ih =>
    intro x4 x5 M r h
    rw [f_X5_read_54.eq_2] at h
    refine hr_Grun mf_X5_read lb_X5_read_54 (P := True) (pc' := if 600 < x5 then 87 else 62) (ls' := [some (.ref 223), none, none, some (.int a3), some (.int x4), some (.int x5)]) (st' := []) (M' := M) rfl rfl trivial ?_
    refine hr_Gif h (fun _ h => ?_) (fun _ h => ?_)
    · refine hr_Gle (ls := [some (.ref 223), none, none, none, some (.int x4), none]) (hr_le_s (hr_le_n (hr_le_n (hr_le_n (hr_le_s (hr_le_n hr_le_0)))))) ?_
      exact g_X5_read_87 a1 a2 a3 ka1 x4 M _ h
    · refine hr_Grun mf_X5_read lb_X5_read_62 (P := True) (pc' := if x4 = 0 then 87 else 67) (ls' := [some (.ref 223), none, none, some (.int a3), some (.int x4), some (.int x5)]) (st' := []) (M' := M) rfl rfl trivial ?_
      refine hr_Gif h (fun _ h => ?_) (fun _ h => ?_)
      · refine hr_Gle (ls := [some (.ref 223), none, none, none, some (.int x4), none]) (hr_le_s (hr_le_n (hr_le_n (hr_le_n (hr_le_s (hr_le_n hr_le_0)))))) ?_
        exact g_X5_read_87 a1 a2 a3 ka1 x4 M _ h
      · refine hr_Grun mf_X5_read lb_X5_read_67 (P := hr_K 223 = 4 ∧ True) (pc' := if (M.1 223 7) = 0 then 87 else 74) (ls' := [some (.ref 223), none, none, some (.int a3), some (.int x4), some (.int x5)]) (st' := []) (M' := M) rfl rfl ⟨K_223, trivial⟩ ?_
        refine hr_Gif h (fun _ h => ?_) (fun _ h => ?_)
        · refine hr_Gle (ls := [some (.ref 223), none, none, none, some (.int x4), none]) (hr_le_s (hr_le_n (hr_le_n (hr_le_n (hr_le_s (hr_le_n hr_le_0)))))) ?_
          exact g_X5_read_87 a1 a2 a3 ka1 x4 M _ h
        · refine hr_Grun mf_X5_read lb_X5_read_74 (P := True) (pc' := 76) (ls' := [some (.ref 223), none, none, some (.int a3), some (.int x4), some (.int x5)]) (st' := [.int a3, .ref 223]) (M' := M) rfl rfl trivial ?_
          refine hr_Fb h (fun v5 M5 e5 h => ?_)
          refine hr_Gcv mf_X5_read mf_X5_readLine lb_X5_read_76 (b := 223) (as := [.int a3]) (rest := []) (st2 := [.int v5]) (v := some (.int v5)) (M1 := M5) rfl rfl rfl rfl rfl rfl K_223 (g_X5_readLine a3 _ _ e5) rfl rfl ?_
          refine hr_Grun mf_X5_read lb_X5_read_79 (P := True) (pc' := 54) (ls' := [some (.ref 223), none, none, some (.int a3), some (.int v5), some (.int (x5 + 1))]) (st' := []) (M' := M5) rfl rfl trivial ?_
          exact ih v5 (x5 + 1) M5 _ h
def f_X5_read (a1 : Nat) (a2 : Int32) (a3 : Int32) (M : PM) : Option (Unit × PM) :=
  if hr_K a1 = 11 ∧ a1 < hr_n then hr_bd (f_X4_clear 224 (hr_si (hr_si (hr_si (hr_si (hr_si (hr_stp M a1) 223 5 a2) 223 6 0) 223 2 0) 223 3 (-1)) 223 14 0)) (fun v2 M2 =>
  hr_bd (f_X6_clear 233 M2) (fun v4 M4 =>
  hr_bd (f_X5_advance M4) (fun v6 M6 =>
  f_X5_read_54 a1 a2 a3 FU 1 0 M6))) else none
theorem g_X5_read (a1 : Nat) (a2 : Int32) (a3 : Int32) : ∀ (M : PM) (r : Unit × PM), f_X5_read a1 a2 a3 M = some r → hr_G 71 0 [some (.ref 223), some (.ref a1), some (.int a2), some (.int a3), none, none] [] M (none, r.2) := by
  intro M r h
  unfold f_X5_read at h
  refine hr_Fg h (fun ka1 h => ?_)
  refine hr_Grun mf_X5_read lb_X5_read_0 (P := (hr_K 223 = 4 ∧ 223 < hr_n ∧ a1 < hr_n) ∧ (hr_K 223 = 4 ∧ 223 < hr_n) ∧ (hr_K 223 = 4 ∧ 223 < hr_n) ∧ (hr_K 223 = 4 ∧ 223 < hr_n) ∧ (hr_K 223 = 4 ∧ 223 < hr_n) ∧ (hr_K 223 = 4 ∧ 223 < hr_n) ∧ hr_K 223 = 4 ∧ True) (pc' := 34) (ls' := [some (.ref 223), some (.ref a1), some (.int a2), some (.int a3), none, none]) (st' := [.ref 224]) (M' := hr_si (hr_si (hr_si (hr_si (hr_si (hr_stp M a1) 223 5 a2) 223 6 0) 223 2 0) 223 3 (-1)) 223 14 0) rfl rfl ⟨⟨K_223, L_223, ka1.2⟩, ⟨K_223, L_223⟩, ⟨K_223, L_223⟩, ⟨K_223, L_223⟩, ⟨K_223, L_223⟩, ⟨K_223, L_223⟩, K_223, trivial⟩ ?_
  refine hr_Fb h (fun v2 M2 e2 h => ?_)
  refine hr_Gcv mf_X5_read mf_X4_clear lb_X5_read_34 (b := 224) (as := []) (rest := []) (st2 := []) (v := none) (M1 := M2) rfl rfl rfl rfl rfl rfl K_224 (g_X4_clear 224 _ _ e2) rfl rfl ?_
  refine hr_Grun mf_X5_read lb_X5_read_37 (P := hr_K 223 = 4 ∧ True) (pc' := 41) (ls' := [some (.ref 223), some (.ref a1), some (.int a2), some (.int a3), none, none]) (st' := [.ref 233]) (M' := M2) rfl rfl ⟨K_223, trivial⟩ ?_
  refine hr_Fb h (fun v4 M4 e4 h => ?_)
  refine hr_Gcv mf_X5_read mf_X6_clear lb_X5_read_41 (b := 233) (as := []) (rest := []) (st2 := []) (v := none) (M1 := M4) rfl rfl rfl rfl rfl rfl K_233 (g_X6_clear 233 _ _ e4) rfl rfl ?_
  refine hr_Grun mf_X5_read lb_X5_read_44 (P := True) (pc' := 45) (ls' := [some (.ref 223), some (.ref a1), some (.int a2), some (.int a3), none, none]) (st' := [.ref 223]) (M' := M4) rfl rfl trivial ?_
  refine hr_Fb h (fun v6 M6 e6 h => ?_)
  refine hr_Gcv mf_X5_read mf_X5_advance lb_X5_read_45 (b := 223) (as := []) (rest := []) (st2 := []) (v := none) (M1 := M6) rfl rfl rfl rfl rfl rfl K_223 (g_X5_advance  _ _ e6) rfl rfl ?_
  refine hr_Grun mf_X5_read lb_X5_read_48 (P := True) (pc' := 54) (ls' := [some (.ref 223), some (.ref a1), some (.int a2), some (.int a3), some (.int 1), some (.int 0)]) (st' := []) (M' := M6) rfl rfl trivial ?_
  refine hr_Gle (ls := [some (.ref 223), none, none, some (.int a3), some (.int 1), some (.int 0)]) (hr_le_s (hr_le_n (hr_le_n (hr_le_s (hr_le_s (hr_le_s hr_le_0)))))) ?_
  exact g_X5_read_54 a1 a2 a3 ka1 FU 1 0 M6 _ h
theorem mf_X6_has : hr_mf 90 6 0 (some .boolean) 2 1 bk_X6_has := ⟨rfl, rfl, rfl, rfl, rfl, rfl⟩
theorem lb_X6_has_0 : bk_X6_has.lookup 0 = some [(.iload_n 1, 1), (.ifCond .lt 15, 3)] := rfl
theorem lb_X6_has_4 : bk_X6_has.lookup 4 = some [(.iload_n 1, 1), (.aload_n 0, 1), (.getfield 25, 3), (.if_icmp .ge 7, 3)] := rfl
theorem lb_X6_has_12 : bk_X6_has.lookup 12 = some [(.iconst 1, 1), (.goto 4, 3)] := rfl
theorem lb_X6_has_16 : bk_X6_has.lookup 16 = some [(.iconst 0, 1)] := rfl
theorem lb_X6_has_17 : bk_X6_has.lookup 17 = some [(.ireturn, 1)] := rfl
def f_X6_has (a0 : Nat) (a1 : Int32) (M : PM) : Option (Int32 × PM) :=
  if hr_K a0 = 5 then if a1 < 0 then
    some (0, M)
  else
    if (M.1 a0 0) ≤ a1 then
      some (0, M)
    else
      some (1, M) else none
theorem g_X6_has (a0 : Nat) (a1 : Int32) : ∀ (M : PM) (r : Int32 × PM), f_X6_has a0 a1 M = some r → hr_G 90 0 [some (.ref a0), some (.int a1)] [] M (some (.int r.1), r.2) := by
  intro M r h
  unfold f_X6_has at h
  refine hr_Fg h (fun ka0 h => ?_)
  refine hr_Grun mf_X6_has lb_X6_has_0 (P := True) (pc' := if a1 < 0 then 16 else 4) (ls' := [some (.ref a0), some (.int a1)]) (st' := []) (M' := M) rfl rfl trivial ?_
  refine hr_Gif h (fun _ h => ?_) (fun _ h => ?_)
  · refine hr_Grun mf_X6_has lb_X6_has_16 (P := True) (pc' := 17) (ls' := [some (.ref a0), some (.int a1)]) (st' := [.int 0]) (M' := M) rfl rfl trivial ?_
    cases h
    exact hr_Gret mf_X6_has lb_X6_has_17 rfl rfl (Or.inl rfl)
  · refine hr_Grun mf_X6_has lb_X6_has_4 (P := hr_K a0 = 5 ∧ True) (pc' := if (M.1 a0 0) ≤ a1 then 16 else 12) (ls' := [some (.ref a0), some (.int a1)]) (st' := []) (M' := M) rfl rfl ⟨ka0, trivial⟩ ?_
    refine hr_Gif h (fun _ h => ?_) (fun _ h => ?_)
    · refine hr_Grun mf_X6_has lb_X6_has_16 (P := True) (pc' := 17) (ls' := [some (.ref a0), some (.int a1)]) (st' := [.int 0]) (M' := M) rfl rfl trivial ?_
      cases h
      exact hr_Gret mf_X6_has lb_X6_has_17 rfl rfl (Or.inl rfl)
    · refine hr_Grun mf_X6_has lb_X6_has_12 (P := True) (pc' := 17) (ls' := [some (.ref a0), some (.int a1)]) (st' := [.int 1]) (M' := M) rfl rfl trivial ?_
      cases h
      exact hr_Gret mf_X6_has lb_X6_has_17 rfl rfl (Or.inr rfl)
theorem mf_X6_copyFrom : hr_mf 93 6 1 none 2 1 bk_X6_copyFrom := ⟨rfl, rfl, rfl, rfl, rfl, rfl⟩
theorem lb_X6_copyFrom_0 : bk_X6_copyFrom.lookup 0 = some [(.aload_n 0, 1), (.aload_n 1, 1), (.getfield 25, 3), (.putfield 25, 3), (.aload_n 0, 1), (.aload_n 1, 1), (.getfield 9, 3), (.putfield 9, 3), (.aload_n 0, 1), (.aload_n 1, 1), (.getfield 28, 3), (.putfield 28, 3), (.aload_n 1, 1), (.getfield 15, 3), (.iconst 0, 1), (.aload_n 0, 1), (.getfield 15, 3), (.iconst 0, 1), (.aload_n 0, 1), (.getfield 15, 3), (.arraylength, 1), (.invokestatic 31, 3), (.aload_n 1, 1), (.getfield 19, 3), (.iconst 0, 1), (.aload_n 0, 1), (.getfield 19, 3), (.iconst 0, 1), (.aload_n 0, 1), (.getfield 19, 3), (.arraylength, 1), (.invokestatic 31, 3), (.aload_n 1, 1), (.getfield 22, 3), (.iconst 0, 1), (.aload_n 0, 1), (.getfield 22, 3), (.iconst 0, 1), (.aload_n 0, 1), (.getfield 22, 3), (.arraylength, 1), (.invokestatic 31, 3)] := rfl
theorem lb_X6_copyFrom_78 : bk_X6_copyFrom.lookup 78 = some [(.return_, 1)] := rfl
def f_X6_copyFrom (a0 : Nat) (a1 : Nat) (M : PM) : Option (Unit × PM) :=
  if hr_K a0 = 5 then if hr_K a1 = 5 then if (¬ (0 : Int32) < 0 ∧ ¬ (0 : Int32) < 0 ∧ ¬ (Int32.ofNat (hr_N (a0 + 1))) < 0) ∧ (0 : Int32).toNatClampNeg + (Int32.ofNat (hr_N (a0 + 1))).toNatClampNeg ≤ hr_N (a1 + 1) ∧ (0 : Int32).toNatClampNeg + (Int32.ofNat (hr_N (a0 + 1))).toNatClampNeg ≤ hr_N (a0 + 1) then if (¬ (0 : Int32) < 0 ∧ ¬ (0 : Int32) < 0 ∧ ¬ (Int32.ofNat (hr_N (a0 + 2))) < 0) ∧ (0 : Int32).toNatClampNeg + (Int32.ofNat (hr_N (a0 + 2))).toNatClampNeg ≤ hr_N (a1 + 2) ∧ (0 : Int32).toNatClampNeg + (Int32.ofNat (hr_N (a0 + 2))).toNatClampNeg ≤ hr_N (a0 + 2) then if (¬ (0 : Int32) < 0 ∧ ¬ (0 : Int32) < 0 ∧ ¬ (Int32.ofNat (hr_N (a0 + 3))) < 0) ∧ (0 : Int32).toNatClampNeg + (Int32.ofNat (hr_N (a0 + 3))).toNatClampNeg ≤ hr_N (a1 + 3) ∧ (0 : Int32).toNatClampNeg + (Int32.ofNat (hr_N (a0 + 3))).toNatClampNeg ≤ hr_N (a0 + 3) then 
  some ((), hr_sr (hr_sr (hr_sr (hr_si (hr_si (hr_si M a0 0 (M.1 a1 0)) a0 1 ((hr_si M a0 0 (M.1 a1 0)).1 a1 1)) a0 2 ((hr_si (hr_si M a0 0 (M.1 a1 0)) a0 1 ((hr_si M a0 0 (M.1 a1 0)).1 a1 1)).1 a1 2)) (a0 + 1) (va_cpy ((hr_si (hr_si (hr_si M a0 0 (M.1 a1 0)) a0 1 ((hr_si M a0 0 (M.1 a1 0)).1 a1 1)) a0 2 ((hr_si (hr_si M a0 0 (M.1 a1 0)) a0 1 ((hr_si M a0 0 (M.1 a1 0)).1 a1 1)).1 a1 2)).1 (a1 + 1)) ((hr_si (hr_si (hr_si M a0 0 (M.1 a1 0)) a0 1 ((hr_si M a0 0 (M.1 a1 0)).1 a1 1)) a0 2 ((hr_si (hr_si M a0 0 (M.1 a1 0)) a0 1 ((hr_si M a0 0 (M.1 a1 0)).1 a1 1)).1 a1 2)).1 (a0 + 1)) (0 : Int32).toNatClampNeg (0 : Int32).toNatClampNeg (Int32.ofNat (hr_N (a0 + 1))).toNatClampNeg)) (a0 + 2) (va_cpy ((hr_sr (hr_si (hr_si (hr_si M a0 0 (M.1 a1 0)) a0 1 ((hr_si M a0 0 (M.1 a1 0)).1 a1 1)) a0 2 ((hr_si (hr_si M a0 0 (M.1 a1 0)) a0 1 ((hr_si M a0 0 (M.1 a1 0)).1 a1 1)).1 a1 2)) (a0 + 1) (va_cpy ((hr_si (hr_si (hr_si M a0 0 (M.1 a1 0)) a0 1 ((hr_si M a0 0 (M.1 a1 0)).1 a1 1)) a0 2 ((hr_si (hr_si M a0 0 (M.1 a1 0)) a0 1 ((hr_si M a0 0 (M.1 a1 0)).1 a1 1)).1 a1 2)).1 (a1 + 1)) ((hr_si (hr_si (hr_si M a0 0 (M.1 a1 0)) a0 1 ((hr_si M a0 0 (M.1 a1 0)).1 a1 1)) a0 2 ((hr_si (hr_si M a0 0 (M.1 a1 0)) a0 1 ((hr_si M a0 0 (M.1 a1 0)).1 a1 1)).1 a1 2)).1 (a0 + 1)) (0 : Int32).toNatClampNeg (0 : Int32).toNatClampNeg (Int32.ofNat (hr_N (a0 + 1))).toNatClampNeg)).1 (a1 + 2)) ((hr_sr (hr_si (hr_si (hr_si M a0 0 (M.1 a1 0)) a0 1 ((hr_si M a0 0 (M.1 a1 0)).1 a1 1)) a0 2 ((hr_si (hr_si M a0 0 (M.1 a1 0)) a0 1 ((hr_si M a0 0 (M.1 a1 0)).1 a1 1)).1 a1 2)) (a0 + 1) (va_cpy ((hr_si (hr_si (hr_si M a0 0 (M.1 a1 0)) a0 1 ((hr_si M a0 0 (M.1 a1 0)).1 a1 1)) a0 2 ((hr_si (hr_si M a0 0 (M.1 a1 0)) a0 1 ((hr_si M a0 0 (M.1 a1 0)).1 a1 1)).1 a1 2)).1 (a1 + 1)) ((hr_si (hr_si (hr_si M a0 0 (M.1 a1 0)) a0 1 ((hr_si M a0 0 (M.1 a1 0)).1 a1 1)) a0 2 ((hr_si (hr_si M a0 0 (M.1 a1 0)) a0 1 ((hr_si M a0 0 (M.1 a1 0)).1 a1 1)).1 a1 2)).1 (a0 + 1)) (0 : Int32).toNatClampNeg (0 : Int32).toNatClampNeg (Int32.ofNat (hr_N (a0 + 1))).toNatClampNeg)).1 (a0 + 2)) (0 : Int32).toNatClampNeg (0 : Int32).toNatClampNeg (Int32.ofNat (hr_N (a0 + 2))).toNatClampNeg)) (a0 + 3) (va_cpy ((hr_sr (hr_sr (hr_si (hr_si (hr_si M a0 0 (M.1 a1 0)) a0 1 ((hr_si M a0 0 (M.1 a1 0)).1 a1 1)) a0 2 ((hr_si (hr_si M a0 0 (M.1 a1 0)) a0 1 ((hr_si M a0 0 (M.1 a1 0)).1 a1 1)).1 a1 2)) (a0 + 1) (va_cpy ((hr_si (hr_si (hr_si M a0 0 (M.1 a1 0)) a0 1 ((hr_si M a0 0 (M.1 a1 0)).1 a1 1)) a0 2 ((hr_si (hr_si M a0 0 (M.1 a1 0)) a0 1 ((hr_si M a0 0 (M.1 a1 0)).1 a1 1)).1 a1 2)).1 (a1 + 1)) ((hr_si (hr_si (hr_si M a0 0 (M.1 a1 0)) a0 1 ((hr_si M a0 0 (M.1 a1 0)).1 a1 1)) a0 2 ((hr_si (hr_si M a0 0 (M.1 a1 0)) a0 1 ((hr_si M a0 0 (M.1 a1 0)).1 a1 1)).1 a1 2)).1 (a0 + 1)) (0 : Int32).toNatClampNeg (0 : Int32).toNatClampNeg (Int32.ofNat (hr_N (a0 + 1))).toNatClampNeg)) (a0 + 2) (va_cpy ((hr_sr (hr_si (hr_si (hr_si M a0 0 (M.1 a1 0)) a0 1 ((hr_si M a0 0 (M.1 a1 0)).1 a1 1)) a0 2 ((hr_si (hr_si M a0 0 (M.1 a1 0)) a0 1 ((hr_si M a0 0 (M.1 a1 0)).1 a1 1)).1 a1 2)) (a0 + 1) (va_cpy ((hr_si (hr_si (hr_si M a0 0 (M.1 a1 0)) a0 1 ((hr_si M a0 0 (M.1 a1 0)).1 a1 1)) a0 2 ((hr_si (hr_si M a0 0 (M.1 a1 0)) a0 1 ((hr_si M a0 0 (M.1 a1 0)).1 a1 1)).1 a1 2)).1 (a1 + 1)) ((hr_si (hr_si (hr_si M a0 0 (M.1 a1 0)) a0 1 ((hr_si M a0 0 (M.1 a1 0)).1 a1 1)) a0 2 ((hr_si (hr_si M a0 0 (M.1 a1 0)) a0 1 ((hr_si M a0 0 (M.1 a1 0)).1 a1 1)).1 a1 2)).1 (a0 + 1)) (0 : Int32).toNatClampNeg (0 : Int32).toNatClampNeg (Int32.ofNat (hr_N (a0 + 1))).toNatClampNeg)).1 (a1 + 2)) ((hr_sr (hr_si (hr_si (hr_si M a0 0 (M.1 a1 0)) a0 1 ((hr_si M a0 0 (M.1 a1 0)).1 a1 1)) a0 2 ((hr_si (hr_si M a0 0 (M.1 a1 0)) a0 1 ((hr_si M a0 0 (M.1 a1 0)).1 a1 1)).1 a1 2)) (a0 + 1) (va_cpy ((hr_si (hr_si (hr_si M a0 0 (M.1 a1 0)) a0 1 ((hr_si M a0 0 (M.1 a1 0)).1 a1 1)) a0 2 ((hr_si (hr_si M a0 0 (M.1 a1 0)) a0 1 ((hr_si M a0 0 (M.1 a1 0)).1 a1 1)).1 a1 2)).1 (a1 + 1)) ((hr_si (hr_si (hr_si M a0 0 (M.1 a1 0)) a0 1 ((hr_si M a0 0 (M.1 a1 0)).1 a1 1)) a0 2 ((hr_si (hr_si M a0 0 (M.1 a1 0)) a0 1 ((hr_si M a0 0 (M.1 a1 0)).1 a1 1)).1 a1 2)).1 (a0 + 1)) (0 : Int32).toNatClampNeg (0 : Int32).toNatClampNeg (Int32.ofNat (hr_N (a0 + 1))).toNatClampNeg)).1 (a0 + 2)) (0 : Int32).toNatClampNeg (0 : Int32).toNatClampNeg (Int32.ofNat (hr_N (a0 + 2))).toNatClampNeg)).1 (a1 + 3)) ((hr_sr (hr_sr (hr_si (hr_si (hr_si M a0 0 (M.1 a1 0)) a0 1 ((hr_si M a0 0 (M.1 a1 0)).1 a1 1)) a0 2 ((hr_si (hr_si M a0 0 (M.1 a1 0)) a0 1 ((hr_si M a0 0 (M.1 a1 0)).1 a1 1)).1 a1 2)) (a0 + 1) (va_cpy ((hr_si (hr_si (hr_si M a0 0 (M.1 a1 0)) a0 1 ((hr_si M a0 0 (M.1 a1 0)).1 a1 1)) a0 2 ((hr_si (hr_si M a0 0 (M.1 a1 0)) a0 1 ((hr_si M a0 0 (M.1 a1 0)).1 a1 1)).1 a1 2)).1 (a1 + 1)) ((hr_si (hr_si (hr_si M a0 0 (M.1 a1 0)) a0 1 ((hr_si M a0 0 (M.1 a1 0)).1 a1 1)) a0 2 ((hr_si (hr_si M a0 0 (M.1 a1 0)) a0 1 ((hr_si M a0 0 (M.1 a1 0)).1 a1 1)).1 a1 2)).1 (a0 + 1)) (0 : Int32).toNatClampNeg (0 : Int32).toNatClampNeg (Int32.ofNat (hr_N (a0 + 1))).toNatClampNeg)) (a0 + 2) (va_cpy ((hr_sr (hr_si (hr_si (hr_si M a0 0 (M.1 a1 0)) a0 1 ((hr_si M a0 0 (M.1 a1 0)).1 a1 1)) a0 2 ((hr_si (hr_si M a0 0 (M.1 a1 0)) a0 1 ((hr_si M a0 0 (M.1 a1 0)).1 a1 1)).1 a1 2)) (a0 + 1) (va_cpy ((hr_si (hr_si (hr_si M a0 0 (M.1 a1 0)) a0 1 ((hr_si M a0 0 (M.1 a1 0)).1 a1 1)) a0 2 ((hr_si (hr_si M a0 0 (M.1 a1 0)) a0 1 ((hr_si M a0 0 (M.1 a1 0)).1 a1 1)).1 a1 2)).1 (a1 + 1)) ((hr_si (hr_si (hr_si M a0 0 (M.1 a1 0)) a0 1 ((hr_si M a0 0 (M.1 a1 0)).1 a1 1)) a0 2 ((hr_si (hr_si M a0 0 (M.1 a1 0)) a0 1 ((hr_si M a0 0 (M.1 a1 0)).1 a1 1)).1 a1 2)).1 (a0 + 1)) (0 : Int32).toNatClampNeg (0 : Int32).toNatClampNeg (Int32.ofNat (hr_N (a0 + 1))).toNatClampNeg)).1 (a1 + 2)) ((hr_sr (hr_si (hr_si (hr_si M a0 0 (M.1 a1 0)) a0 1 ((hr_si M a0 0 (M.1 a1 0)).1 a1 1)) a0 2 ((hr_si (hr_si M a0 0 (M.1 a1 0)) a0 1 ((hr_si M a0 0 (M.1 a1 0)).1 a1 1)).1 a1 2)) (a0 + 1) (va_cpy ((hr_si (hr_si (hr_si M a0 0 (M.1 a1 0)) a0 1 ((hr_si M a0 0 (M.1 a1 0)).1 a1 1)) a0 2 ((hr_si (hr_si M a0 0 (M.1 a1 0)) a0 1 ((hr_si M a0 0 (M.1 a1 0)).1 a1 1)).1 a1 2)).1 (a1 + 1)) ((hr_si (hr_si (hr_si M a0 0 (M.1 a1 0)) a0 1 ((hr_si M a0 0 (M.1 a1 0)).1 a1 1)) a0 2 ((hr_si (hr_si M a0 0 (M.1 a1 0)) a0 1 ((hr_si M a0 0 (M.1 a1 0)).1 a1 1)).1 a1 2)).1 (a0 + 1)) (0 : Int32).toNatClampNeg (0 : Int32).toNatClampNeg (Int32.ofNat (hr_N (a0 + 1))).toNatClampNeg)).1 (a0 + 2)) (0 : Int32).toNatClampNeg (0 : Int32).toNatClampNeg (Int32.ofNat (hr_N (a0 + 2))).toNatClampNeg)).1 (a0 + 3)) (0 : Int32).toNatClampNeg (0 : Int32).toNatClampNeg (Int32.ofNat (hr_N (a0 + 3))).toNatClampNeg)) else none else none else none else none else none
theorem g_X6_copyFrom (a0 : Nat) (a1 : Nat) : ∀ (M : PM) (r : Unit × PM), f_X6_copyFrom a0 a1 M = some r → hr_G 93 0 [some (.ref a0), some (.ref a1)] [] M (none, r.2) := by
  intro M r h
  unfold f_X6_copyFrom at h
  refine hr_Fg h (fun ka0 h => ?_)
  refine hr_Fg h (fun ka1 h => ?_)
  refine hr_Fg h (fun hg1_0 h => ?_)
  refine hr_Fg h (fun hg1_1 h => ?_)
  refine hr_Fg h (fun hg1_2 h => ?_)
  refine hr_Grun mf_X6_copyFrom lb_X6_copyFrom_0 (P := hr_K a1 = 5 ∧ (hr_K a0 = 5 ∧ a0 < hr_n) ∧ hr_K a1 = 5 ∧ (hr_K a0 = 5 ∧ a0 < hr_n) ∧ hr_K a1 = 5 ∧ (hr_K a0 = 5 ∧ a0 < hr_n) ∧ hr_K a1 = 5 ∧ hr_K a0 = 5 ∧ hr_K a0 = 5 ∧ (11 ≤ hr_K (a0 + 1) ∧ hr_K (a0 + 1) ≤ 18) ∧ (((hr_K (a1 + 1) = 12 ∧ hr_K (a0 + 1) = 12) ∨ (hr_K (a1 + 1) = 11 ∧ hr_K (a0 + 1) = 11 ∧ ∀ i, i < (Int32.ofNat (hr_N (a0 + 1))).toNatClampNeg → fits .byte (.int ((hr_si (hr_si (hr_si M a0 0 (M.1 a1 0)) a0 1 ((hr_si M a0 0 (M.1 a1 0)).1 a1 1)) a0 2 ((hr_si (hr_si M a0 0 (M.1 a1 0)) a0 1 ((hr_si M a0 0 (M.1 a1 0)).1 a1 1)).1 a1 2)).1 (a1 + 1) ((0 : Int32).toNatClampNeg + i))) = true)) ∧ ((a0 + 1) < hr_n ∧ (a1 + 1) < hr_n) ∧ (¬ (0 : Int32) < 0 ∧ ¬ (0 : Int32) < 0 ∧ ¬ (Int32.ofNat (hr_N (a0 + 1))) < 0) ∧ (0 : Int32).toNatClampNeg + (Int32.ofNat (hr_N (a0 + 1))).toNatClampNeg ≤ hr_N (a1 + 1) ∧ (0 : Int32).toNatClampNeg + (Int32.ofNat (hr_N (a0 + 1))).toNatClampNeg ≤ hr_N (a0 + 1)) ∧ hr_K a1 = 5 ∧ hr_K a0 = 5 ∧ hr_K a0 = 5 ∧ (11 ≤ hr_K (a0 + 2) ∧ hr_K (a0 + 2) ≤ 18) ∧ (((hr_K (a1 + 2) = 12 ∧ hr_K (a0 + 2) = 12) ∨ (hr_K (a1 + 2) = 11 ∧ hr_K (a0 + 2) = 11 ∧ ∀ i, i < (Int32.ofNat (hr_N (a0 + 2))).toNatClampNeg → fits .byte (.int ((hr_sr (hr_si (hr_si (hr_si M a0 0 (M.1 a1 0)) a0 1 ((hr_si M a0 0 (M.1 a1 0)).1 a1 1)) a0 2 ((hr_si (hr_si M a0 0 (M.1 a1 0)) a0 1 ((hr_si M a0 0 (M.1 a1 0)).1 a1 1)).1 a1 2)) (a0 + 1) (va_cpy ((hr_si (hr_si (hr_si M a0 0 (M.1 a1 0)) a0 1 ((hr_si M a0 0 (M.1 a1 0)).1 a1 1)) a0 2 ((hr_si (hr_si M a0 0 (M.1 a1 0)) a0 1 ((hr_si M a0 0 (M.1 a1 0)).1 a1 1)).1 a1 2)).1 (a1 + 1)) ((hr_si (hr_si (hr_si M a0 0 (M.1 a1 0)) a0 1 ((hr_si M a0 0 (M.1 a1 0)).1 a1 1)) a0 2 ((hr_si (hr_si M a0 0 (M.1 a1 0)) a0 1 ((hr_si M a0 0 (M.1 a1 0)).1 a1 1)).1 a1 2)).1 (a0 + 1)) (0 : Int32).toNatClampNeg (0 : Int32).toNatClampNeg (Int32.ofNat (hr_N (a0 + 1))).toNatClampNeg)).1 (a1 + 2) ((0 : Int32).toNatClampNeg + i))) = true)) ∧ ((a0 + 2) < hr_n ∧ (a1 + 2) < hr_n) ∧ (¬ (0 : Int32) < 0 ∧ ¬ (0 : Int32) < 0 ∧ ¬ (Int32.ofNat (hr_N (a0 + 2))) < 0) ∧ (0 : Int32).toNatClampNeg + (Int32.ofNat (hr_N (a0 + 2))).toNatClampNeg ≤ hr_N (a1 + 2) ∧ (0 : Int32).toNatClampNeg + (Int32.ofNat (hr_N (a0 + 2))).toNatClampNeg ≤ hr_N (a0 + 2)) ∧ hr_K a1 = 5 ∧ hr_K a0 = 5 ∧ hr_K a0 = 5 ∧ (11 ≤ hr_K (a0 + 3) ∧ hr_K (a0 + 3) ≤ 18) ∧ (((hr_K (a1 + 3) = 12 ∧ hr_K (a0 + 3) = 12) ∨ (hr_K (a1 + 3) = 11 ∧ hr_K (a0 + 3) = 11 ∧ ∀ i, i < (Int32.ofNat (hr_N (a0 + 3))).toNatClampNeg → fits .byte (.int ((hr_sr (hr_sr (hr_si (hr_si (hr_si M a0 0 (M.1 a1 0)) a0 1 ((hr_si M a0 0 (M.1 a1 0)).1 a1 1)) a0 2 ((hr_si (hr_si M a0 0 (M.1 a1 0)) a0 1 ((hr_si M a0 0 (M.1 a1 0)).1 a1 1)).1 a1 2)) (a0 + 1) (va_cpy ((hr_si (hr_si (hr_si M a0 0 (M.1 a1 0)) a0 1 ((hr_si M a0 0 (M.1 a1 0)).1 a1 1)) a0 2 ((hr_si (hr_si M a0 0 (M.1 a1 0)) a0 1 ((hr_si M a0 0 (M.1 a1 0)).1 a1 1)).1 a1 2)).1 (a1 + 1)) ((hr_si (hr_si (hr_si M a0 0 (M.1 a1 0)) a0 1 ((hr_si M a0 0 (M.1 a1 0)).1 a1 1)) a0 2 ((hr_si (hr_si M a0 0 (M.1 a1 0)) a0 1 ((hr_si M a0 0 (M.1 a1 0)).1 a1 1)).1 a1 2)).1 (a0 + 1)) (0 : Int32).toNatClampNeg (0 : Int32).toNatClampNeg (Int32.ofNat (hr_N (a0 + 1))).toNatClampNeg)) (a0 + 2) (va_cpy ((hr_sr (hr_si (hr_si (hr_si M a0 0 (M.1 a1 0)) a0 1 ((hr_si M a0 0 (M.1 a1 0)).1 a1 1)) a0 2 ((hr_si (hr_si M a0 0 (M.1 a1 0)) a0 1 ((hr_si M a0 0 (M.1 a1 0)).1 a1 1)).1 a1 2)) (a0 + 1) (va_cpy ((hr_si (hr_si (hr_si M a0 0 (M.1 a1 0)) a0 1 ((hr_si M a0 0 (M.1 a1 0)).1 a1 1)) a0 2 ((hr_si (hr_si M a0 0 (M.1 a1 0)) a0 1 ((hr_si M a0 0 (M.1 a1 0)).1 a1 1)).1 a1 2)).1 (a1 + 1)) ((hr_si (hr_si (hr_si M a0 0 (M.1 a1 0)) a0 1 ((hr_si M a0 0 (M.1 a1 0)).1 a1 1)) a0 2 ((hr_si (hr_si M a0 0 (M.1 a1 0)) a0 1 ((hr_si M a0 0 (M.1 a1 0)).1 a1 1)).1 a1 2)).1 (a0 + 1)) (0 : Int32).toNatClampNeg (0 : Int32).toNatClampNeg (Int32.ofNat (hr_N (a0 + 1))).toNatClampNeg)).1 (a1 + 2)) ((hr_sr (hr_si (hr_si (hr_si M a0 0 (M.1 a1 0)) a0 1 ((hr_si M a0 0 (M.1 a1 0)).1 a1 1)) a0 2 ((hr_si (hr_si M a0 0 (M.1 a1 0)) a0 1 ((hr_si M a0 0 (M.1 a1 0)).1 a1 1)).1 a1 2)) (a0 + 1) (va_cpy ((hr_si (hr_si (hr_si M a0 0 (M.1 a1 0)) a0 1 ((hr_si M a0 0 (M.1 a1 0)).1 a1 1)) a0 2 ((hr_si (hr_si M a0 0 (M.1 a1 0)) a0 1 ((hr_si M a0 0 (M.1 a1 0)).1 a1 1)).1 a1 2)).1 (a1 + 1)) ((hr_si (hr_si (hr_si M a0 0 (M.1 a1 0)) a0 1 ((hr_si M a0 0 (M.1 a1 0)).1 a1 1)) a0 2 ((hr_si (hr_si M a0 0 (M.1 a1 0)) a0 1 ((hr_si M a0 0 (M.1 a1 0)).1 a1 1)).1 a1 2)).1 (a0 + 1)) (0 : Int32).toNatClampNeg (0 : Int32).toNatClampNeg (Int32.ofNat (hr_N (a0 + 1))).toNatClampNeg)).1 (a0 + 2)) (0 : Int32).toNatClampNeg (0 : Int32).toNatClampNeg (Int32.ofNat (hr_N (a0 + 2))).toNatClampNeg)).1 (a1 + 3) ((0 : Int32).toNatClampNeg + i))) = true)) ∧ ((a0 + 3) < hr_n ∧ (a1 + 3) < hr_n) ∧ (¬ (0 : Int32) < 0 ∧ ¬ (0 : Int32) < 0 ∧ ¬ (Int32.ofNat (hr_N (a0 + 3))) < 0) ∧ (0 : Int32).toNatClampNeg + (Int32.ofNat (hr_N (a0 + 3))).toNatClampNeg ≤ hr_N (a1 + 3) ∧ (0 : Int32).toNatClampNeg + (Int32.ofNat (hr_N (a0 + 3))).toNatClampNeg ≤ hr_N (a0 + 3)) ∧ True) (pc' := 78) (ls' := [some (.ref a0), some (.ref a1)]) (st' := []) (M' := hr_sr (hr_sr (hr_sr (hr_si (hr_si (hr_si M a0 0 (M.1 a1 0)) a0 1 ((hr_si M a0 0 (M.1 a1 0)).1 a1 1)) a0 2 ((hr_si (hr_si M a0 0 (M.1 a1 0)) a0 1 ((hr_si M a0 0 (M.1 a1 0)).1 a1 1)).1 a1 2)) (a0 + 1) (va_cpy ((hr_si (hr_si (hr_si M a0 0 (M.1 a1 0)) a0 1 ((hr_si M a0 0 (M.1 a1 0)).1 a1 1)) a0 2 ((hr_si (hr_si M a0 0 (M.1 a1 0)) a0 1 ((hr_si M a0 0 (M.1 a1 0)).1 a1 1)).1 a1 2)).1 (a1 + 1)) ((hr_si (hr_si (hr_si M a0 0 (M.1 a1 0)) a0 1 ((hr_si M a0 0 (M.1 a1 0)).1 a1 1)) a0 2 ((hr_si (hr_si M a0 0 (M.1 a1 0)) a0 1 ((hr_si M a0 0 (M.1 a1 0)).1 a1 1)).1 a1 2)).1 (a0 + 1)) (0 : Int32).toNatClampNeg (0 : Int32).toNatClampNeg (Int32.ofNat (hr_N (a0 + 1))).toNatClampNeg)) (a0 + 2) (va_cpy ((hr_sr (hr_si (hr_si (hr_si M a0 0 (M.1 a1 0)) a0 1 ((hr_si M a0 0 (M.1 a1 0)).1 a1 1)) a0 2 ((hr_si (hr_si M a0 0 (M.1 a1 0)) a0 1 ((hr_si M a0 0 (M.1 a1 0)).1 a1 1)).1 a1 2)) (a0 + 1) (va_cpy ((hr_si (hr_si (hr_si M a0 0 (M.1 a1 0)) a0 1 ((hr_si M a0 0 (M.1 a1 0)).1 a1 1)) a0 2 ((hr_si (hr_si M a0 0 (M.1 a1 0)) a0 1 ((hr_si M a0 0 (M.1 a1 0)).1 a1 1)).1 a1 2)).1 (a1 + 1)) ((hr_si (hr_si (hr_si M a0 0 (M.1 a1 0)) a0 1 ((hr_si M a0 0 (M.1 a1 0)).1 a1 1)) a0 2 ((hr_si (hr_si M a0 0 (M.1 a1 0)) a0 1 ((hr_si M a0 0 (M.1 a1 0)).1 a1 1)).1 a1 2)).1 (a0 + 1)) (0 : Int32).toNatClampNeg (0 : Int32).toNatClampNeg (Int32.ofNat (hr_N (a0 + 1))).toNatClampNeg)).1 (a1 + 2)) ((hr_sr (hr_si (hr_si (hr_si M a0 0 (M.1 a1 0)) a0 1 ((hr_si M a0 0 (M.1 a1 0)).1 a1 1)) a0 2 ((hr_si (hr_si M a0 0 (M.1 a1 0)) a0 1 ((hr_si M a0 0 (M.1 a1 0)).1 a1 1)).1 a1 2)) (a0 + 1) (va_cpy ((hr_si (hr_si (hr_si M a0 0 (M.1 a1 0)) a0 1 ((hr_si M a0 0 (M.1 a1 0)).1 a1 1)) a0 2 ((hr_si (hr_si M a0 0 (M.1 a1 0)) a0 1 ((hr_si M a0 0 (M.1 a1 0)).1 a1 1)).1 a1 2)).1 (a1 + 1)) ((hr_si (hr_si (hr_si M a0 0 (M.1 a1 0)) a0 1 ((hr_si M a0 0 (M.1 a1 0)).1 a1 1)) a0 2 ((hr_si (hr_si M a0 0 (M.1 a1 0)) a0 1 ((hr_si M a0 0 (M.1 a1 0)).1 a1 1)).1 a1 2)).1 (a0 + 1)) (0 : Int32).toNatClampNeg (0 : Int32).toNatClampNeg (Int32.ofNat (hr_N (a0 + 1))).toNatClampNeg)).1 (a0 + 2)) (0 : Int32).toNatClampNeg (0 : Int32).toNatClampNeg (Int32.ofNat (hr_N (a0 + 2))).toNatClampNeg)) (a0 + 3) (va_cpy ((hr_sr (hr_sr (hr_si (hr_si (hr_si M a0 0 (M.1 a1 0)) a0 1 ((hr_si M a0 0 (M.1 a1 0)).1 a1 1)) a0 2 ((hr_si (hr_si M a0 0 (M.1 a1 0)) a0 1 ((hr_si M a0 0 (M.1 a1 0)).1 a1 1)).1 a1 2)) (a0 + 1) (va_cpy ((hr_si (hr_si (hr_si M a0 0 (M.1 a1 0)) a0 1 ((hr_si M a0 0 (M.1 a1 0)).1 a1 1)) a0 2 ((hr_si (hr_si M a0 0 (M.1 a1 0)) a0 1 ((hr_si M a0 0 (M.1 a1 0)).1 a1 1)).1 a1 2)).1 (a1 + 1)) ((hr_si (hr_si (hr_si M a0 0 (M.1 a1 0)) a0 1 ((hr_si M a0 0 (M.1 a1 0)).1 a1 1)) a0 2 ((hr_si (hr_si M a0 0 (M.1 a1 0)) a0 1 ((hr_si M a0 0 (M.1 a1 0)).1 a1 1)).1 a1 2)).1 (a0 + 1)) (0 : Int32).toNatClampNeg (0 : Int32).toNatClampNeg (Int32.ofNat (hr_N (a0 + 1))).toNatClampNeg)) (a0 + 2) (va_cpy ((hr_sr (hr_si (hr_si (hr_si M a0 0 (M.1 a1 0)) a0 1 ((hr_si M a0 0 (M.1 a1 0)).1 a1 1)) a0 2 ((hr_si (hr_si M a0 0 (M.1 a1 0)) a0 1 ((hr_si M a0 0 (M.1 a1 0)).1 a1 1)).1 a1 2)) (a0 + 1) (va_cpy ((hr_si (hr_si (hr_si M a0 0 (M.1 a1 0)) a0 1 ((hr_si M a0 0 (M.1 a1 0)).1 a1 1)) a0 2 ((hr_si (hr_si M a0 0 (M.1 a1 0)) a0 1 ((hr_si M a0 0 (M.1 a1 0)).1 a1 1)).1 a1 2)).1 (a1 + 1)) ((hr_si (hr_si (hr_si M a0 0 (M.1 a1 0)) a0 1 ((hr_si M a0 0 (M.1 a1 0)).1 a1 1)) a0 2 ((hr_si (hr_si M a0 0 (M.1 a1 0)) a0 1 ((hr_si M a0 0 (M.1 a1 0)).1 a1 1)).1 a1 2)).1 (a0 + 1)) (0 : Int32).toNatClampNeg (0 : Int32).toNatClampNeg (Int32.ofNat (hr_N (a0 + 1))).toNatClampNeg)).1 (a1 + 2)) ((hr_sr (hr_si (hr_si (hr_si M a0 0 (M.1 a1 0)) a0 1 ((hr_si M a0 0 (M.1 a1 0)).1 a1 1)) a0 2 ((hr_si (hr_si M a0 0 (M.1 a1 0)) a0 1 ((hr_si M a0 0 (M.1 a1 0)).1 a1 1)).1 a1 2)) (a0 + 1) (va_cpy ((hr_si (hr_si (hr_si M a0 0 (M.1 a1 0)) a0 1 ((hr_si M a0 0 (M.1 a1 0)).1 a1 1)) a0 2 ((hr_si (hr_si M a0 0 (M.1 a1 0)) a0 1 ((hr_si M a0 0 (M.1 a1 0)).1 a1 1)).1 a1 2)).1 (a1 + 1)) ((hr_si (hr_si (hr_si M a0 0 (M.1 a1 0)) a0 1 ((hr_si M a0 0 (M.1 a1 0)).1 a1 1)) a0 2 ((hr_si (hr_si M a0 0 (M.1 a1 0)) a0 1 ((hr_si M a0 0 (M.1 a1 0)).1 a1 1)).1 a1 2)).1 (a0 + 1)) (0 : Int32).toNatClampNeg (0 : Int32).toNatClampNeg (Int32.ofNat (hr_N (a0 + 1))).toNatClampNeg)).1 (a0 + 2)) (0 : Int32).toNatClampNeg (0 : Int32).toNatClampNeg (Int32.ofNat (hr_N (a0 + 2))).toNatClampNeg)).1 (a1 + 3)) ((hr_sr (hr_sr (hr_si (hr_si (hr_si M a0 0 (M.1 a1 0)) a0 1 ((hr_si M a0 0 (M.1 a1 0)).1 a1 1)) a0 2 ((hr_si (hr_si M a0 0 (M.1 a1 0)) a0 1 ((hr_si M a0 0 (M.1 a1 0)).1 a1 1)).1 a1 2)) (a0 + 1) (va_cpy ((hr_si (hr_si (hr_si M a0 0 (M.1 a1 0)) a0 1 ((hr_si M a0 0 (M.1 a1 0)).1 a1 1)) a0 2 ((hr_si (hr_si M a0 0 (M.1 a1 0)) a0 1 ((hr_si M a0 0 (M.1 a1 0)).1 a1 1)).1 a1 2)).1 (a1 + 1)) ((hr_si (hr_si (hr_si M a0 0 (M.1 a1 0)) a0 1 ((hr_si M a0 0 (M.1 a1 0)).1 a1 1)) a0 2 ((hr_si (hr_si M a0 0 (M.1 a1 0)) a0 1 ((hr_si M a0 0 (M.1 a1 0)).1 a1 1)).1 a1 2)).1 (a0 + 1)) (0 : Int32).toNatClampNeg (0 : Int32).toNatClampNeg (Int32.ofNat (hr_N (a0 + 1))).toNatClampNeg)) (a0 + 2) (va_cpy ((hr_sr (hr_si (hr_si (hr_si M a0 0 (M.1 a1 0)) a0 1 ((hr_si M a0 0 (M.1 a1 0)).1 a1 1)) a0 2 ((hr_si (hr_si M a0 0 (M.1 a1 0)) a0 1 ((hr_si M a0 0 (M.1 a1 0)).1 a1 1)).1 a1 2)) (a0 + 1) (va_cpy ((hr_si (hr_si (hr_si M a0 0 (M.1 a1 0)) a0 1 ((hr_si M a0 0 (M.1 a1 0)).1 a1 1)) a0 2 ((hr_si (hr_si M a0 0 (M.1 a1 0)) a0 1 ((hr_si M a0 0 (M.1 a1 0)).1 a1 1)).1 a1 2)).1 (a1 + 1)) ((hr_si (hr_si (hr_si M a0 0 (M.1 a1 0)) a0 1 ((hr_si M a0 0 (M.1 a1 0)).1 a1 1)) a0 2 ((hr_si (hr_si M a0 0 (M.1 a1 0)) a0 1 ((hr_si M a0 0 (M.1 a1 0)).1 a1 1)).1 a1 2)).1 (a0 + 1)) (0 : Int32).toNatClampNeg (0 : Int32).toNatClampNeg (Int32.ofNat (hr_N (a0 + 1))).toNatClampNeg)).1 (a1 + 2)) ((hr_sr (hr_si (hr_si (hr_si M a0 0 (M.1 a1 0)) a0 1 ((hr_si M a0 0 (M.1 a1 0)).1 a1 1)) a0 2 ((hr_si (hr_si M a0 0 (M.1 a1 0)) a0 1 ((hr_si M a0 0 (M.1 a1 0)).1 a1 1)).1 a1 2)) (a0 + 1) (va_cpy ((hr_si (hr_si (hr_si M a0 0 (M.1 a1 0)) a0 1 ((hr_si M a0 0 (M.1 a1 0)).1 a1 1)) a0 2 ((hr_si (hr_si M a0 0 (M.1 a1 0)) a0 1 ((hr_si M a0 0 (M.1 a1 0)).1 a1 1)).1 a1 2)).1 (a1 + 1)) ((hr_si (hr_si (hr_si M a0 0 (M.1 a1 0)) a0 1 ((hr_si M a0 0 (M.1 a1 0)).1 a1 1)) a0 2 ((hr_si (hr_si M a0 0 (M.1 a1 0)) a0 1 ((hr_si M a0 0 (M.1 a1 0)).1 a1 1)).1 a1 2)).1 (a0 + 1)) (0 : Int32).toNatClampNeg (0 : Int32).toNatClampNeg (Int32.ofNat (hr_N (a0 + 1))).toNatClampNeg)).1 (a0 + 2)) (0 : Int32).toNatClampNeg (0 : Int32).toNatClampNeg (Int32.ofNat (hr_N (a0 + 2))).toNatClampNeg)).1 (a0 + 3)) (0 : Int32).toNatClampNeg (0 : Int32).toNatClampNeg (Int32.ofNat (hr_N (a0 + 3))).toNatClampNeg)) rfl rfl ⟨ka1, ⟨ka0, (hr_dk ka0 (by decide))⟩, ka1, ⟨ka0, (hr_dk ka0 (by decide))⟩, ka1, ⟨ka0, (hr_dk ka0 (by decide))⟩, ka1, ka0, ka0, (hr_11 (kf_5_3 ka0).1 (by decide)), ⟨Or.inl ⟨(kf_5_3 ka1).1, (kf_5_3 ka0).1⟩, ⟨(kf_5_3 ka0).2.2, (kf_5_3 ka1).2.2⟩, hg1_0.1, hg1_0.2.1, hg1_0.2.2⟩, ka1, ka0, ka0, (hr_11 (kf_5_4 ka0).1 (by decide)), ⟨Or.inl ⟨(kf_5_4 ka1).1, (kf_5_4 ka0).1⟩, ⟨(kf_5_4 ka0).2.2, (kf_5_4 ka1).2.2⟩, hg1_1.1, hg1_1.2.1, hg1_1.2.2⟩, ka1, ka0, ka0, (hr_11 (kf_5_5 ka0).1 (by decide)), ⟨Or.inl ⟨(kf_5_5 ka1).1, (kf_5_5 ka0).1⟩, ⟨(kf_5_5 ka0).2.2, (kf_5_5 ka1).2.2⟩, hg1_2.1, hg1_2.2.1, hg1_2.2.2⟩, trivial⟩ ?_
  cases h
  exact hr_Gret mf_X6_copyFrom lb_X6_copyFrom_78 rfl rfl trivial
theorem mf_X7_waysBehind : hr_mf 96 7 1 (some .long) 9 4 bk_X7_waysBehind := ⟨rfl, rfl, rfl, rfl, rfl, rfl⟩
theorem lb_X7_waysBehind_0 : bk_X7_waysBehind.lookup 0 = some [(.aload_n 2, 1), (.getfield 37, 3), (.iload_n 3, 1), (.iconst 1, 1), (.iadd, 1), (.iaload, 1), (.aload_n 1, 1), (.iload 4, 2)] := rfl
theorem lb_X7_waysBehind_11 : bk_X7_waysBehind.lookup 11 = some [(.invokevirtual 60, 3)] := rfl
theorem lb_X7_waysBehind_14 : bk_X7_waysBehind.lookup 14 = some [(.iconst (-1), 1), (.ixor, 1), (.iand, 1), (.istore 5, 2), (.lconst 0, 1), (.lstore 6, 2), (.iconst 0, 1), (.istore 8, 2)] := rfl
theorem lb_X7_waysBehind_25 : bk_X7_waysBehind.lookup 25 = some [(.iload 8, 2), (.aload_n 1, 1), (.getfield 32, 3), (.if_icmp .ge 38, 3)] := rfl
theorem lb_X7_waysBehind_34 : bk_X7_waysBehind.lookup 34 = some [(.iload 5, 2), (.iload 8, 2)] := rfl
theorem lb_X7_waysBehind_38 : bk_X7_waysBehind.lookup 38 = some [(.invokestatic 40, 3)] := rfl
theorem lb_X7_waysBehind_41 : bk_X7_waysBehind.lookup 41 = some [(.ifCond .eq 22, 3)] := rfl
theorem lb_X7_waysBehind_44 : bk_X7_waysBehind.lookup 44 = some [(.lload 6, 2), (.aload_n 0, 1), (.getfield 9, 3), (.bipush 10, 2), (.iload_n 3, 1), (.iconst 1, 1), (.iadd, 1), (.imul, 1), (.iload 8, 2), (.iadd, 1), (.laload, 1), (.ladd, 1), (.lstore 6, 2)] := rfl
theorem lb_X7_waysBehind_63 : bk_X7_waysBehind.lookup 63 = some [(.iinc 8 1, 3), (.goto (-41), 3)] := rfl
theorem lb_X7_waysBehind_69 : bk_X7_waysBehind.lookup 69 = some [(.lload 6, 2)] := rfl
theorem lb_X7_waysBehind_71 : bk_X7_waysBehind.lookup 71 = some [(.lreturn, 1)] := rfl
def f_X7_waysBehind_25 (a1 : Nat) (a2 : Nat) (a3 : Int32) (a4 : Int32) : Nat → Int32 → Int64 → Int32 → PM → Option (Int64 × PM)
  | 0, _, _, _, _ => none
  | f + 1, x5, x6, x8, M =>
    if (M.1 a1 0) ≤ x8 then
      some (x6, M)
    else
      hr_bd (f_X10_holdsBit x5 x8 M) (fun v4 M4 =>
      if v4 = 0 then
        f_X7_waysBehind_25 a1 a2 a3 a4 f x5 x6 (x8 + 1) M4
      else
        if inB ((10 * (a3 + 1)) + x8) 80 = true then 
        f_X7_waysBehind_25 a1 a2 a3 a4 f x5 (x6 + (M4.2.1 272 ((10 * (a3 + 1)) + x8).toNatClampNeg)) (x8 + 1) M4 else none)
theorem g_X7_waysBehind_25 (a1 : Nat) (a2 : Nat) (a3 : Int32) (a4 : Int32) (ka1 : hr_K a1 = 3) (ka2 : hr_K a2 = 5) : ∀ (f : Nat) (x5 : Int32) (x6 : Int64) (x8 : Int32) (M : PM) (r : Int64 × PM), f_X7_waysBehind_25 a1 a2 a3 a4 f x5 x6 x8 M = some r → hr_G 96 25 [some (.ref 271), some (.ref a1), none, some (.int a3), none, some (.int x5), some (.long x6), none, some (.int x8)] [] M (some (.long r.1), r.2) := by
  intro f
  induction f with
  | zero => intro x5 x6 x8 M r h; cases h
  | succ f ih =>
    intro x5 x6 x8 M r h
    rw [f_X7_waysBehind_25.eq_2] at h
    refine hr_Grun mf_X7_waysBehind lb_X7_waysBehind_25 (P := hr_K a1 = 3 ∧ True) (pc' := if (M.1 a1 0) ≤ x8 then 69 else 34) (ls' := [some (.ref 271), some (.ref a1), none, some (.int a3), none, some (.int x5), some (.long x6), none, some (.int x8)]) (st' := []) (M' := M) rfl rfl ⟨ka1, trivial⟩ ?_
    refine hr_Gif h (fun _ h => ?_) (fun _ h => ?_)
    · refine hr_Grun mf_X7_waysBehind lb_X7_waysBehind_69 (P := True) (pc' := 71) (ls' := [some (.ref 271), some (.ref a1), none, some (.int a3), none, some (.int x5), some (.long x6), none, some (.int x8)]) (st' := [.long x6]) (M' := M) rfl rfl trivial ?_
      cases h
      exact hr_Gret mf_X7_waysBehind lb_X7_waysBehind_71 rfl rfl trivial
    · refine hr_Grun mf_X7_waysBehind lb_X7_waysBehind_34 (P := True) (pc' := 38) (ls' := [some (.ref 271), some (.ref a1), none, some (.int a3), none, some (.int x5), some (.long x6), none, some (.int x8)]) (st' := [.int x8, .int x5]) (M' := M) rfl rfl trivial ?_
      refine hr_Fb h (fun v4 M4 e4 h => ?_)
      refine hr_Gcs mf_X7_waysBehind mf_X10_holdsBit lb_X7_waysBehind_38 (as := [.int x5, .int x8]) (rest := []) (st2 := [.int v4]) (v := some (.int v4)) (M1 := M4) rfl rfl rfl rfl rfl rfl (g_X10_holdsBit x5 x8 _ _ e4) rfl rfl ?_
      refine hr_Grun mf_X7_waysBehind lb_X7_waysBehind_41 (P := True) (pc' := if v4 = 0 then 63 else 44) (ls' := [some (.ref 271), some (.ref a1), none, some (.int a3), none, some (.int x5), some (.long x6), none, some (.int x8)]) (st' := []) (M' := M4) rfl rfl trivial ?_
      refine hr_Gif h (fun _ h => ?_) (fun _ h => ?_)
      · refine hr_Grun mf_X7_waysBehind lb_X7_waysBehind_63 (P := True) (pc' := 25) (ls' := [some (.ref 271), some (.ref a1), none, some (.int a3), none, some (.int x5), some (.long x6), none, some (.int (x8 + 1))]) (st' := []) (M' := M4) rfl rfl trivial ?_
        exact ih x5 x6 (x8 + 1) M4 _ h
      · refine hr_Fg h (fun hg7_0 h => ?_)
        refine hr_Grun mf_X7_waysBehind lb_X7_waysBehind_44 (P := hr_K 271 = 6 ∧ (hr_K 272 = 13 ∧ vp_in ((10 * (a3 + 1)) + x8) (hr_N 272)) ∧ True) (pc' := 63) (ls' := [some (.ref 271), some (.ref a1), none, some (.int a3), none, some (.int x5), some (.long (x6 + (M4.2.1 272 ((10 * (a3 + 1)) + x8).toNatClampNeg))), none, some (.int x8)]) (st' := []) (M' := M4) rfl rfl ⟨K_271, ⟨K_272, (inB_N N_272 hg7_0)⟩, trivial⟩ ?_
        refine hr_Grun mf_X7_waysBehind lb_X7_waysBehind_63 (P := True) (pc' := 25) (ls' := [some (.ref 271), some (.ref a1), none, some (.int a3), none, some (.int x5), some (.long (x6 + (M4.2.1 272 ((10 * (a3 + 1)) + x8).toNatClampNeg))), none, some (.int (x8 + 1))]) (st' := []) (M' := M4) rfl rfl trivial ?_
        exact ih x5 (x6 + (M4.2.1 272 ((10 * (a3 + 1)) + x8).toNatClampNeg)) (x8 + 1) M4 _ h
def f_X7_waysBehind (a1 : Nat) (a2 : Nat) (a3 : Int32) (a4 : Int32) (M : PM) : Option (Int64 × PM) :=
  if hr_K a1 = 3 then if hr_K a2 = 5 then if inB (a3 + 1) 40 = true then 
  hr_bd (f_X4_foesOf a1 a4 M) (fun v2 M2 =>
  f_X7_waysBehind_25 a1 a2 a3 a4 FU ((M.1 (a2 + 2) (a3 + 1).toNatClampNeg) &&& (v2 ^^^ (-1))) 0 0 M2) else none else none else none
theorem g_X7_waysBehind (a1 : Nat) (a2 : Nat) (a3 : Int32) (a4 : Int32) : ∀ (M : PM) (r : Int64 × PM), f_X7_waysBehind a1 a2 a3 a4 M = some r → hr_G 96 0 [some (.ref 271), some (.ref a1), some (.ref a2), some (.int a3), some (.int a4), none, none, none, none] [] M (some (.long r.1), r.2) := by
  intro M r h
  unfold f_X7_waysBehind at h
  refine hr_Fg h (fun ka1 h => ?_)
  refine hr_Fg h (fun ka2 h => ?_)
  refine hr_Fg h (fun hg1_0 h => ?_)
  refine hr_Grun mf_X7_waysBehind lb_X7_waysBehind_0 (P := hr_K a2 = 5 ∧ (hr_K (a2 + 2) = 12 ∧ vp_in (a3 + 1) (hr_N (a2 + 2))) ∧ True) (pc' := 11) (ls' := [some (.ref 271), some (.ref a1), some (.ref a2), some (.int a3), some (.int a4), none, none, none, none]) (st' := [.int a4, .ref a1, .int (M.1 (a2 + 2) (a3 + 1).toNatClampNeg)]) (M' := M) rfl rfl ⟨ka2, ⟨(kf_5_4 ka2).1, (inB_N (kf_5_4 ka2).2.1 hg1_0)⟩, trivial⟩ ?_
  refine hr_Fb h (fun v2 M2 e2 h => ?_)
  refine hr_Gcv mf_X7_waysBehind mf_X4_foesOf lb_X7_waysBehind_11 (b := a1) (as := [.int a4]) (rest := [.int (M.1 (a2 + 2) (a3 + 1).toNatClampNeg)]) (st2 := [.int v2, .int (M.1 (a2 + 2) (a3 + 1).toNatClampNeg)]) (v := some (.int v2)) (M1 := M2) rfl rfl rfl rfl rfl rfl ka1 (g_X4_foesOf a1 a4 _ _ e2) rfl rfl ?_
  refine hr_Grun mf_X7_waysBehind lb_X7_waysBehind_14 (P := True) (pc' := 25) (ls' := [some (.ref 271), some (.ref a1), some (.ref a2), some (.int a3), some (.int a4), some (.int ((M.1 (a2 + 2) (a3 + 1).toNatClampNeg) &&& (v2 ^^^ (-1)))), some (.long 0), none, some (.int 0)]) (st' := []) (M' := M2) rfl rfl trivial ?_
  refine hr_Gle (ls := [some (.ref 271), some (.ref a1), none, some (.int a3), none, some (.int ((M.1 (a2 + 2) (a3 + 1).toNatClampNeg) &&& (v2 ^^^ (-1)))), some (.long 0), none, some (.int 0)]) (hr_le_s (hr_le_s (hr_le_n (hr_le_s (hr_le_n (hr_le_s (hr_le_s (hr_le_n (hr_le_s hr_le_0))))))))) ?_
  exact g_X7_waysBehind_25 a1 a2 a3 a4 ka1 ka2 FU ((M.1 (a2 + 2) (a3 + 1).toNatClampNeg) &&& (v2 ^^^ (-1))) 0 0 M2 _ h
theorem mf_X7_waysBegunBy : hr_mf 95 7 2 (some .long) 7 3 bk_X7_waysBegunBy := ⟨rfl, rfl, rfl, rfl, rfl, rfl⟩
theorem lb_X7_waysBegunBy_0 : bk_X7_waysBegunBy.lookup 0 = some [(.aload_n 2, 1), (.getfield 26, 3), (.iconst 1, 1), (.isub, 1), (.istore 4, 2), (.iload 4, 2), (.ifCond .ne 5, 3)] := rfl
theorem lb_X7_waysBegunBy_13 : bk_X7_waysBegunBy.lookup 13 = some [(.lconst 1, 1)] := rfl
theorem lb_X7_waysBegunBy_14 : bk_X7_waysBegunBy.lookup 14 = some [(.lreturn, 1)] := rfl
theorem lb_X7_waysBegunBy_15 : bk_X7_waysBegunBy.lookup 15 = some [(.iconst 0, 1), (.istore 5, 2)] := rfl
theorem lb_X7_waysBegunBy_18 : bk_X7_waysBegunBy.lookup 18 = some [(.iload 5, 2), (.aload_n 1, 1), (.getfield 32, 3), (.if_icmp .ge 37, 3)] := rfl
theorem lb_X7_waysBegunBy_27 : bk_X7_waysBegunBy.lookup 27 = some [(.aload_n 0, 1), (.getfield 9, 3), (.bipush 10, 2), (.iload 4, 2), (.imul, 1), (.iload 5, 2), (.iadd, 1), (.aload_n 1, 1), (.iload 5, 2), (.iload_n 3, 1)] := rfl
theorem lb_X7_waysBegunBy_43 : bk_X7_waysBegunBy.lookup 43 = some [(.invokevirtual 52, 3)] := rfl
theorem lb_X7_waysBegunBy_46 : bk_X7_waysBegunBy.lookup 46 = some [(.ifCond .le 7, 3)] := rfl
theorem lb_X7_waysBegunBy_49 : bk_X7_waysBegunBy.lookup 49 = some [(.lconst 0, 1), (.goto 4, 3)] := rfl
theorem lb_X7_waysBegunBy_53 : bk_X7_waysBegunBy.lookup 53 = some [(.lconst 1, 1)] := rfl
theorem lb_X7_waysBegunBy_54 : bk_X7_waysBegunBy.lookup 54 = some [(.lastore, 1), (.iinc 5 1, 3), (.goto (-40), 3)] := rfl
theorem lb_X7_waysBegunBy_61 : bk_X7_waysBegunBy.lookup 61 = some [(.iload 4, 2), (.iconst 1, 1), (.isub, 1), (.istore 5, 2)] := rfl
theorem lb_X7_waysBegunBy_67 : bk_X7_waysBegunBy.lookup 67 = some [(.iload 5, 2), (.ifCond .le 50, 3)] := rfl
theorem lb_X7_waysBegunBy_72 : bk_X7_waysBegunBy.lookup 72 = some [(.iconst 0, 1), (.istore 6, 2)] := rfl
theorem lb_X7_waysBegunBy_75 : bk_X7_waysBegunBy.lookup 75 = some [(.iload 6, 2), (.aload_n 1, 1), (.getfield 32, 3), (.if_icmp .ge 32, 3)] := rfl
theorem lb_X7_waysBegunBy_84 : bk_X7_waysBegunBy.lookup 84 = some [(.aload_n 0, 1), (.getfield 9, 3), (.bipush 10, 2), (.iload 5, 2), (.imul, 1), (.iload 6, 2), (.iadd, 1), (.aload_n 0, 1), (.aload_n 1, 1), (.aload_n 2, 1), (.iload 5, 2), (.iload 6, 2)] := rfl
theorem lb_X7_waysBegunBy_103 : bk_X7_waysBegunBy.lookup 103 = some [(.invokevirtual 56, 3)] := rfl
theorem lb_X7_waysBegunBy_106 : bk_X7_waysBegunBy.lookup 106 = some [(.lastore, 1), (.iinc 6 1, 3), (.goto (-35), 3)] := rfl
theorem lb_X7_waysBegunBy_113 : bk_X7_waysBegunBy.lookup 113 = some [(.iinc 5 (-1), 3), (.goto (-49), 3)] := rfl
theorem lb_X7_waysBegunBy_119 : bk_X7_waysBegunBy.lookup 119 = some [(.aload_n 0, 1), (.aload_n 1, 1), (.aload_n 2, 1), (.iconst 0, 1), (.iload_n 3, 1)] := rfl
theorem lb_X7_waysBegunBy_124 : bk_X7_waysBegunBy.lookup 124 = some [(.invokevirtual 56, 3)] := rfl
theorem lb_X7_waysBegunBy_127 : bk_X7_waysBegunBy.lookup 127 = some [(.lreturn, 1)] := rfl
def f_X7_waysBegunBy_75 (a1 : Nat) (a2 : Nat) (a3 : Int32) (k67 : Int32 → PM → Option (Int64 × PM)) : Nat → Int32 → Int32 → PM → Option (Int64 × PM)
  | 0, _, _, _ => none
  | f + 1, x5, x6, M =>
    if (M.1 a1 0) ≤ x6 then
      k67 (x5 + (-1)) M
    else
      hr_bd (f_X7_waysBehind a1 a2 x5 x6 M) (fun v4 M4 =>
      if inB ((10 * x5) + x6) 80 = true then 
      f_X7_waysBegunBy_75 a1 a2 a3 k67 f x5 (x6 + 1) (hr_sl M4 272 ((10 * x5) + x6).toNatClampNeg v4) else none)
theorem g_X7_waysBegunBy_75 (a1 : Nat) (a2 : Nat) (a3 : Int32) (ka1 : hr_K a1 = 3) (ka2 : hr_K a2 = 5) (k67 : Int32 → PM → Option (Int64 × PM)) (hk67 : ∀ (x5 : Int32) (M : PM) (r : Int64 × PM), k67 x5 M = some r → hr_G 95 67 [some (.ref 271), some (.ref a1), some (.ref a2), some (.int a3), none, some (.int x5), none] [] M (some (.long r.1), r.2)) : ∀ (f : Nat) (x5 : Int32) (x6 : Int32) (M : PM) (r : Int64 × PM), f_X7_waysBegunBy_75 a1 a2 a3 k67 f x5 x6 M = some r → hr_G 95 75 [some (.ref 271), some (.ref a1), some (.ref a2), some (.int a3), none, some (.int x5), some (.int x6)] [] M (some (.long r.1), r.2) := by
  intro f
  induction f with
  | zero => intro x5 x6 M r h; cases h
  | succ f ih =>
    intro x5 x6 M r h
    rw [f_X7_waysBegunBy_75.eq_2] at h
    refine hr_Grun mf_X7_waysBegunBy lb_X7_waysBegunBy_75 (P := hr_K a1 = 3 ∧ True) (pc' := if (M.1 a1 0) ≤ x6 then 113 else 84) (ls' := [some (.ref 271), some (.ref a1), some (.ref a2), some (.int a3), none, some (.int x5), some (.int x6)]) (st' := []) (M' := M) rfl rfl ⟨ka1, trivial⟩ ?_
    refine hr_Gif h (fun _ h => ?_) (fun _ h => ?_)
    · refine hr_Grun mf_X7_waysBegunBy lb_X7_waysBegunBy_113 (P := True) (pc' := 67) (ls' := [some (.ref 271), some (.ref a1), some (.ref a2), some (.int a3), none, some (.int (x5 + (-1))), some (.int x6)]) (st' := []) (M' := M) rfl rfl trivial ?_
      refine hr_Gle (ls := [some (.ref 271), some (.ref a1), some (.ref a2), some (.int a3), none, some (.int (x5 + (-1))), none]) (hr_le_s (hr_le_s (hr_le_s (hr_le_s (hr_le_n (hr_le_s (hr_le_n hr_le_0))))))) ?_
      exact hk67 (x5 + (-1)) M _ h
    · refine hr_Grun mf_X7_waysBegunBy lb_X7_waysBegunBy_84 (P := hr_K 271 = 6 ∧ True) (pc' := 103) (ls' := [some (.ref 271), some (.ref a1), some (.ref a2), some (.int a3), none, some (.int x5), some (.int x6)]) (st' := [.int x6, .int x5, .ref a2, .ref a1, .ref 271, .int ((10 * x5) + x6), .ref 272]) (M' := M) rfl rfl ⟨K_271, trivial⟩ ?_
      refine hr_Fb h (fun v4 M4 e4 h => ?_)
      refine hr_Gcv mf_X7_waysBegunBy mf_X7_waysBehind lb_X7_waysBegunBy_103 (b := 271) (as := [.ref a1, .ref a2, .int x5, .int x6]) (rest := [.int ((10 * x5) + x6), .ref 272]) (st2 := [.long v4, .int ((10 * x5) + x6), .ref 272]) (v := some (.long v4)) (M1 := M4) rfl rfl rfl rfl rfl rfl K_271 (g_X7_waysBehind a1 a2 x5 x6 _ _ e4) rfl rfl ?_
      refine hr_Fg h (fun hg5_0 h => ?_)
      refine hr_Grun mf_X7_waysBegunBy lb_X7_waysBegunBy_106 (P := ((hr_K 272 = 13 ∧ 272 < hr_n) ∧ vp_in ((10 * x5) + x6) (hr_N 272)) ∧ True) (pc' := 75) (ls' := [some (.ref 271), some (.ref a1), some (.ref a2), some (.int a3), none, some (.int x5), some (.int (x6 + 1))]) (st' := []) (M' := hr_sl M4 272 ((10 * x5) + x6).toNatClampNeg v4) rfl rfl ⟨⟨⟨K_272, L_272⟩, (inB_N N_272 hg5_0)⟩, trivial⟩ ?_
      exact ih x5 (x6 + 1) (hr_sl M4 272 ((10 * x5) + x6).toNatClampNeg v4) _ h
def f_X7_waysBegunBy_67 (a1 : Nat) (a2 : Nat) (a3 : Int32) : Nat → Int32 → PM → Option (Int64 × PM)
  | 0, _, _ => none
  | f + 1, x5, M =>
    if x5 ≤ 0 then
      hr_bd (f_X7_waysBehind a1 a2 0 a3 M) (fun v3 M3 =>
      some (v3, M3))
    else
      f_X7_waysBegunBy_75 a1 a2 a3 (fun x5 M => f_X7_waysBegunBy_67 a1 a2 a3 f x5 M) FU x5 0 M
theorem g_X7_waysBegunBy_67 (a1 : Nat) (a2 : Nat) (a3 : Int32) (ka1 : hr_K a1 = 3) (ka2 : hr_K a2 = 5) : ∀ (f : Nat) (x5 : Int32) (M : PM) (r : Int64 × PM), f_X7_waysBegunBy_67 a1 a2 a3 f x5 M = some r → hr_G 95 67 [some (.ref 271), some (.ref a1), some (.ref a2), some (.int a3), none, some (.int x5), none] [] M (some (.long r.1), r.2) := by
  intro f
  induction f with
  | zero => intro x5 M r h; cases h
  | succ f ih =>
    intro x5 M r h
    rw [f_X7_waysBegunBy_67.eq_2] at h
    refine hr_Grun mf_X7_waysBegunBy lb_X7_waysBegunBy_67 (P := True) (pc' := if x5 ≤ 0 then 119 else 72) (ls' := [some (.ref 271), some (.ref a1), some (.ref a2), some (.int a3), none, some (.int x5), none]) (st' := []) (M' := M) rfl rfl trivial ?_
    refine hr_Gif h (fun _ h => ?_) (fun _ h => ?_)
    · refine hr_Grun mf_X7_waysBegunBy lb_X7_waysBegunBy_119 (P := True) (pc' := 124) (ls' := [some (.ref 271), some (.ref a1), some (.ref a2), some (.int a3), none, some (.int x5), none]) (st' := [.int a3, .int 0, .ref a2, .ref a1, .ref 271]) (M' := M) rfl rfl trivial ?_
      refine hr_Fb h (fun v3 M3 e3 h => ?_)
      refine hr_Gcv mf_X7_waysBegunBy mf_X7_waysBehind lb_X7_waysBegunBy_124 (b := 271) (as := [.ref a1, .ref a2, .int 0, .int a3]) (rest := []) (st2 := [.long v3]) (v := some (.long v3)) (M1 := M3) rfl rfl rfl rfl rfl rfl K_271 (g_X7_waysBehind a1 a2 0 a3 _ _ e3) rfl rfl ?_
      cases h
      exact hr_Gret mf_X7_waysBegunBy lb_X7_waysBegunBy_127 rfl rfl trivial
    · refine hr_Grun mf_X7_waysBegunBy lb_X7_waysBegunBy_72 (P := True) (pc' := 75) (ls' := [some (.ref 271), some (.ref a1), some (.ref a2), some (.int a3), none, some (.int x5), some (.int 0)]) (st' := []) (M' := M) rfl rfl trivial ?_
      exact g_X7_waysBegunBy_75 a1 a2 a3 ka1 ka2 (fun x5 M => f_X7_waysBegunBy_67 a1 a2 a3 f x5 M) (fun x5 M r h => ih x5 M r h) FU x5 0 M _ h
def f_X7_waysBegunBy_18 (a1 : Nat) (a2 : Nat) (a3 : Int32) : Nat → Int32 → Int32 → PM → Option (Int64 × PM)
  | 0, _, _, _ => none
  | f + 1, x4, x5, M =>
    if (M.1 a1 0) ≤ x5 then
      f_X7_waysBegunBy_67 a1 a2 a3 FU (x4 - 1) M
    else
      hr_bd (f_X4_strengthOf a1 x5 a3 M) (fun v4 M4 =>
      if v4 ≤ 0 then
        if inB ((10 * x4) + x5) 80 = true then 
        f_X7_waysBegunBy_18 a1 a2 a3 f x4 (x5 + 1) (hr_sl M4 272 ((10 * x4) + x5).toNatClampNeg 1) else none
      else
        if inB ((10 * x4) + x5) 80 = true then 
        f_X7_waysBegunBy_18 a1 a2 a3 f x4 (x5 + 1) (hr_sl M4 272 ((10 * x4) + x5).toNatClampNeg 0) else none)
theorem g_X7_waysBegunBy_18 (a1 : Nat) (a2 : Nat) (a3 : Int32) (ka1 : hr_K a1 = 3) (ka2 : hr_K a2 = 5) : ∀ (f : Nat) (x4 : Int32) (x5 : Int32) (M : PM) (r : Int64 × PM), f_X7_waysBegunBy_18 a1 a2 a3 f x4 x5 M = some r → hr_G 95 18 [some (.ref 271), some (.ref a1), some (.ref a2), some (.int a3), some (.int x4), some (.int x5), none] [] M (some (.long r.1), r.2) := by
  intro f
  induction f with
  | zero => intro x4 x5 M r h; cases h
  | succ f ih =>
    intro x4 x5 M r h
    rw [f_X7_waysBegunBy_18.eq_2] at h
    refine hr_Grun mf_X7_waysBegunBy lb_X7_waysBegunBy_18 (P := hr_K a1 = 3 ∧ True) (pc' := if (M.1 a1 0) ≤ x5 then 61 else 27) (ls' := [some (.ref 271), some (.ref a1), some (.ref a2), some (.int a3), some (.int x4), some (.int x5), none]) (st' := []) (M' := M) rfl rfl ⟨ka1, trivial⟩ ?_
    refine hr_Gif h (fun _ h => ?_) (fun _ h => ?_)
    · refine hr_Grun mf_X7_waysBegunBy lb_X7_waysBegunBy_61 (P := True) (pc' := 67) (ls' := [some (.ref 271), some (.ref a1), some (.ref a2), some (.int a3), some (.int x4), some (.int (x4 - 1)), none]) (st' := []) (M' := M) rfl rfl trivial ?_
      refine hr_Gle (ls := [some (.ref 271), some (.ref a1), some (.ref a2), some (.int a3), none, some (.int (x4 - 1)), none]) (hr_le_s (hr_le_s (hr_le_s (hr_le_s (hr_le_n (hr_le_s (hr_le_n hr_le_0))))))) ?_
      exact g_X7_waysBegunBy_67 a1 a2 a3 ka1 ka2 FU (x4 - 1) M _ h
    · refine hr_Grun mf_X7_waysBegunBy lb_X7_waysBegunBy_27 (P := hr_K 271 = 6 ∧ True) (pc' := 43) (ls' := [some (.ref 271), some (.ref a1), some (.ref a2), some (.int a3), some (.int x4), some (.int x5), none]) (st' := [.int a3, .int x5, .ref a1, .int ((10 * x4) + x5), .ref 272]) (M' := M) rfl rfl ⟨K_271, trivial⟩ ?_
      refine hr_Fb h (fun v4 M4 e4 h => ?_)
      refine hr_Gcv mf_X7_waysBegunBy mf_X4_strengthOf lb_X7_waysBegunBy_43 (b := a1) (as := [.int x5, .int a3]) (rest := [.int ((10 * x4) + x5), .ref 272]) (st2 := [.int v4, .int ((10 * x4) + x5), .ref 272]) (v := some (.int v4)) (M1 := M4) rfl rfl rfl rfl rfl rfl ka1 (g_X4_strengthOf a1 x5 a3 _ _ e4) rfl rfl ?_
      refine hr_Grun mf_X7_waysBegunBy lb_X7_waysBegunBy_46 (P := True) (pc' := if v4 ≤ 0 then 53 else 49) (ls' := [some (.ref 271), some (.ref a1), some (.ref a2), some (.int a3), some (.int x4), some (.int x5), none]) (st' := [.int ((10 * x4) + x5), .ref 272]) (M' := M4) rfl rfl trivial ?_
      refine hr_Gif h (fun _ h => ?_) (fun _ h => ?_)
      · refine hr_Grun mf_X7_waysBegunBy lb_X7_waysBegunBy_53 (P := True) (pc' := 54) (ls' := [some (.ref 271), some (.ref a1), some (.ref a2), some (.int a3), some (.int x4), some (.int x5), none]) (st' := [.long 1, .int ((10 * x4) + x5), .ref 272]) (M' := M4) rfl rfl trivial ?_
        refine hr_Fg h (fun hg7_0 h => ?_)
        refine hr_Grun mf_X7_waysBegunBy lb_X7_waysBegunBy_54 (P := ((hr_K 272 = 13 ∧ 272 < hr_n) ∧ vp_in ((10 * x4) + x5) (hr_N 272)) ∧ True) (pc' := 18) (ls' := [some (.ref 271), some (.ref a1), some (.ref a2), some (.int a3), some (.int x4), some (.int (x5 + 1)), none]) (st' := []) (M' := hr_sl M4 272 ((10 * x4) + x5).toNatClampNeg 1) rfl rfl ⟨⟨⟨K_272, L_272⟩, (inB_N N_272 hg7_0)⟩, trivial⟩ ?_
        exact ih x4 (x5 + 1) (hr_sl M4 272 ((10 * x4) + x5).toNatClampNeg 1) _ h
      · refine hr_Grun mf_X7_waysBegunBy lb_X7_waysBegunBy_49 (P := True) (pc' := 54) (ls' := [some (.ref 271), some (.ref a1), some (.ref a2), some (.int a3), some (.int x4), some (.int x5), none]) (st' := [.long 0, .int ((10 * x4) + x5), .ref 272]) (M' := M4) rfl rfl trivial ?_
        refine hr_Fg h (fun hg9_0 h => ?_)
        refine hr_Grun mf_X7_waysBegunBy lb_X7_waysBegunBy_54 (P := ((hr_K 272 = 13 ∧ 272 < hr_n) ∧ vp_in ((10 * x4) + x5) (hr_N 272)) ∧ True) (pc' := 18) (ls' := [some (.ref 271), some (.ref a1), some (.ref a2), some (.int a3), some (.int x4), some (.int (x5 + 1)), none]) (st' := []) (M' := hr_sl M4 272 ((10 * x4) + x5).toNatClampNeg 0) rfl rfl ⟨⟨⟨K_272, L_272⟩, (inB_N N_272 hg9_0)⟩, trivial⟩ ?_
        exact ih x4 (x5 + 1) (hr_sl M4 272 ((10 * x4) + x5).toNatClampNeg 0) _ h
def f_X7_waysBegunBy (a1 : Nat) (a2 : Nat) (a3 : Int32) (M : PM) : Option (Int64 × PM) :=
  if hr_K a1 = 3 then if hr_K a2 = 5 then if ((M.1 a2 0) - 1) = 0 then
    some (1, M)
  else
    f_X7_waysBegunBy_18 a1 a2 a3 FU ((M.1 a2 0) - 1) 0 M else none else none
theorem g_X7_waysBegunBy (a1 : Nat) (a2 : Nat) (a3 : Int32) : ∀ (M : PM) (r : Int64 × PM), f_X7_waysBegunBy a1 a2 a3 M = some r → hr_G 95 0 [some (.ref 271), some (.ref a1), some (.ref a2), some (.int a3), none, none, none] [] M (some (.long r.1), r.2) := by
  intro M r h
  unfold f_X7_waysBegunBy at h
  refine hr_Fg h (fun ka1 h => ?_)
  refine hr_Fg h (fun ka2 h => ?_)
  refine hr_Grun mf_X7_waysBegunBy lb_X7_waysBegunBy_0 (P := hr_K a2 = 5 ∧ True) (pc' := if ((M.1 a2 0) - 1) = 0 then 13 else 15) (ls' := [some (.ref 271), some (.ref a1), some (.ref a2), some (.int a3), some (.int ((M.1 a2 0) - 1)), none, none]) (st' := []) (M' := M) rfl rfl ⟨ka2, trivial⟩ ?_
  refine hr_Gif h (fun _ h => ?_) (fun _ h => ?_)
  · refine hr_Grun mf_X7_waysBegunBy lb_X7_waysBegunBy_13 (P := True) (pc' := 14) (ls' := [some (.ref 271), some (.ref a1), some (.ref a2), some (.int a3), some (.int ((M.1 a2 0) - 1)), none, none]) (st' := [.long 1]) (M' := M) rfl rfl trivial ?_
    cases h
    exact hr_Gret mf_X7_waysBegunBy lb_X7_waysBegunBy_14 rfl rfl trivial
  · refine hr_Grun mf_X7_waysBegunBy lb_X7_waysBegunBy_15 (P := True) (pc' := 18) (ls' := [some (.ref 271), some (.ref a1), some (.ref a2), some (.int a3), some (.int ((M.1 a2 0) - 1)), some (.int 0), none]) (st' := []) (M' := M) rfl rfl trivial ?_
    exact g_X7_waysBegunBy_18 a1 a2 a3 ka1 ka2 FU ((M.1 a2 0) - 1) 0 M _ h
theorem mf_X7_dressAtFirst : hr_mf 97 7 1 none 7 3 bk_X7_dressAtFirst := ⟨rfl, rfl, rfl, rfl, rfl, rfl⟩
theorem lb_X7_dressAtFirst_0 : bk_X7_dressAtFirst.lookup 0 = some [(.aload_n 0, 1), (.getfield 15, 3), (.iconst 0, 1), (.iload_n 3, 1), (.iastore, 1), (.iconst 1, 1), (.istore 4, 2)] := rfl
theorem lb_X7_dressAtFirst_10 : bk_X7_dressAtFirst.lookup 10 = some [(.iload 4, 2), (.aload_n 2, 1), (.getfield 26, 3), (.if_icmp .ge 90, 3)] := rfl
theorem lb_X7_dressAtFirst_19 : bk_X7_dressAtFirst.lookup 19 = some [(.aload_n 2, 1), (.getfield 37, 3), (.iload 4, 2), (.iaload, 1), (.aload_n 1, 1), (.aload_n 0, 1), (.getfield 15, 3), (.iload 4, 2), (.iconst 1, 1), (.isub, 1), (.iaload, 1)] := rfl
theorem lb_X7_dressAtFirst_36 : bk_X7_dressAtFirst.lookup 36 = some [(.invokevirtual 60, 3)] := rfl
theorem lb_X7_dressAtFirst_39 : bk_X7_dressAtFirst.lookup 39 = some [(.iconst (-1), 1), (.ixor, 1), (.iand, 1), (.istore 5, 2), (.aload_n 1, 1), (.getfield 32, 3), (.iconst 1, 1), (.isub, 1), (.istore 6, 2)] := rfl
theorem lb_X7_dressAtFirst_52 : bk_X7_dressAtFirst.lookup 52 = some [(.iload 6, 2), (.ifCond .lt 46, 3)] := rfl
theorem lb_X7_dressAtFirst_57 : bk_X7_dressAtFirst.lookup 57 = some [(.iload 5, 2), (.iload 6, 2)] := rfl
theorem lb_X7_dressAtFirst_61 : bk_X7_dressAtFirst.lookup 61 = some [(.invokestatic 40, 3)] := rfl
theorem lb_X7_dressAtFirst_64 : bk_X7_dressAtFirst.lookup 64 = some [(.ifCond .eq 30, 3)] := rfl
theorem lb_X7_dressAtFirst_67 : bk_X7_dressAtFirst.lookup 67 = some [(.aload_n 0, 1), (.getfield 9, 3), (.bipush 10, 2), (.iload 4, 2), (.imul, 1), (.iload 6, 2), (.iadd, 1), (.laload, 1), (.lconst 0, 1), (.lcmp, 1), (.ifCond .le 12, 3)] := rfl
theorem lb_X7_dressAtFirst_85 : bk_X7_dressAtFirst.lookup 85 = some [(.aload_n 0, 1), (.getfield 15, 3), (.iload 4, 2), (.iload 6, 2), (.iastore, 1)] := rfl
theorem lb_X7_dressAtFirst_94 : bk_X7_dressAtFirst.lookup 94 = some [(.iinc 6 (-1), 3), (.goto (-45), 3)] := rfl
theorem lb_X7_dressAtFirst_100 : bk_X7_dressAtFirst.lookup 100 = some [(.iinc 4 1, 3), (.goto (-93), 3)] := rfl
theorem lb_X7_dressAtFirst_106 : bk_X7_dressAtFirst.lookup 106 = some [(.return_, 1)] := rfl
def f_X7_dressAtFirst_52 (a1 : Nat) (a2 : Nat) (a3 : Int32) (k10 : Int32 → PM → Option (Unit × PM)) : Nat → Int32 → Int32 → Int32 → PM → Option (Unit × PM)
  | 0, _, _, _, _ => none
  | f + 1, x4, x5, x6, M =>
    if x6 < 0 then
      k10 (x4 + 1) M
    else
      hr_bd (f_X10_holdsBit x5 x6 M) (fun v4 M4 =>
      if v4 = 0 then
        f_X7_dressAtFirst_52 a1 a2 a3 k10 f x4 x5 (x6 + (-1)) M4
      else
        if inB ((10 * x4) + x6) 80 = true then if (lg_cmp (M4.2.1 272 ((10 * x4) + x6).toNatClampNeg) 0) ≤ 0 then
          f_X7_dressAtFirst_52 a1 a2 a3 k10 f x4 x5 (x6 + (-1)) M4
        else
          if inB x4 8 = true then 
          f_X7_dressAtFirst_52 a1 a2 a3 k10 f x4 x5 (x6 + (-1)) (hr_si M4 273 x4.toNatClampNeg x6) else none
        else none)
theorem g_X7_dressAtFirst_52 (a1 : Nat) (a2 : Nat) (a3 : Int32) (ka1 : hr_K a1 = 3) (ka2 : hr_K a2 = 5) (k10 : Int32 → PM → Option (Unit × PM)) (hk10 : ∀ (x4 : Int32) (M : PM) (r : Unit × PM), k10 x4 M = some r → hr_G 97 10 [some (.ref 271), some (.ref a1), some (.ref a2), none, some (.int x4), none, none] [] M (none, r.2)) : ∀ (f : Nat) (x4 : Int32) (x5 : Int32) (x6 : Int32) (M : PM) (r : Unit × PM), f_X7_dressAtFirst_52 a1 a2 a3 k10 f x4 x5 x6 M = some r → hr_G 97 52 [some (.ref 271), some (.ref a1), some (.ref a2), none, some (.int x4), some (.int x5), some (.int x6)] [] M (none, r.2) := by
  intro f
  induction f with
  | zero => intro x4 x5 x6 M r h; cases h
  | succ f ih =>
    intro x4 x5 x6 M r h
    rw [f_X7_dressAtFirst_52.eq_2] at h
    refine hr_Grun mf_X7_dressAtFirst lb_X7_dressAtFirst_52 (P := True) (pc' := if x6 < 0 then 100 else 57) (ls' := [some (.ref 271), some (.ref a1), some (.ref a2), none, some (.int x4), some (.int x5), some (.int x6)]) (st' := []) (M' := M) rfl rfl trivial ?_
    refine hr_Gif h (fun _ h => ?_) (fun _ h => ?_)
    · refine hr_Grun mf_X7_dressAtFirst lb_X7_dressAtFirst_100 (P := True) (pc' := 10) (ls' := [some (.ref 271), some (.ref a1), some (.ref a2), none, some (.int (x4 + 1)), some (.int x5), some (.int x6)]) (st' := []) (M' := M) rfl rfl trivial ?_
      refine hr_Gle (ls := [some (.ref 271), some (.ref a1), some (.ref a2), none, some (.int (x4 + 1)), none, none]) (hr_le_s (hr_le_s (hr_le_s (hr_le_n (hr_le_s (hr_le_n (hr_le_n hr_le_0))))))) ?_
      exact hk10 (x4 + 1) M _ h
    · refine hr_Grun mf_X7_dressAtFirst lb_X7_dressAtFirst_57 (P := True) (pc' := 61) (ls' := [some (.ref 271), some (.ref a1), some (.ref a2), none, some (.int x4), some (.int x5), some (.int x6)]) (st' := [.int x6, .int x5]) (M' := M) rfl rfl trivial ?_
      refine hr_Fb h (fun v4 M4 e4 h => ?_)
      refine hr_Gcs mf_X7_dressAtFirst mf_X10_holdsBit lb_X7_dressAtFirst_61 (as := [.int x5, .int x6]) (rest := []) (st2 := [.int v4]) (v := some (.int v4)) (M1 := M4) rfl rfl rfl rfl rfl rfl (g_X10_holdsBit x5 x6 _ _ e4) rfl rfl ?_
      refine hr_Grun mf_X7_dressAtFirst lb_X7_dressAtFirst_64 (P := True) (pc' := if v4 = 0 then 94 else 67) (ls' := [some (.ref 271), some (.ref a1), some (.ref a2), none, some (.int x4), some (.int x5), some (.int x6)]) (st' := []) (M' := M4) rfl rfl trivial ?_
      refine hr_Gif h (fun _ h => ?_) (fun _ h => ?_)
      · refine hr_Grun mf_X7_dressAtFirst lb_X7_dressAtFirst_94 (P := True) (pc' := 52) (ls' := [some (.ref 271), some (.ref a1), some (.ref a2), none, some (.int x4), some (.int x5), some (.int (x6 + (-1)))]) (st' := []) (M' := M4) rfl rfl trivial ?_
        exact ih x4 x5 (x6 + (-1)) M4 _ h
      · refine hr_Fg h (fun hg7_0 h => ?_)
        refine hr_Grun mf_X7_dressAtFirst lb_X7_dressAtFirst_67 (P := hr_K 271 = 6 ∧ (hr_K 272 = 13 ∧ vp_in ((10 * x4) + x6) (hr_N 272)) ∧ True) (pc' := if (lg_cmp (M4.2.1 272 ((10 * x4) + x6).toNatClampNeg) 0) ≤ 0 then 94 else 85) (ls' := [some (.ref 271), some (.ref a1), some (.ref a2), none, some (.int x4), some (.int x5), some (.int x6)]) (st' := []) (M' := M4) rfl rfl ⟨K_271, ⟨K_272, (inB_N N_272 hg7_0)⟩, trivial⟩ ?_
        refine hr_Gif h (fun _ h => ?_) (fun _ h => ?_)
        · refine hr_Grun mf_X7_dressAtFirst lb_X7_dressAtFirst_94 (P := True) (pc' := 52) (ls' := [some (.ref 271), some (.ref a1), some (.ref a2), none, some (.int x4), some (.int x5), some (.int (x6 + (-1)))]) (st' := []) (M' := M4) rfl rfl trivial ?_
          exact ih x4 x5 (x6 + (-1)) M4 _ h
        · refine hr_Fg h (fun hg9_0 h => ?_)
          refine hr_Grun mf_X7_dressAtFirst lb_X7_dressAtFirst_85 (P := hr_K 271 = 6 ∧ ((hr_K 273 = 12 ∧ 273 < hr_n) ∧ vp_in x4 (hr_N 273)) ∧ True) (pc' := 94) (ls' := [some (.ref 271), some (.ref a1), some (.ref a2), none, some (.int x4), some (.int x5), some (.int x6)]) (st' := []) (M' := hr_si M4 273 x4.toNatClampNeg x6) rfl rfl ⟨K_271, ⟨⟨K_273, L_273⟩, (inB_N N_273 hg9_0)⟩, trivial⟩ ?_
          refine hr_Grun mf_X7_dressAtFirst lb_X7_dressAtFirst_94 (P := True) (pc' := 52) (ls' := [some (.ref 271), some (.ref a1), some (.ref a2), none, some (.int x4), some (.int x5), some (.int (x6 + (-1)))]) (st' := []) (M' := hr_si M4 273 x4.toNatClampNeg x6) rfl rfl trivial ?_
          exact ih x4 x5 (x6 + (-1)) (hr_si M4 273 x4.toNatClampNeg x6) _ h
def f_X7_dressAtFirst_10 (a1 : Nat) (a2 : Nat) (a3 : Int32) : Nat → Int32 → PM → Option (Unit × PM)
  | 0, _, _ => none
  | f + 1, x4, M =>
    if (M.1 a2 0) ≤ x4 then
      some ((), M)
    else
      if inB x4 40 = true then if inB (x4 - 1) 8 = true then 
      hr_bd (f_X4_foesOf a1 (M.1 273 (x4 - 1).toNatClampNeg) M) (fun v3 M3 =>
      f_X7_dressAtFirst_52 a1 a2 a3 (fun x4 M => f_X7_dressAtFirst_10 a1 a2 a3 f x4 M) FU x4 ((M.1 (a2 + 2) x4.toNatClampNeg) &&& (v3 ^^^ (-1))) ((M3.1 a1 0) - 1) M3) else none else none
theorem g_X7_dressAtFirst_10 (a1 : Nat) (a2 : Nat) (a3 : Int32) (ka1 : hr_K a1 = 3) (ka2 : hr_K a2 = 5) : ∀ (f : Nat) (x4 : Int32) (M : PM) (r : Unit × PM), f_X7_dressAtFirst_10 a1 a2 a3 f x4 M = some r → hr_G 97 10 [some (.ref 271), some (.ref a1), some (.ref a2), none, some (.int x4), none, none] [] M (none, r.2) := by
  intro f
  induction f with
  | zero => intro x4 M r h; cases h
  | succ f ih =>
    intro x4 M r h
    rw [f_X7_dressAtFirst_10.eq_2] at h
    refine hr_Grun mf_X7_dressAtFirst lb_X7_dressAtFirst_10 (P := hr_K a2 = 5 ∧ True) (pc' := if (M.1 a2 0) ≤ x4 then 106 else 19) (ls' := [some (.ref 271), some (.ref a1), some (.ref a2), none, some (.int x4), none, none]) (st' := []) (M' := M) rfl rfl ⟨ka2, trivial⟩ ?_
    refine hr_Gif h (fun _ h => ?_) (fun _ h => ?_)
    · cases h
      exact hr_Gret mf_X7_dressAtFirst lb_X7_dressAtFirst_106 rfl rfl trivial
    · refine hr_Fg h (fun hg2_0 h => ?_)
      refine hr_Fg h (fun hg2_1 h => ?_)
      refine hr_Grun mf_X7_dressAtFirst lb_X7_dressAtFirst_19 (P := hr_K a2 = 5 ∧ (hr_K (a2 + 2) = 12 ∧ vp_in x4 (hr_N (a2 + 2))) ∧ hr_K 271 = 6 ∧ (hr_K 273 = 12 ∧ vp_in (x4 - 1) (hr_N 273)) ∧ True) (pc' := 36) (ls' := [some (.ref 271), some (.ref a1), some (.ref a2), none, some (.int x4), none, none]) (st' := [.int (M.1 273 (x4 - 1).toNatClampNeg), .ref a1, .int (M.1 (a2 + 2) x4.toNatClampNeg)]) (M' := M) rfl rfl ⟨ka2, ⟨(kf_5_4 ka2).1, (inB_N (kf_5_4 ka2).2.1 hg2_0)⟩, K_271, ⟨K_273, (inB_N N_273 hg2_1)⟩, trivial⟩ ?_
      refine hr_Fb h (fun v3 M3 e3 h => ?_)
      refine hr_Gcv mf_X7_dressAtFirst mf_X4_foesOf lb_X7_dressAtFirst_36 (b := a1) (as := [.int (M.1 273 (x4 - 1).toNatClampNeg)]) (rest := [.int (M.1 (a2 + 2) x4.toNatClampNeg)]) (st2 := [.int v3, .int (M.1 (a2 + 2) x4.toNatClampNeg)]) (v := some (.int v3)) (M1 := M3) rfl rfl rfl rfl rfl rfl ka1 (g_X4_foesOf a1 (M.1 273 (x4 - 1).toNatClampNeg) _ _ e3) rfl rfl ?_
      refine hr_Grun mf_X7_dressAtFirst lb_X7_dressAtFirst_39 (P := hr_K a1 = 3 ∧ True) (pc' := 52) (ls' := [some (.ref 271), some (.ref a1), some (.ref a2), none, some (.int x4), some (.int ((M.1 (a2 + 2) x4.toNatClampNeg) &&& (v3 ^^^ (-1)))), some (.int ((M3.1 a1 0) - 1))]) (st' := []) (M' := M3) rfl rfl ⟨ka1, trivial⟩ ?_
      exact g_X7_dressAtFirst_52 a1 a2 a3 ka1 ka2 (fun x4 M => f_X7_dressAtFirst_10 a1 a2 a3 f x4 M) (fun x4 M r h => ih x4 M r h) FU x4 ((M.1 (a2 + 2) x4.toNatClampNeg) &&& (v3 ^^^ (-1))) ((M3.1 a1 0) - 1) M3 _ h
def f_X7_dressAtFirst (a1 : Nat) (a2 : Nat) (a3 : Int32) (M : PM) : Option (Unit × PM) :=
  if hr_K a1 = 3 then if hr_K a2 = 5 then if inB 0 8 = true then 
  f_X7_dressAtFirst_10 a1 a2 a3 FU 1 (hr_si M 273 (0 : Int32).toNatClampNeg a3) else none else none else none
theorem g_X7_dressAtFirst (a1 : Nat) (a2 : Nat) (a3 : Int32) : ∀ (M : PM) (r : Unit × PM), f_X7_dressAtFirst a1 a2 a3 M = some r → hr_G 97 0 [some (.ref 271), some (.ref a1), some (.ref a2), some (.int a3), none, none, none] [] M (none, r.2) := by
  intro M r h
  unfold f_X7_dressAtFirst at h
  refine hr_Fg h (fun ka1 h => ?_)
  refine hr_Fg h (fun ka2 h => ?_)
  refine hr_Fg h (fun hg1_0 h => ?_)
  refine hr_Grun mf_X7_dressAtFirst lb_X7_dressAtFirst_0 (P := hr_K 271 = 6 ∧ ((hr_K 273 = 12 ∧ 273 < hr_n) ∧ vp_in 0 (hr_N 273)) ∧ True) (pc' := 10) (ls' := [some (.ref 271), some (.ref a1), some (.ref a2), some (.int a3), some (.int 1), none, none]) (st' := []) (M' := hr_si M 273 (0 : Int32).toNatClampNeg a3) rfl rfl ⟨K_271, ⟨⟨K_273, L_273⟩, (inB_N N_273 hg1_0)⟩, trivial⟩ ?_
  refine hr_Gle (ls := [some (.ref 271), some (.ref a1), some (.ref a2), none, some (.int 1), none, none]) (hr_le_s (hr_le_s (hr_le_s (hr_le_n (hr_le_s (hr_le_n (hr_le_n hr_le_0))))))) ?_
  exact g_X7_dressAtFirst_10 a1 a2 a3 ka1 ka2 FU 1 (hr_si M 273 (0 : Int32).toNatClampNeg a3) _ h
