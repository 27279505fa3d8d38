/-! printed by wip/whole/gen/gen20.py: methods as functions of the pure memory -/
theorem mf_X7_seat : hr_mf 94 7 3 none 6 2 bk_X7_seat := ⟨rfl, rfl, rfl, rfl, rfl, rfl⟩
theorem lb_X7_seat_0 : bk_X7_seat.lookup 0 = some [(.aload_n 0, 1), (.lconst 0, 1), (.putfield 22, 3), (.aload_n 2, 1), (.getfield 26, 3), (.ifCond .ne 9, 3)] := rfl
theorem lb_X7_seat_12 : bk_X7_seat.lookup 12 = some [(.aload_n 0, 1), (.lconst 1, 1), (.putfield 22, 3)] := rfl
theorem lb_X7_seat_17 : bk_X7_seat.lookup 17 = some [(.return_, 1)] := rfl
theorem lb_X7_seat_18 : bk_X7_seat.lookup 18 = some [(.iconst 0, 1), (.istore_n 3, 1)] := rfl
theorem lb_X7_seat_20 : bk_X7_seat.lookup 20 = some [(.iload_n 3, 1), (.aload_n 1, 1), (.getfield 32, 3), (.if_icmp .ge 65, 3)] := rfl
theorem lb_X7_seat_28 : bk_X7_seat.lookup 28 = some [(.aload_n 2, 1), (.getfield 37, 3), (.iconst 0, 1), (.iaload, 1), (.iload_n 3, 1)] := rfl
theorem lb_X7_seat_35 : bk_X7_seat.lookup 35 = some [(.invokestatic 40, 3)] := rfl
theorem lb_X7_seat_38 : bk_X7_seat.lookup 38 = some [(.ifCond .eq 46, 3)] := rfl
theorem lb_X7_seat_41 : bk_X7_seat.lookup 41 = some [(.aload_n 0, 1), (.aload_n 1, 1), (.aload_n 2, 1), (.iload_n 3, 1)] := rfl
theorem lb_X7_seat_45 : bk_X7_seat.lookup 45 = some [(.invokevirtual 44, 3)] := rfl
theorem lb_X7_seat_48 : bk_X7_seat.lookup 48 = some [(.lstore 4, 2), (.aload_n 0, 1), (.getfield 22, 3), (.lconst 0, 1), (.lcmp, 1), (.ifCond .ne 17, 3)] := rfl
theorem lb_X7_seat_59 : bk_X7_seat.lookup 59 = some [(.lload 4, 2), (.lconst 0, 1), (.lcmp, 1), (.ifCond .le 10, 3)] := rfl
theorem lb_X7_seat_66 : bk_X7_seat.lookup 66 = some [(.aload_n 0, 1), (.aload_n 1, 1), (.aload_n 2, 1), (.iload_n 3, 1)] := rfl
theorem lb_X7_seat_70 : bk_X7_seat.lookup 70 = some [(.invokevirtual 48, 3)] := rfl
theorem lb_X7_seat_73 : bk_X7_seat.lookup 73 = some [(.aload_n 0, 1), (.dup, 1), (.getfield 22, 3), (.lload 4, 2), (.ladd, 1), (.putfield 22, 3)] := rfl
theorem lb_X7_seat_84 : bk_X7_seat.lookup 84 = some [(.iinc 3 1, 3), (.goto (-67), 3)] := rfl
theorem lb_X7_seat_90 : bk_X7_seat.lookup 90 = some [(.return_, 1)] := rfl
def f_X7_seat_20 (a1 : Nat) (a2 : Nat) : Nat → Int32 → PM → Option (Unit × PM)
  | 0, _, _ => none
  | f + 1, x3, M =>
    if (M.1 a1 0) ≤ x3 then
      some ((), M)
    else
      if inB 0 40 = true then 
      hr_bd (f_X10_holdsBit (M.1 (a2 + 2) (0 : Int32).toNatClampNeg) x3 M) (fun v3 M3 =>
      if v3 = 0 then
        f_X7_seat_20 a1 a2 f (x3 + 1) M3
      else
        hr_bd (f_X7_waysBegunBy a1 a2 x3 M3) (fun v7 M7 =>
        if (lg_cmp (M7.2.1 271 3) 0) = 0 then
          if (lg_cmp v7 0) ≤ 0 then
            f_X7_seat_20 a1 a2 f (x3 + 1) (hr_sl M7 271 3 ((M7.2.1 271 3) + v7))
          else
            hr_bd (f_X7_dressAtFirst a1 a2 x3 M7) (fun v13 M13 =>
            f_X7_seat_20 a1 a2 f (x3 + 1) (hr_sl M13 271 3 ((M13.2.1 271 3) + v7)))
        else
          f_X7_seat_20 a1 a2 f (x3 + 1) (hr_sl M7 271 3 ((M7.2.1 271 3) + v7)))) else none
theorem g_X7_seat_20 (a1 : Nat) (a2 : Nat) (ka1 : hr_K a1 = 3) (ka2 : hr_K a2 = 5) : ∀ (f : Nat) (x3 : Int32) (M : PM) (r : Unit × PM), f_X7_seat_20 a1 a2 f x3 M = some r → hr_G 94 20 [some (.ref 271), some (.ref a1), some (.ref a2), some (.int x3), none, none] [] M (none, r.2) := by
  intro f
  induction f with
  | zero => intro x3 M r h; cases h
  | succ f ih =>
    intro x3 M r h
    rw [f_X7_seat_20.eq_2] at h
    refine hr_Grun mf_X7_seat lb_X7_seat_20 (P := hr_K a1 = 3 ∧ True) (pc' := if (M.1 a1 0) ≤ x3 then 90 else 28) (ls' := [some (.ref 271), some (.ref a1), some (.ref a2), some (.int x3), none, none]) (st' := []) (M' := M) rfl rfl ⟨ka1, trivial⟩ ?_
    refine hr_Gif h (fun _ h => ?_) (fun _ h => ?_)
    · cases h
      exact hr_Gret mf_X7_seat lb_X7_seat_90 rfl rfl trivial
    · refine hr_Fg h (fun hg2_0 h => ?_)
      refine hr_Grun mf_X7_seat lb_X7_seat_28 (P := hr_K a2 = 5 ∧ (hr_K (a2 + 2) = 12 ∧ vp_in 0 (hr_N (a2 + 2))) ∧ True) (pc' := 35) (ls' := [some (.ref 271), some (.ref a1), some (.ref a2), some (.int x3), none, none]) (st' := [.int x3, .int (M.1 (a2 + 2) (0 : Int32).toNatClampNeg)]) (M' := M) rfl rfl ⟨ka2, ⟨(kf_5_4 ka2).1, (inB_N (kf_5_4 ka2).2.1 hg2_0)⟩, trivial⟩ ?_
      refine hr_Fb h (fun v3 M3 e3 h => ?_)
      refine hr_Gcs mf_X7_seat mf_X10_holdsBit lb_X7_seat_35 (as := [.int (M.1 (a2 + 2) (0 : Int32).toNatClampNeg), .int x3]) (rest := []) (st2 := [.int v3]) (v := some (.int v3)) (M1 := M3) rfl rfl rfl rfl rfl rfl (g_X10_holdsBit (M.1 (a2 + 2) (0 : Int32).toNatClampNeg) x3 _ _ e3) rfl rfl ?_
      refine hr_Grun mf_X7_seat lb_X7_seat_38 (P := True) (pc' := if v3 = 0 then 84 else 41) (ls' := [some (.ref 271), some (.ref a1), some (.ref a2), some (.int x3), none, none]) (st' := []) (M' := M3) rfl rfl trivial ?_
      refine hr_Gif h (fun _ h => ?_) (fun _ h => ?_)
      · refine hr_Grun mf_X7_seat lb_X7_seat_84 (P := True) (pc' := 20) (ls' := [some (.ref 271), some (.ref a1), some (.ref a2), some (.int (x3 + 1)), none, none]) (st' := []) (M' := M3) rfl rfl trivial ?_
        exact ih (x3 + 1) M3 _ h
      · refine hr_Grun mf_X7_seat lb_X7_seat_41 (P := True) (pc' := 45) (ls' := [some (.ref 271), some (.ref a1), some (.ref a2), some (.int x3), none, none]) (st' := [.int x3, .ref a2, .ref a1, .ref 271]) (M' := M3) rfl rfl trivial ?_
        refine hr_Fb h (fun v7 M7 e7 h => ?_)
        refine hr_Gcv mf_X7_seat mf_X7_waysBegunBy lb_X7_seat_45 (b := 271) (as := [.ref a1, .ref a2, .int x3]) (rest := []) (st2 := [.long v7]) (v := some (.long v7)) (M1 := M7) rfl rfl rfl rfl rfl rfl K_271 (g_X7_waysBegunBy a1 a2 x3 _ _ e7) rfl rfl ?_
        refine hr_Grun mf_X7_seat lb_X7_seat_48 (P := hr_K 271 = 6 ∧ True) (pc' := if (lg_cmp (M7.2.1 271 3) 0) = 0 then 59 else 73) (ls' := [some (.ref 271), some (.ref a1), some (.ref a2), some (.int x3), some (.long v7), none]) (st' := []) (M' := M7) rfl rfl ⟨K_271, trivial⟩ ?_
        refine hr_Gif h (fun _ h => ?_) (fun _ h => ?_)
        · refine hr_Grun mf_X7_seat lb_X7_seat_59 (P := True) (pc' := if (lg_cmp v7 0) ≤ 0 then 73 else 66) (ls' := [some (.ref 271), some (.ref a1), some (.ref a2), some (.int x3), some (.long v7), none]) (st' := []) (M' := M7) rfl rfl trivial ?_
          refine hr_Gif h (fun _ h => ?_) (fun _ h => ?_)
          · refine hr_Grun mf_X7_seat lb_X7_seat_73 (P := hr_K 271 = 6 ∧ (hr_K 271 = 6 ∧ 271 < hr_n) ∧ True) (pc' := 84) (ls' := [some (.ref 271), some (.ref a1), some (.ref a2), some (.int x3), some (.long v7), none]) (st' := []) (M' := hr_sl M7 271 3 ((M7.2.1 271 3) + v7)) rfl rfl ⟨K_271, ⟨K_271, L_271⟩, trivial⟩ ?_
            refine hr_Grun mf_X7_seat lb_X7_seat_84 (P := True) (pc' := 20) (ls' := [some (.ref 271), some (.ref a1), some (.ref a2), some (.int (x3 + 1)), some (.long v7), none]) (st' := []) (M' := hr_sl M7 271 3 ((M7.2.1 271 3) + v7)) rfl rfl trivial ?_
            refine hr_Gle (ls := [some (.ref 271), some (.ref a1), some (.ref a2), some (.int (x3 + 1)), none, none]) (hr_le_s (hr_le_s (hr_le_s (hr_le_s (hr_le_n (hr_le_n hr_le_0)))))) ?_
            exact ih (x3 + 1) (hr_sl M7 271 3 ((M7.2.1 271 3) + v7)) _ h
          · refine hr_Grun mf_X7_seat lb_X7_seat_66 (P := True) (pc' := 70) (ls' := [some (.ref 271), some (.ref a1), some (.ref a2), some (.int x3), some (.long v7), none]) (st' := [.int x3, .ref a2, .ref a1, .ref 271]) (M' := M7) rfl rfl trivial ?_
            refine hr_Fb h (fun v13 M13 e13 h => ?_)
            refine hr_Gcv mf_X7_seat mf_X7_dressAtFirst lb_X7_seat_70 (b := 271) (as := [.ref a1, .ref a2, .int x3]) (rest := []) (st2 := []) (v := none) (M1 := M13) rfl rfl rfl rfl rfl rfl K_271 (g_X7_dressAtFirst a1 a2 x3 _ _ e13) rfl rfl ?_
            refine hr_Grun mf_X7_seat lb_X7_seat_73 (P := hr_K 271 = 6 ∧ (hr_K 271 = 6 ∧ 271 < hr_n) ∧ True) (pc' := 84) (ls' := [some (.ref 271), some (.ref a1), some (.ref a2), some (.int x3), some (.long v7), none]) (st' := []) (M' := hr_sl M13 271 3 ((M13.2.1 271 3) + v7)) rfl rfl ⟨K_271, ⟨K_271, L_271⟩, trivial⟩ ?_
            refine hr_Grun mf_X7_seat lb_X7_seat_84 (P := True) (pc' := 20) (ls' := [some (.ref 271), some (.ref a1), some (.ref a2), some (.int (x3 + 1)), some (.long v7), none]) (st' := []) (M' := hr_sl M13 271 3 ((M13.2.1 271 3) + v7)) rfl rfl trivial ?_
            refine hr_Gle (ls := [some (.ref 271), some (.ref a1), some (.ref a2), some (.int (x3 + 1)), none, none]) (hr_le_s (hr_le_s (hr_le_s (hr_le_s (hr_le_n (hr_le_n hr_le_0)))))) ?_
            exact ih (x3 + 1) (hr_sl M13 271 3 ((M13.2.1 271 3) + v7)) _ h
        · refine hr_Grun mf_X7_seat lb_X7_seat_73 (P := hr_K 271 = 6 ∧ (hr_K 271 = 6 ∧ 271 < hr_n) ∧ True) (pc' := 84) (ls' := [some (.ref 271), some (.ref a1), some (.ref a2), some (.int x3), some (.long v7), none]) (st' := []) (M' := hr_sl M7 271 3 ((M7.2.1 271 3) + v7)) rfl rfl ⟨K_271, ⟨K_271, L_271⟩, trivial⟩ ?_
          refine hr_Grun mf_X7_seat lb_X7_seat_84 (P := True) (pc' := 20) (ls' := [some (.ref 271), some (.ref a1), some (.ref a2), some (.int (x3 + 1)), some (.long v7), none]) (st' := []) (M' := hr_sl M7 271 3 ((M7.2.1 271 3) + v7)) rfl rfl trivial ?_
          refine hr_Gle (ls := [some (.ref 271), some (.ref a1), some (.ref a2), some (.int (x3 + 1)), none, none]) (hr_le_s (hr_le_s (hr_le_s (hr_le_s (hr_le_n (hr_le_n hr_le_0)))))) ?_
          exact ih (x3 + 1) (hr_sl M7 271 3 ((M7.2.1 271 3) + v7)) _ h
def f_X7_seat (a1 : Nat) (a2 : Nat) (M : PM) : Option (Unit × PM) :=
  if hr_K a1 = 3 then if hr_K a2 = 5 then if ((hr_sl M 271 3 0).1 a2 0) = 0 then
    some ((), hr_sl (hr_sl M 271 3 0) 271 3 1)
  else
    f_X7_seat_20 a1 a2 FU 0 (hr_sl M 271 3 0) else none else none
theorem g_X7_seat (a1 : Nat) (a2 : Nat) : ∀ (M : PM) (r : Unit × PM), f_X7_seat a1 a2 M = some r → hr_G 94 0 [some (.ref 271), some (.ref a1), some (.ref a2), none, none, none] [] M (none, r.2) := by
  intro M r h
  unfold f_X7_seat at h
  refine hr_Fg h (fun ka1 h => ?_)
  refine hr_Fg h (fun ka2 h => ?_)
  refine hr_Grun mf_X7_seat lb_X7_seat_0 (P := (hr_K 271 = 6 ∧ 271 < hr_n) ∧ hr_K a2 = 5 ∧ True) (pc' := if ((hr_sl M 271 3 0).1 a2 0) = 0 then 12 else 18) (ls' := [some (.ref 271), some (.ref a1), some (.ref a2), none, none, none]) (st' := []) (M' := hr_sl M 271 3 0) rfl rfl ⟨⟨K_271, L_271⟩, ka2, trivial⟩ ?_
  refine hr_Gif h (fun _ h => ?_) (fun _ h => ?_)
  · refine hr_Grun mf_X7_seat lb_X7_seat_12 (P := (hr_K 271 = 6 ∧ 271 < hr_n) ∧ True) (pc' := 17) (ls' := [some (.ref 271), some (.ref a1), some (.ref a2), none, none, none]) (st' := []) (M' := hr_sl (hr_sl M 271 3 0) 271 3 1) rfl rfl ⟨⟨K_271, L_271⟩, trivial⟩ ?_
    cases h
    exact hr_Gret mf_X7_seat lb_X7_seat_17 rfl rfl trivial
  · refine hr_Grun mf_X7_seat lb_X7_seat_18 (P := True) (pc' := 20) (ls' := [some (.ref 271), some (.ref a1), some (.ref a2), some (.int 0), none, none]) (st' := []) (M' := hr_sl M 271 3 0) rfl rfl trivial ?_
    exact g_X7_seat_20 a1 a2 ka1 ka2 FU 0 (hr_sl M 271 3 0) _ h
theorem mf_X7_canDressFrom : hr_mf 100 7 1 (some .boolean) 8 4 bk_X7_canDressFrom := ⟨rfl, rfl, rfl, rfl, rfl, rfl⟩
theorem lb_X7_canDressFrom_0 : bk_X7_canDressFrom.lookup 0 = some [(.iconst 1, 1), (.iload_n 3, 1), (.ishl, 1), (.istore 4, 2), (.iconst 1, 1), (.istore 5, 2)] := rfl
theorem lb_X7_canDressFrom_8 : bk_X7_canDressFrom.lookup 8 = some [(.iload 5, 2), (.aload_n 1, 1), (.getfield 26, 3), (.if_icmp .ge 72, 3)] := rfl
theorem lb_X7_canDressFrom_17 : bk_X7_canDressFrom.lookup 17 = some [(.iload 4, 2), (.ifCond .eq 67, 3)] := rfl
theorem lb_X7_canDressFrom_22 : bk_X7_canDressFrom.lookup 22 = some [(.iconst 0, 1), (.istore 6, 2), (.iconst 0, 1), (.istore 7, 2)] := rfl
theorem lb_X7_canDressFrom_28 : bk_X7_canDressFrom.lookup 28 = some [(.iload 7, 2), (.aload_n 0, 1), (.getfield 32, 3), (.if_icmp .ge 42, 3)] := rfl
theorem lb_X7_canDressFrom_37 : bk_X7_canDressFrom.lookup 37 = some [(.iload 4, 2), (.iload 7, 2)] := rfl
theorem lb_X7_canDressFrom_41 : bk_X7_canDressFrom.lookup 41 = some [(.invokestatic 40, 3)] := rfl
theorem lb_X7_canDressFrom_44 : bk_X7_canDressFrom.lookup 44 = some [(.ifCond .eq 26, 3)] := rfl
theorem lb_X7_canDressFrom_47 : bk_X7_canDressFrom.lookup 47 = some [(.iload 6, 2), (.iload_n 2, 1), (.aload_n 1, 1), (.getfield 37, 3), (.iload 5, 2), (.iaload, 1), (.iand, 1), (.aload_n 0, 1), (.iload 7, 2)] := rfl
theorem lb_X7_canDressFrom_61 : bk_X7_canDressFrom.lookup 61 = some [(.invokevirtual 60, 3)] := rfl
theorem lb_X7_canDressFrom_64 : bk_X7_canDressFrom.lookup 64 = some [(.iconst (-1), 1), (.ixor, 1), (.iand, 1), (.ior, 1), (.istore 6, 2)] := rfl
theorem lb_X7_canDressFrom_70 : bk_X7_canDressFrom.lookup 70 = some [(.iinc 7 1, 3), (.goto (-45), 3)] := rfl
theorem lb_X7_canDressFrom_76 : bk_X7_canDressFrom.lookup 76 = some [(.iload 6, 2), (.istore 4, 2), (.iinc 5 1, 3), (.goto (-75), 3)] := rfl
theorem lb_X7_canDressFrom_86 : bk_X7_canDressFrom.lookup 86 = some [(.iload 4, 2), (.aload_n 0, 1), (.iload_n 3, 1)] := rfl
theorem lb_X7_canDressFrom_90 : bk_X7_canDressFrom.lookup 90 = some [(.invokevirtual 60, 3)] := rfl
theorem lb_X7_canDressFrom_93 : bk_X7_canDressFrom.lookup 93 = some [(.iconst (-1), 1), (.ixor, 1), (.iand, 1), (.ifCond .eq 7, 3)] := rfl
theorem lb_X7_canDressFrom_99 : bk_X7_canDressFrom.lookup 99 = some [(.iconst 1, 1), (.goto 4, 3)] := rfl
theorem lb_X7_canDressFrom_103 : bk_X7_canDressFrom.lookup 103 = some [(.iconst 0, 1)] := rfl
theorem lb_X7_canDressFrom_104 : bk_X7_canDressFrom.lookup 104 = some [(.ireturn, 1)] := rfl
def f_X7_canDressFrom_86 (a0 : Nat) (a1 : Nat) (a2 : Int32) (a3 : Int32) (x4 : Int32) (M : PM) : Option (Int32 × PM) :=
  hr_bd (f_X4_foesOf a0 a3 M) (fun v2 M2 =>
  if (x4 &&& (v2 ^^^ (-1))) = 0 then
    some (0, M2)
  else
    some (1, M2))
theorem g_X7_canDressFrom_86 (a0 : Nat) (a1 : Nat) (a2 : Int32) (a3 : Int32) (ka0 : hr_K a0 = 3) (ka1 : hr_K a1 = 5) : ∀ (x4 : Int32) (M : PM) (r : Int32 × PM), f_X7_canDressFrom_86 a0 a1 a2 a3 x4 M = some r → hr_G 100 86 [some (.ref a0), none, none, some (.int a3), some (.int x4), none, none, none] [] M (some (.int r.1), r.2) := by
  intro x4 M r h
  unfold f_X7_canDressFrom_86 at h
  refine hr_Grun mf_X7_canDressFrom lb_X7_canDressFrom_86 (P := True) (pc' := 90) (ls' := [some (.ref a0), none, none, some (.int a3), some (.int x4), none, none, none]) (st' := [.int a3, .ref a0, .int x4]) (M' := M) rfl rfl trivial ?_
  refine hr_Fb h (fun v2 M2 e2 h => ?_)
  refine hr_Gcv mf_X7_canDressFrom mf_X4_foesOf lb_X7_canDressFrom_90 (b := a0) (as := [.int a3]) (rest := [.int x4]) (st2 := [.int v2, .int x4]) (v := some (.int v2)) (M1 := M2) rfl rfl rfl rfl rfl rfl ka0 (g_X4_foesOf a0 a3 _ _ e2) rfl rfl ?_
  refine hr_Grun mf_X7_canDressFrom lb_X7_canDressFrom_93 (P := True) (pc' := if (x4 &&& (v2 ^^^ (-1))) = 0 then 103 else 99) (ls' := [some (.ref a0), none, none, some (.int a3), some (.int x4), none, none, none]) (st' := []) (M' := M2) rfl rfl trivial ?_
  refine hr_Gif h (fun _ h => ?_) (fun _ h => ?_)
  · refine hr_Grun mf_X7_canDressFrom lb_X7_canDressFrom_103 (P := True) (pc' := 104) (ls' := [some (.ref a0), none, none, some (.int a3), some (.int x4), none, none, none]) (st' := [.int 0]) (M' := M2) rfl rfl trivial ?_
    cases h
    exact hr_Gret mf_X7_canDressFrom lb_X7_canDressFrom_104 rfl rfl (Or.inl rfl)
  · refine hr_Grun mf_X7_canDressFrom lb_X7_canDressFrom_99 (P := True) (pc' := 104) (ls' := [some (.ref a0), none, none, some (.int a3), some (.int x4), none, none, none]) (st' := [.int 1]) (M' := M2) rfl rfl trivial ?_
    cases h
    exact hr_Gret mf_X7_canDressFrom lb_X7_canDressFrom_104 rfl rfl (Or.inr rfl)
def f_X7_canDressFrom_28 (a0 : Nat) (a1 : Nat) (a2 : Int32) (a3 : Int32) (k8 : Int32 → Int32 → PM → Option (Int32 × PM)) : Nat → Int32 → Int32 → Int32 → Int32 → PM → Option (Int32 × PM)
  | 0, _, _, _, _, _ => none
  | f + 1, x4, x5, x6, x7, M =>
    if (M.1 a0 0) ≤ x7 then
      k8 x6 (x5 + 1) M
    else
      hr_bd (f_X10_holdsBit x4 x7 M) (fun v4 M4 =>
      if v4 = 0 then
        f_X7_canDressFrom_28 a0 a1 a2 a3 k8 f x4 x5 x6 (x7 + 1) M4
      else
        if inB x5 40 = true then 
        hr_bd (f_X4_foesOf a0 x7 M4) (fun v8 M8 =>
        f_X7_canDressFrom_28 a0 a1 a2 a3 k8 f x4 x5 (x6 ||| ((a2 &&& (M4.1 (a1 + 2) x5.toNatClampNeg)) &&& (v8 ^^^ (-1)))) (x7 + 1) M8) else none)
theorem g_X7_canDressFrom_28 (a0 : Nat) (a1 : Nat) (a2 : Int32) (a3 : Int32) (ka0 : hr_K a0 = 3) (ka1 : hr_K a1 = 5) (k8 : Int32 → Int32 → PM → Option (Int32 × PM)) (hk8 : ∀ (x4 : Int32) (x5 : Int32) (M : PM) (r : Int32 × PM), k8 x4 x5 M = some r → hr_G 100 8 [some (.ref a0), some (.ref a1), some (.int a2), some (.int a3), some (.int x4), some (.int x5), none, none] [] M (some (.int r.1), r.2)) : ∀ (f : Nat) (x4 : Int32) (x5 : Int32) (x6 : Int32) (x7 : Int32) (M : PM) (r : Int32 × PM), f_X7_canDressFrom_28 a0 a1 a2 a3 k8 f x4 x5 x6 x7 M = some r → hr_G 100 28 [some (.ref a0), some (.ref a1), some (.int a2), some (.int a3), some (.int x4), some (.int x5), some (.int x6), some (.int x7)] [] M (some (.int r.1), r.2) := by
  intro f
  induction f with
  | zero => intro x4 x5 x6 x7 M r h; cases h
  | succ f ih =>
    intro x4 x5 x6 x7 M r h
    rw [f_X7_canDressFrom_28.eq_2] at h
    refine hr_Grun mf_X7_canDressFrom lb_X7_canDressFrom_28 (P := hr_K a0 = 3 ∧ True) (pc' := if (M.1 a0 0) ≤ x7 then 76 else 37) (ls' := [some (.ref a0), some (.ref a1), some (.int a2), some (.int a3), some (.int x4), some (.int x5), some (.int x6), some (.int x7)]) (st' := []) (M' := M) rfl rfl ⟨ka0, trivial⟩ ?_
    refine hr_Gif h (fun _ h => ?_) (fun _ h => ?_)
    · refine hr_Grun mf_X7_canDressFrom lb_X7_canDressFrom_76 (P := True) (pc' := 8) (ls' := [some (.ref a0), some (.ref a1), some (.int a2), some (.int a3), some (.int x6), some (.int (x5 + 1)), some (.int x6), some (.int x7)]) (st' := []) (M' := M) rfl rfl trivial ?_
      refine hr_Gle (ls := [some (.ref a0), some (.ref a1), some (.int a2), some (.int a3), some (.int x6), some (.int (x5 + 1)), none, none]) (hr_le_s (hr_le_s (hr_le_s (hr_le_s (hr_le_s (hr_le_s (hr_le_n (hr_le_n hr_le_0)))))))) ?_
      exact hk8 x6 (x5 + 1) M _ h
    · refine hr_Grun mf_X7_canDressFrom lb_X7_canDressFrom_37 (P := True) (pc' := 41) (ls' := [some (.ref a0), some (.ref a1), some (.int a2), some (.int a3), some (.int x4), some (.int x5), some (.int x6), some (.int x7)]) (st' := [.int x7, .int x4]) (M' := M) rfl rfl trivial ?_
      refine hr_Fb h (fun v4 M4 e4 h => ?_)
      refine hr_Gcs mf_X7_canDressFrom mf_X10_holdsBit lb_X7_canDressFrom_41 (as := [.int x4, .int x7]) (rest := []) (st2 := [.int v4]) (v := some (.int v4)) (M1 := M4) rfl rfl rfl rfl rfl rfl (g_X10_holdsBit x4 x7 _ _ e4) rfl rfl ?_
      refine hr_Grun mf_X7_canDressFrom lb_X7_canDressFrom_44 (P := True) (pc' := if v4 = 0 then 70 else 47) (ls' := [some (.ref a0), some (.ref a1), some (.int a2), some (.int a3), some (.int x4), some (.int x5), some (.int x6), some (.int x7)]) (st' := []) (M' := M4) rfl rfl trivial ?_
      refine hr_Gif h (fun _ h => ?_) (fun _ h => ?_)
      · refine hr_Grun mf_X7_canDressFrom lb_X7_canDressFrom_70 (P := True) (pc' := 28) (ls' := [some (.ref a0), some (.ref a1), some (.int a2), some (.int a3), some (.int x4), some (.int x5), some (.int x6), some (.int (x7 + 1))]) (st' := []) (M' := M4) rfl rfl trivial ?_
        exact ih x4 x5 x6 (x7 + 1) M4 _ h
      · refine hr_Fg h (fun hg7_0 h => ?_)
        refine hr_Grun mf_X7_canDressFrom lb_X7_canDressFrom_47 (P := hr_K a1 = 5 ∧ (hr_K (a1 + 2) = 12 ∧ vp_in x5 (hr_N (a1 + 2))) ∧ True) (pc' := 61) (ls' := [some (.ref a0), some (.ref a1), some (.int a2), some (.int a3), some (.int x4), some (.int x5), some (.int x6), some (.int x7)]) (st' := [.int x7, .ref a0, .int (a2 &&& (M4.1 (a1 + 2) x5.toNatClampNeg)), .int x6]) (M' := M4) rfl rfl ⟨ka1, ⟨(kf_5_4 ka1).1, (inB_N (kf_5_4 ka1).2.1 hg7_0)⟩, trivial⟩ ?_
        refine hr_Fb h (fun v8 M8 e8 h => ?_)
        refine hr_Gcv mf_X7_canDressFrom mf_X4_foesOf lb_X7_canDressFrom_61 (b := a0) (as := [.int x7]) (rest := [.int (a2 &&& (M4.1 (a1 + 2) x5.toNatClampNeg)), .int x6]) (st2 := [.int v8, .int (a2 &&& (M4.1 (a1 + 2) x5.toNatClampNeg)), .int x6]) (v := some (.int v8)) (M1 := M8) rfl rfl rfl rfl rfl rfl ka0 (g_X4_foesOf a0 x7 _ _ e8) rfl rfl ?_
        refine hr_Grun mf_X7_canDressFrom lb_X7_canDressFrom_64 (P := True) (pc' := 70) (ls' := [some (.ref a0), some (.ref a1), some (.int a2), some (.int a3), some (.int x4), some (.int x5), some (.int (x6 ||| ((a2 &&& (M4.1 (a1 + 2) x5.toNatClampNeg)) &&& (v8 ^^^ (-1))))), some (.int x7)]) (st' := []) (M' := M8) rfl rfl trivial ?_
        refine hr_Grun mf_X7_canDressFrom lb_X7_canDressFrom_70 (P := True) (pc' := 28) (ls' := [some (.ref a0), some (.ref a1), some (.int a2), some (.int a3), some (.int x4), some (.int x5), some (.int (x6 ||| ((a2 &&& (M4.1 (a1 + 2) x5.toNatClampNeg)) &&& (v8 ^^^ (-1))))), some (.int (x7 + 1))]) (st' := []) (M' := M8) rfl rfl trivial ?_
        exact ih x4 x5 (x6 ||| ((a2 &&& (M4.1 (a1 + 2) x5.toNatClampNeg)) &&& (v8 ^^^ (-1)))) (x7 + 1) M8 _ h
def f_X7_canDressFrom_8 (a0 : Nat) (a1 : Nat) (a2 : Int32) (a3 : Int32) : Nat → Int32 → Int32 → PM → Option (Int32 × PM)
  | 0, _, _, _ => none
  | f + 1, x4, x5, M =>
    if (M.1 a1 0) ≤ x5 then
      f_X7_canDressFrom_86 a0 a1 a2 a3 x4 M
    else
      if x4 = 0 then
        f_X7_canDressFrom_86 a0 a1 a2 a3 x4 M
      else
        f_X7_canDressFrom_28 a0 a1 a2 a3 (fun x4 x5 M => f_X7_canDressFrom_8 a0 a1 a2 a3 f x4 x5 M) FU x4 x5 0 0 M
theorem g_X7_canDressFrom_8 (a0 : Nat) (a1 : Nat) (a2 : Int32) (a3 : Int32) (ka0 : hr_K a0 = 3) (ka1 : hr_K a1 = 5) : ∀ (f : Nat) (x4 : Int32) (x5 : Int32) (M : PM) (r : Int32 × PM), f_X7_canDressFrom_8 a0 a1 a2 a3 f x4 x5 M = some r → hr_G 100 8 [some (.ref a0), some (.ref a1), some (.int a2), some (.int a3), some (.int x4), some (.int x5), none, none] [] M (some (.int r.1), r.2) := by
  intro f
  induction f with
  | zero => intro x4 x5 M r h; cases h
  | succ f ih =>
    intro x4 x5 M r h
    rw [f_X7_canDressFrom_8.eq_2] at h
    refine hr_Grun mf_X7_canDressFrom lb_X7_canDressFrom_8 (P := hr_K a1 = 5 ∧ True) (pc' := if (M.1 a1 0) ≤ x5 then 86 else 17) (ls' := [some (.ref a0), some (.ref a1), some (.int a2), some (.int a3), some (.int x4), some (.int x5), none, none]) (st' := []) (M' := M) rfl rfl ⟨ka1, trivial⟩ ?_
    refine hr_Gif h (fun _ h => ?_) (fun _ h => ?_)
    · refine hr_Gle (ls := [some (.ref a0), none, none, some (.int a3), some (.int x4), none, none, none]) (hr_le_s (hr_le_n (hr_le_n (hr_le_s (hr_le_s (hr_le_n (hr_le_n (hr_le_n hr_le_0)))))))) ?_
      exact g_X7_canDressFrom_86 a0 a1 a2 a3 ka0 ka1 x4 M _ h
    · refine hr_Grun mf_X7_canDressFrom lb_X7_canDressFrom_17 (P := True) (pc' := if x4 = 0 then 86 else 22) (ls' := [some (.ref a0), some (.ref a1), some (.int a2), some (.int a3), some (.int x4), some (.int x5), none, none]) (st' := []) (M' := M) rfl rfl trivial ?_
      refine hr_Gif h (fun _ h => ?_) (fun _ h => ?_)
      · refine hr_Gle (ls := [some (.ref a0), none, none, some (.int a3), some (.int x4), none, none, none]) (hr_le_s (hr_le_n (hr_le_n (hr_le_s (hr_le_s (hr_le_n (hr_le_n (hr_le_n hr_le_0)))))))) ?_
        exact g_X7_canDressFrom_86 a0 a1 a2 a3 ka0 ka1 x4 M _ h
      · refine hr_Grun mf_X7_canDressFrom lb_X7_canDressFrom_22 (P := True) (pc' := 28) (ls' := [some (.ref a0), some (.ref a1), some (.int a2), some (.int a3), some (.int x4), some (.int x5), some (.int 0), some (.int 0)]) (st' := []) (M' := M) rfl rfl trivial ?_
        exact g_X7_canDressFrom_28 a0 a1 a2 a3 ka0 ka1 (fun x4 x5 M => f_X7_canDressFrom_8 a0 a1 a2 a3 f x4 x5 M) (fun x4 x5 M r h => ih x4 x5 M r h) FU x4 x5 0 0 M _ h
def f_X7_canDressFrom (a0 : Nat) (a1 : Nat) (a2 : Int32) (a3 : Int32) (M : PM) : Option (Int32 × PM) :=
  if hr_K a0 = 3 then if hr_K a1 = 5 then f_X7_canDressFrom_8 a0 a1 a2 a3 FU (jl 1 a3) 1 M else none else none
theorem g_X7_canDressFrom (a0 : Nat) (a1 : Nat) (a2 : Int32) (a3 : Int32) : ∀ (M : PM) (r : Int32 × PM), f_X7_canDressFrom a0 a1 a2 a3 M = some r → hr_G 100 0 [some (.ref a0), some (.ref a1), some (.int a2), some (.int a3), none, none, none, none] [] M (some (.int r.1), r.2) := by
  intro M r h
  unfold f_X7_canDressFrom at h
  refine hr_Fg h (fun ka0 h => ?_)
  refine hr_Fg h (fun ka1 h => ?_)
  refine hr_Grun mf_X7_canDressFrom lb_X7_canDressFrom_0 (P := True) (pc' := 8) (ls' := [some (.ref a0), some (.ref a1), some (.int a2), some (.int a3), some (.int (jl 1 a3)), some (.int 1), none, none]) (st' := []) (M' := M) rfl rfl trivial ?_
  exact g_X7_canDressFrom_8 a0 a1 a2 a3 ka0 ka1 FU (jl 1 a3) 1 M _ h
theorem mf_X7_canDress : hr_mf 99 7 2 (some .boolean) 4 3 bk_X7_canDress := ⟨rfl, rfl, rfl, rfl, rfl, rfl⟩
theorem lb_X7_canDress_0 : bk_X7_canDress.lookup 0 = some [(.iconst 0, 1), (.istore_n 3, 1)] := rfl
theorem lb_X7_canDress_2 : bk_X7_canDress.lookup 2 = some [(.iload_n 3, 1), (.aload_n 1, 1), (.getfield 26, 3), (.if_icmp .ge 22, 3)] := rfl
theorem lb_X7_canDress_10 : bk_X7_canDress.lookup 10 = some [(.aload_n 1, 1), (.getfield 37, 3), (.iload_n 3, 1), (.iaload, 1), (.iload_n 2, 1), (.iand, 1), (.ifCond .ne 5, 3)] := rfl
theorem lb_X7_canDress_21 : bk_X7_canDress.lookup 21 = some [(.iconst 0, 1)] := rfl
theorem lb_X7_canDress_22 : bk_X7_canDress.lookup 22 = some [(.ireturn, 1)] := rfl
theorem lb_X7_canDress_23 : bk_X7_canDress.lookup 23 = some [(.iinc 3 1, 3), (.goto (-24), 3)] := rfl
theorem lb_X7_canDress_29 : bk_X7_canDress.lookup 29 = some [(.iconst 0, 1), (.istore_n 3, 1)] := rfl
theorem lb_X7_canDress_31 : bk_X7_canDress.lookup 31 = some [(.iload_n 3, 1), (.aload_n 0, 1), (.getfield 32, 3), (.if_icmp .ge 36, 3)] := rfl
theorem lb_X7_canDress_39 : bk_X7_canDress.lookup 39 = some [(.iload_n 2, 1), (.aload_n 1, 1), (.getfield 37, 3), (.iconst 0, 1), (.iaload, 1), (.iand, 1), (.iload_n 3, 1)] := rfl
theorem lb_X7_canDress_48 : bk_X7_canDress.lookup 48 = some [(.invokestatic 40, 3)] := rfl
theorem lb_X7_canDress_51 : bk_X7_canDress.lookup 51 = some [(.ifCond .eq 15, 3)] := rfl
theorem lb_X7_canDress_54 : bk_X7_canDress.lookup 54 = some [(.aload_n 0, 1), (.aload_n 1, 1), (.iload_n 2, 1), (.iload_n 3, 1)] := rfl
theorem lb_X7_canDress_58 : bk_X7_canDress.lookup 58 = some [(.invokestatic 77, 3)] := rfl
theorem lb_X7_canDress_61 : bk_X7_canDress.lookup 61 = some [(.ifCond .eq 5, 3)] := rfl
theorem lb_X7_canDress_64 : bk_X7_canDress.lookup 64 = some [(.iconst 1, 1)] := rfl
theorem lb_X7_canDress_65 : bk_X7_canDress.lookup 65 = some [(.ireturn, 1)] := rfl
theorem lb_X7_canDress_66 : bk_X7_canDress.lookup 66 = some [(.iinc 3 1, 3), (.goto (-38), 3)] := rfl
theorem lb_X7_canDress_72 : bk_X7_canDress.lookup 72 = some [(.iconst 0, 1)] := rfl
theorem lb_X7_canDress_73 : bk_X7_canDress.lookup 73 = some [(.ireturn, 1)] := rfl
def f_X7_canDress_31 (a0 : Nat) (a1 : Nat) (a2 : Int32) : Nat → Int32 → PM → Option (Int32 × PM)
  | 0, _, _ => none
  | f + 1, x3, M =>
    if (M.1 a0 0) ≤ x3 then
      some (0, M)
    else
      if inB 0 40 = true then 
      hr_bd (f_X10_holdsBit (a2 &&& (M.1 (a1 + 2) (0 : Int32).toNatClampNeg)) x3 M) (fun v4 M4 =>
      if v4 = 0 then
        f_X7_canDress_31 a0 a1 a2 f (x3 + 1) M4
      else
        hr_bd (f_X7_canDressFrom a0 a1 a2 x3 M4) (fun v8 M8 =>
        if v8 = 0 then
          f_X7_canDress_31 a0 a1 a2 f (x3 + 1) M8
        else
          some (1, M8))) else none
theorem g_X7_canDress_31 (a0 : Nat) (a1 : Nat) (a2 : Int32) (ka0 : hr_K a0 = 3) (ka1 : hr_K a1 = 5) : ∀ (f : Nat) (x3 : Int32) (M : PM) (r : Int32 × PM), f_X7_canDress_31 a0 a1 a2 f x3 M = some r → hr_G 99 31 [some (.ref a0), some (.ref a1), some (.int a2), some (.int x3)] [] M (some (.int r.1), r.2) := by
  intro f
  induction f with
  | zero => intro x3 M r h; cases h
  | succ f ih =>
    intro x3 M r h
    rw [f_X7_canDress_31.eq_2] at h
    refine hr_Grun mf_X7_canDress lb_X7_canDress_31 (P := hr_K a0 = 3 ∧ True) (pc' := if (M.1 a0 0) ≤ x3 then 72 else 39) (ls' := [some (.ref a0), some (.ref a1), some (.int a2), some (.int x3)]) (st' := []) (M' := M) rfl rfl ⟨ka0, trivial⟩ ?_
    refine hr_Gif h (fun _ h => ?_) (fun _ h => ?_)
    · refine hr_Grun mf_X7_canDress lb_X7_canDress_72 (P := True) (pc' := 73) (ls' := [some (.ref a0), some (.ref a1), some (.int a2), some (.int x3)]) (st' := [.int 0]) (M' := M) rfl rfl trivial ?_
      cases h
      exact hr_Gret mf_X7_canDress lb_X7_canDress_73 rfl rfl (Or.inl rfl)
    · refine hr_Fg h (fun hg3_0 h => ?_)
      refine hr_Grun mf_X7_canDress lb_X7_canDress_39 (P := hr_K a1 = 5 ∧ (hr_K (a1 + 2) = 12 ∧ vp_in 0 (hr_N (a1 + 2))) ∧ True) (pc' := 48) (ls' := [some (.ref a0), some (.ref a1), some (.int a2), some (.int x3)]) (st' := [.int x3, .int (a2 &&& (M.1 (a1 + 2) (0 : Int32).toNatClampNeg))]) (M' := M) rfl rfl ⟨ka1, ⟨(kf_5_4 ka1).1, (inB_N (kf_5_4 ka1).2.1 hg3_0)⟩, trivial⟩ ?_
      refine hr_Fb h (fun v4 M4 e4 h => ?_)
      refine hr_Gcs mf_X7_canDress mf_X10_holdsBit lb_X7_canDress_48 (as := [.int (a2 &&& (M.1 (a1 + 2) (0 : Int32).toNatClampNeg)), .int x3]) (rest := []) (st2 := [.int v4]) (v := some (.int v4)) (M1 := M4) rfl rfl rfl rfl rfl rfl (g_X10_holdsBit (a2 &&& (M.1 (a1 + 2) (0 : Int32).toNatClampNeg)) x3 _ _ e4) rfl rfl ?_
      refine hr_Grun mf_X7_canDress lb_X7_canDress_51 (P := True) (pc' := if v4 = 0 then 66 else 54) (ls' := [some (.ref a0), some (.ref a1), some (.int a2), some (.int x3)]) (st' := []) (M' := M4) rfl rfl trivial ?_
      refine hr_Gif h (fun _ h => ?_) (fun _ h => ?_)
      · refine hr_Grun mf_X7_canDress lb_X7_canDress_66 (P := True) (pc' := 31) (ls' := [some (.ref a0), some (.ref a1), some (.int a2), some (.int (x3 + 1))]) (st' := []) (M' := M4) rfl rfl trivial ?_
        exact ih (x3 + 1) M4 _ h
      · refine hr_Grun mf_X7_canDress lb_X7_canDress_54 (P := True) (pc' := 58) (ls' := [some (.ref a0), some (.ref a1), some (.int a2), some (.int x3)]) (st' := [.int x3, .int a2, .ref a1, .ref a0]) (M' := M4) rfl rfl trivial ?_
        refine hr_Fb h (fun v8 M8 e8 h => ?_)
        refine hr_Gcs mf_X7_canDress mf_X7_canDressFrom lb_X7_canDress_58 (as := [.ref a0, .ref a1, .int a2, .int x3]) (rest := []) (st2 := [.int v8]) (v := some (.int v8)) (M1 := M8) rfl rfl rfl rfl rfl rfl (g_X7_canDressFrom a0 a1 a2 x3 _ _ e8) rfl rfl ?_
        refine hr_Grun mf_X7_canDress lb_X7_canDress_61 (P := True) (pc' := if v8 = 0 then 66 else 64) (ls' := [some (.ref a0), some (.ref a1), some (.int a2), some (.int x3)]) (st' := []) (M' := M8) rfl rfl trivial ?_
        refine hr_Gif h (fun _ h => ?_) (fun _ h => ?_)
        · refine hr_Grun mf_X7_canDress lb_X7_canDress_66 (P := True) (pc' := 31) (ls' := [some (.ref a0), some (.ref a1), some (.int a2), some (.int (x3 + 1))]) (st' := []) (M' := M8) rfl rfl trivial ?_
          exact ih (x3 + 1) M8 _ h
        · refine hr_Grun mf_X7_canDress lb_X7_canDress_64 (P := True) (pc' := 65) (ls' := [some (.ref a0), some (.ref a1), some (.int a2), some (.int x3)]) (st' := [.int 1]) (M' := M8) rfl rfl trivial ?_
          cases h
          exact hr_Gret mf_X7_canDress lb_X7_canDress_65 rfl rfl (Or.inr rfl)
def f_X7_canDress_2 (a0 : Nat) (a1 : Nat) (a2 : Int32) : Nat → Int32 → PM → Option (Int32 × PM)
  | 0, _, _ => none
  | f + 1, x3, M =>
    if (M.1 a1 0) ≤ x3 then
      f_X7_canDress_31 a0 a1 a2 FU 0 M
    else
      if inB x3 40 = true then if ((M.1 (a1 + 2) x3.toNatClampNeg) &&& a2) = 0 then
        some (0, M)
      else
        f_X7_canDress_2 a0 a1 a2 f (x3 + 1) M
      else none
theorem g_X7_canDress_2 (a0 : Nat) (a1 : Nat) (a2 : Int32) (ka0 : hr_K a0 = 3) (ka1 : hr_K a1 = 5) : ∀ (f : Nat) (x3 : Int32) (M : PM) (r : Int32 × PM), f_X7_canDress_2 a0 a1 a2 f x3 M = some r → hr_G 99 2 [some (.ref a0), some (.ref a1), some (.int a2), some (.int x3)] [] M (some (.int r.1), r.2) := by
  intro f
  induction f with
  | zero => intro x3 M r h; cases h
  | succ f ih =>
    intro x3 M r h
    rw [f_X7_canDress_2.eq_2] at h
    refine hr_Grun mf_X7_canDress lb_X7_canDress_2 (P := hr_K a1 = 5 ∧ True) (pc' := if (M.1 a1 0) ≤ x3 then 29 else 10) (ls' := [some (.ref a0), some (.ref a1), some (.int a2), some (.int x3)]) (st' := []) (M' := M) rfl rfl ⟨ka1, trivial⟩ ?_
    refine hr_Gif h (fun _ h => ?_) (fun _ h => ?_)
    · refine hr_Grun mf_X7_canDress lb_X7_canDress_29 (P := True) (pc' := 31) (ls' := [some (.ref a0), some (.ref a1), some (.int a2), some (.int 0)]) (st' := []) (M' := M) rfl rfl trivial ?_
      exact g_X7_canDress_31 a0 a1 a2 ka0 ka1 FU 0 M _ h
    · refine hr_Fg h (fun hg3_0 h => ?_)
      refine hr_Grun mf_X7_canDress lb_X7_canDress_10 (P := hr_K a1 = 5 ∧ (hr_K (a1 + 2) = 12 ∧ vp_in x3 (hr_N (a1 + 2))) ∧ True) (pc' := if ((M.1 (a1 + 2) x3.toNatClampNeg) &&& a2) = 0 then 21 else 23) (ls' := [some (.ref a0), some (.ref a1), some (.int a2), some (.int x3)]) (st' := []) (M' := M) rfl rfl ⟨ka1, ⟨(kf_5_4 ka1).1, (inB_N (kf_5_4 ka1).2.1 hg3_0)⟩, trivial⟩ ?_
      refine hr_Gif h (fun _ h => ?_) (fun _ h => ?_)
      · refine hr_Grun mf_X7_canDress lb_X7_canDress_21 (P := True) (pc' := 22) (ls' := [some (.ref a0), some (.ref a1), some (.int a2), some (.int x3)]) (st' := [.int 0]) (M' := M) rfl rfl trivial ?_
        cases h
        exact hr_Gret mf_X7_canDress lb_X7_canDress_22 rfl rfl (Or.inl rfl)
      · refine hr_Grun mf_X7_canDress lb_X7_canDress_23 (P := True) (pc' := 2) (ls' := [some (.ref a0), some (.ref a1), some (.int a2), some (.int (x3 + 1))]) (st' := []) (M' := M) rfl rfl trivial ?_
        exact ih (x3 + 1) M _ h
def f_X7_canDress (a0 : Nat) (a1 : Nat) (a2 : Int32) (M : PM) : Option (Int32 × PM) :=
  if hr_K a0 = 3 then if hr_K a1 = 5 then f_X7_canDress_2 a0 a1 a2 FU 0 M else none else none
theorem g_X7_canDress (a0 : Nat) (a1 : Nat) (a2 : Int32) : ∀ (M : PM) (r : Int32 × PM), f_X7_canDress a0 a1 a2 M = some r → hr_G 99 0 [some (.ref a0), some (.ref a1), some (.int a2), none] [] M (some (.int r.1), r.2) := by
  intro M r h
  unfold f_X7_canDress at h
  refine hr_Fg h (fun ka0 h => ?_)
  refine hr_Fg h (fun ka1 h => ?_)
  refine hr_Grun mf_X7_canDress lb_X7_canDress_0 (P := True) (pc' := 2) (ls' := [some (.ref a0), some (.ref a1), some (.int a2), some (.int 0)]) (st' := []) (M' := M) rfl rfl trivial ?_
  exact g_X7_canDress_2 a0 a1 a2 ka0 ka1 FU 0 M _ h
theorem mf_X7_fewestHues : hr_mf 98 7 3 (some .int) 5 2 bk_X7_fewestHues := ⟨rfl, rfl, rfl, rfl, rfl, rfl⟩
theorem lb_X7_fewestHues_0 : bk_X7_fewestHues.lookup 0 = some [(.aload_n 2, 1), (.getfield 26, 3), (.istore_n 3, 1), (.iconst 1, 1), (.istore 4, 2)] := rfl
theorem lb_X7_fewestHues_8 : bk_X7_fewestHues.lookup 8 = some [(.iload 4, 2), (.aload_n 1, 1)] := rfl
theorem lb_X7_fewestHues_11 : bk_X7_fewestHues.lookup 11 = some [(.invokevirtual 64, 3)] := rfl
theorem lb_X7_fewestHues_14 : bk_X7_fewestHues.lookup 14 = some [(.if_icmp .gt 34, 3)] := rfl
theorem lb_X7_fewestHues_17 : bk_X7_fewestHues.lookup 17 = some [(.iload 4, 2)] := rfl
theorem lb_X7_fewestHues_19 : bk_X7_fewestHues.lookup 19 = some [(.invokestatic 68, 3)] := rfl
theorem lb_X7_fewestHues_22 : bk_X7_fewestHues.lookup 22 = some [(.iload_n 3, 1), (.if_icmp .ge 19, 3)] := rfl
theorem lb_X7_fewestHues_26 : bk_X7_fewestHues.lookup 26 = some [(.aload_n 1, 1), (.aload_n 2, 1), (.iload 4, 2)] := rfl
theorem lb_X7_fewestHues_30 : bk_X7_fewestHues.lookup 30 = some [(.invokestatic 73, 3)] := rfl
theorem lb_X7_fewestHues_33 : bk_X7_fewestHues.lookup 33 = some [(.ifCond .eq 9, 3)] := rfl
theorem lb_X7_fewestHues_36 : bk_X7_fewestHues.lookup 36 = some [(.iload 4, 2)] := rfl
theorem lb_X7_fewestHues_38 : bk_X7_fewestHues.lookup 38 = some [(.invokestatic 68, 3)] := rfl
theorem lb_X7_fewestHues_41 : bk_X7_fewestHues.lookup 41 = some [(.istore_n 3, 1)] := rfl
theorem lb_X7_fewestHues_42 : bk_X7_fewestHues.lookup 42 = some [(.iinc 4 1, 3), (.goto (-37), 3)] := rfl
theorem lb_X7_fewestHues_48 : bk_X7_fewestHues.lookup 48 = some [(.iload_n 3, 1)] := rfl
theorem lb_X7_fewestHues_49 : bk_X7_fewestHues.lookup 49 = some [(.ireturn, 1)] := rfl
def f_X7_fewestHues_8 (a1 : Nat) (a2 : Nat) : Nat → Int32 → Int32 → PM → Option (Int32 × PM)
  | 0, _, _, _ => none
  | f + 1, x3, x4, M =>
    hr_bd (f_X4_all a1 M) (fun v2 M2 =>
    if v2 < x4 then
      some (x3, M2)
    else
      hr_bd (f_J6_bitCount_0f7a4 x4 M2) (fun v6 M6 =>
      if x3 ≤ v6 then
        f_X7_fewestHues_8 a1 a2 f x3 (x4 + 1) M6
      else
        hr_bd (f_X7_canDress a1 a2 x4 M6) (fun v10 M10 =>
        if v10 = 0 then
          f_X7_fewestHues_8 a1 a2 f x3 (x4 + 1) M10
        else
          hr_bd (f_J6_bitCount_0f7a4 x4 M10) (fun v14 M14 =>
          f_X7_fewestHues_8 a1 a2 f v14 (x4 + 1) M14))))
theorem g_X7_fewestHues_8 (a1 : Nat) (a2 : Nat) (ka1 : hr_K a1 = 3) (ka2 : hr_K a2 = 5) : ∀ (f : Nat) (x3 : Int32) (x4 : Int32) (M : PM) (r : Int32 × PM), f_X7_fewestHues_8 a1 a2 f x3 x4 M = some r → hr_G 98 8 [none, some (.ref a1), some (.ref a2), some (.int x3), some (.int x4)] [] M (some (.int r.1), r.2) := by
  intro f
  induction f with
  | zero => intro x3 x4 M r h; cases h
  | succ f ih =>
    intro x3 x4 M r h
    rw [f_X7_fewestHues_8.eq_2] at h
    refine hr_Grun mf_X7_fewestHues lb_X7_fewestHues_8 (P := True) (pc' := 11) (ls' := [none, some (.ref a1), some (.ref a2), some (.int x3), some (.int x4)]) (st' := [.ref a1, .int x4]) (M' := M) rfl rfl trivial ?_
    refine hr_Fb h (fun v2 M2 e2 h => ?_)
    refine hr_Gcv mf_X7_fewestHues mf_X4_all lb_X7_fewestHues_11 (b := a1) (as := []) (rest := [.int x4]) (st2 := [.int v2, .int x4]) (v := some (.int v2)) (M1 := M2) rfl rfl rfl rfl rfl rfl ka1 (g_X4_all a1 _ _ e2) rfl rfl ?_
    refine hr_Grun mf_X7_fewestHues lb_X7_fewestHues_14 (P := True) (pc' := if v2 < x4 then 48 else 17) (ls' := [none, some (.ref a1), some (.ref a2), some (.int x3), some (.int x4)]) (st' := []) (M' := M2) rfl rfl trivial ?_
    refine hr_Gif h (fun _ h => ?_) (fun _ h => ?_)
    · refine hr_Grun mf_X7_fewestHues lb_X7_fewestHues_48 (P := True) (pc' := 49) (ls' := [none, some (.ref a1), some (.ref a2), some (.int x3), some (.int x4)]) (st' := [.int x3]) (M' := M2) rfl rfl trivial ?_
      cases h
      exact hr_Gret mf_X7_fewestHues lb_X7_fewestHues_49 rfl rfl trivial
    · refine hr_Grun mf_X7_fewestHues lb_X7_fewestHues_17 (P := True) (pc' := 19) (ls' := [none, some (.ref a1), some (.ref a2), some (.int x3), some (.int x4)]) (st' := [.int x4]) (M' := M2) rfl rfl trivial ?_
      refine hr_Fb h (fun v6 M6 e6 h => ?_)
      refine hr_Gcs mf_X7_fewestHues mf_J6_bitCount_0f7a4 lb_X7_fewestHues_19 (as := [.int x4]) (rest := []) (st2 := [.int v6]) (v := some (.int v6)) (M1 := M6) rfl rfl rfl rfl rfl rfl (g_J6_bitCount_0f7a4 x4 _ _ e6) rfl rfl ?_
      refine hr_Grun mf_X7_fewestHues lb_X7_fewestHues_22 (P := True) (pc' := if x3 ≤ v6 then 42 else 26) (ls' := [none, some (.ref a1), some (.ref a2), some (.int x3), some (.int x4)]) (st' := []) (M' := M6) rfl rfl trivial ?_
      refine hr_Gif h (fun _ h => ?_) (fun _ h => ?_)
      · refine hr_Grun mf_X7_fewestHues lb_X7_fewestHues_42 (P := True) (pc' := 8) (ls' := [none, some (.ref a1), some (.ref a2), some (.int x3), some (.int (x4 + 1))]) (st' := []) (M' := M6) rfl rfl trivial ?_
        exact ih x3 (x4 + 1) M6 _ h
      · refine hr_Grun mf_X7_fewestHues lb_X7_fewestHues_26 (P := True) (pc' := 30) (ls' := [none, some (.ref a1), some (.ref a2), some (.int x3), some (.int x4)]) (st' := [.int x4, .ref a2, .ref a1]) (M' := M6) rfl rfl trivial ?_
        refine hr_Fb h (fun v10 M10 e10 h => ?_)
        refine hr_Gcs mf_X7_fewestHues mf_X7_canDress lb_X7_fewestHues_30 (as := [.ref a1, .ref a2, .int x4]) (rest := []) (st2 := [.int v10]) (v := some (.int v10)) (M1 := M10) rfl rfl rfl rfl rfl rfl (g_X7_canDress a1 a2 x4 _ _ e10) rfl rfl ?_
        refine hr_Grun mf_X7_fewestHues lb_X7_fewestHues_33 (P := True) (pc' := if v10 = 0 then 42 else 36) (ls' := [none, some (.ref a1), some (.ref a2), some (.int x3), some (.int x4)]) (st' := []) (M' := M10) rfl rfl trivial ?_
        refine hr_Gif h (fun _ h => ?_) (fun _ h => ?_)
        · refine hr_Grun mf_X7_fewestHues lb_X7_fewestHues_42 (P := True) (pc' := 8) (ls' := [none, some (.ref a1), some (.ref a2), some (.int x3), some (.int (x4 + 1))]) (st' := []) (M' := M10) rfl rfl trivial ?_
          exact ih x3 (x4 + 1) M10 _ h
        · refine hr_Grun mf_X7_fewestHues lb_X7_fewestHues_36 (P := True) (pc' := 38) (ls' := [none, some (.ref a1), some (.ref a2), some (.int x3), some (.int x4)]) (st' := [.int x4]) (M' := M10) rfl rfl trivial ?_
          refine hr_Fb h (fun v14 M14 e14 h => ?_)
          refine hr_Gcs mf_X7_fewestHues mf_J6_bitCount_0f7a4 lb_X7_fewestHues_38 (as := [.int x4]) (rest := []) (st2 := [.int v14]) (v := some (.int v14)) (M1 := M14) rfl rfl rfl rfl rfl rfl (g_J6_bitCount_0f7a4 x4 _ _ e14) rfl rfl ?_
          refine hr_Grun mf_X7_fewestHues lb_X7_fewestHues_41 (P := True) (pc' := 42) (ls' := [none, some (.ref a1), some (.ref a2), some (.int v14), some (.int x4)]) (st' := []) (M' := M14) rfl rfl trivial ?_
          refine hr_Grun mf_X7_fewestHues lb_X7_fewestHues_42 (P := True) (pc' := 8) (ls' := [none, some (.ref a1), some (.ref a2), some (.int v14), some (.int (x4 + 1))]) (st' := []) (M' := M14) rfl rfl trivial ?_
          exact ih v14 (x4 + 1) M14 _ h
def f_X7_fewestHues (a1 : Nat) (a2 : Nat) (M : PM) : Option (Int32 × PM) :=
  if hr_K a1 = 3 then if hr_K a2 = 5 then f_X7_fewestHues_8 a1 a2 FU (M.1 a2 0) 1 M else none else none
theorem g_X7_fewestHues (a1 : Nat) (a2 : Nat) : ∀ (M : PM) (r : Int32 × PM), f_X7_fewestHues a1 a2 M = some r → hr_G 98 0 [some (.ref 271), some (.ref a1), some (.ref a2), none, none] [] M (some (.int r.1), r.2) := by
  intro M r h
  unfold f_X7_fewestHues at h
  refine hr_Fg h (fun ka1 h => ?_)
  refine hr_Fg h (fun ka2 h => ?_)
  refine hr_Grun mf_X7_fewestHues lb_X7_fewestHues_0 (P := hr_K a2 = 5 ∧ True) (pc' := 8) (ls' := [some (.ref 271), some (.ref a1), some (.ref a2), some (.int (M.1 a2 0)), some (.int 1)]) (st' := []) (M' := M) rfl rfl ⟨ka2, trivial⟩ ?_
  refine hr_Gle (ls := [none, some (.ref a1), some (.ref a2), some (.int (M.1 a2 0)), some (.int 1)]) (hr_le_n (hr_le_s (hr_le_s (hr_le_s (hr_le_s hr_le_0))))) ?_
  exact g_X7_fewestHues_8 a1 a2 ka1 ka2 FU (M.1 a2 0) 1 M _ h
theorem mf_X7_strengthsRound : hr_mf 103 7 1 (some .int) 5 2 bk_X7_strengthsRound := ⟨rfl, rfl, rfl, rfl, rfl, rfl⟩
theorem lb_X7_strengthsRound_0 : bk_X7_strengthsRound.lookup 0 = some [(.iconst 0, 1), (.istore_n 3, 1), (.iconst 1, 1), (.istore 4, 2)] := rfl
theorem lb_X7_strengthsRound_5 : bk_X7_strengthsRound.lookup 5 = some [(.iload 4, 2), (.iload_n 2, 1), (.if_icmp .ge 32, 3)] := rfl
theorem lb_X7_strengthsRound_11 : bk_X7_strengthsRound.lookup 11 = some [(.iload_n 3, 1), (.aload_n 1, 1), (.aload_n 0, 1), (.getfield 19, 3), (.iload 4, 2), (.iconst 1, 1), (.isub, 1), (.iaload, 1), (.aload_n 0, 1), (.getfield 19, 3), (.iload 4, 2), (.iaload, 1)] := rfl
theorem lb_X7_strengthsRound_29 : bk_X7_strengthsRound.lookup 29 = some [(.invokevirtual 52, 3)] := rfl
theorem lb_X7_strengthsRound_32 : bk_X7_strengthsRound.lookup 32 = some [(.iadd, 1), (.istore_n 3, 1), (.iinc 4 1, 3), (.goto (-32), 3)] := rfl
theorem lb_X7_strengthsRound_40 : bk_X7_strengthsRound.lookup 40 = some [(.iload_n 2, 1), (.iconst 2, 1), (.if_icmp .le 24, 3)] := rfl
theorem lb_X7_strengthsRound_45 : bk_X7_strengthsRound.lookup 45 = some [(.iload_n 3, 1), (.aload_n 1, 1), (.aload_n 0, 1), (.getfield 19, 3), (.iload_n 2, 1), (.iconst 1, 1), (.isub, 1), (.iaload, 1), (.aload_n 0, 1), (.getfield 19, 3), (.iconst 0, 1), (.iaload, 1)] := rfl
theorem lb_X7_strengthsRound_61 : bk_X7_strengthsRound.lookup 61 = some [(.invokevirtual 52, 3)] := rfl
theorem lb_X7_strengthsRound_64 : bk_X7_strengthsRound.lookup 64 = some [(.iadd, 1), (.istore_n 3, 1)] := rfl
theorem lb_X7_strengthsRound_66 : bk_X7_strengthsRound.lookup 66 = some [(.iload_n 3, 1)] := rfl
theorem lb_X7_strengthsRound_67 : bk_X7_strengthsRound.lookup 67 = some [(.ireturn, 1)] := rfl
def f_X7_strengthsRound_5 (a1 : Nat) (a2 : Int32) : Nat → Int32 → Int32 → PM → Option (Int32 × PM)
  | 0, _, _, _ => none
  | f + 1, x3, x4, M =>
    if a2 ≤ x4 then
      if a2 ≤ 2 then
        some (x3, M)
      else
        if inB (a2 - 1) 8 = true then if inB 0 8 = true then 
        hr_bd (f_X4_strengthOf a1 (M.1 274 (a2 - 1).toNatClampNeg) (M.1 274 (0 : Int32).toNatClampNeg) M) (fun v5 M5 =>
        some ((x3 + v5), M5)) else none else none
    else
      if inB (x4 - 1) 8 = true then if inB x4 8 = true then 
      hr_bd (f_X4_strengthOf a1 (M.1 274 (x4 - 1).toNatClampNeg) (M.1 274 x4.toNatClampNeg) M) (fun v9 M9 =>
      f_X7_strengthsRound_5 a1 a2 f (x3 + v9) (x4 + 1) M9) else none else none
theorem g_X7_strengthsRound_5 (a1 : Nat) (a2 : Int32) (ka1 : hr_K a1 = 3) : ∀ (f : Nat) (x3 : Int32) (x4 : Int32) (M : PM) (r : Int32 × PM), f_X7_strengthsRound_5 a1 a2 f x3 x4 M = some r → hr_G 103 5 [some (.ref 271), some (.ref a1), some (.int a2), some (.int x3), some (.int x4)] [] M (some (.int r.1), r.2) := by
  intro f
  induction f with
  | zero => intro x3 x4 M r h; cases h
  | succ f ih =>
    intro x3 x4 M r h
    rw [f_X7_strengthsRound_5.eq_2] at h
    refine hr_Grun mf_X7_strengthsRound lb_X7_strengthsRound_5 (P := True) (pc' := if a2 ≤ x4 then 40 else 11) (ls' := [some (.ref 271), some (.ref a1), some (.int a2), some (.int x3), some (.int x4)]) (st' := []) (M' := M) rfl rfl trivial ?_
    refine hr_Gif h (fun _ h => ?_) (fun _ h => ?_)
    · refine hr_Grun mf_X7_strengthsRound lb_X7_strengthsRound_40 (P := True) (pc' := if a2 ≤ 2 then 66 else 45) (ls' := [some (.ref 271), some (.ref a1), some (.int a2), some (.int x3), some (.int x4)]) (st' := []) (M' := M) rfl rfl trivial ?_
      refine hr_Gif h (fun _ h => ?_) (fun _ h => ?_)
      · refine hr_Grun mf_X7_strengthsRound lb_X7_strengthsRound_66 (P := True) (pc' := 67) (ls' := [some (.ref 271), some (.ref a1), some (.int a2), some (.int x3), some (.int x4)]) (st' := [.int x3]) (M' := M) rfl rfl trivial ?_
        cases h
        exact hr_Gret mf_X7_strengthsRound lb_X7_strengthsRound_67 rfl rfl trivial
      · refine hr_Fg h (fun hg4_0 h => ?_)
        refine hr_Fg h (fun hg4_1 h => ?_)
        refine hr_Grun mf_X7_strengthsRound lb_X7_strengthsRound_45 (P := hr_K 271 = 6 ∧ (hr_K 274 = 12 ∧ vp_in (a2 - 1) (hr_N 274)) ∧ hr_K 271 = 6 ∧ (hr_K 274 = 12 ∧ vp_in 0 (hr_N 274)) ∧ True) (pc' := 61) (ls' := [some (.ref 271), some (.ref a1), some (.int a2), some (.int x3), some (.int x4)]) (st' := [.int (M.1 274 (0 : Int32).toNatClampNeg), .int (M.1 274 (a2 - 1).toNatClampNeg), .ref a1, .int x3]) (M' := M) rfl rfl ⟨K_271, ⟨K_274, (inB_N N_274 hg4_0)⟩, K_271, ⟨K_274, (inB_N N_274 hg4_1)⟩, trivial⟩ ?_
        refine hr_Fb h (fun v5 M5 e5 h => ?_)
        refine hr_Gcv mf_X7_strengthsRound mf_X4_strengthOf lb_X7_strengthsRound_61 (b := a1) (as := [.int (M.1 274 (a2 - 1).toNatClampNeg), .int (M.1 274 (0 : Int32).toNatClampNeg)]) (rest := [.int x3]) (st2 := [.int v5, .int x3]) (v := some (.int v5)) (M1 := M5) rfl rfl rfl rfl rfl rfl ka1 (g_X4_strengthOf a1 (M.1 274 (a2 - 1).toNatClampNeg) (M.1 274 (0 : Int32).toNatClampNeg) _ _ e5) rfl rfl ?_
        refine hr_Grun mf_X7_strengthsRound lb_X7_strengthsRound_64 (P := True) (pc' := 66) (ls' := [some (.ref 271), some (.ref a1), some (.int a2), some (.int (x3 + v5)), some (.int x4)]) (st' := []) (M' := M5) rfl rfl trivial ?_
        refine hr_Grun mf_X7_strengthsRound lb_X7_strengthsRound_66 (P := True) (pc' := 67) (ls' := [some (.ref 271), some (.ref a1), some (.int a2), some (.int (x3 + v5)), some (.int x4)]) (st' := [.int (x3 + v5)]) (M' := M5) rfl rfl trivial ?_
        cases h
        exact hr_Gret mf_X7_strengthsRound lb_X7_strengthsRound_67 rfl rfl trivial
    · refine hr_Fg h (fun hg8_0 h => ?_)
      refine hr_Fg h (fun hg8_1 h => ?_)
      refine hr_Grun mf_X7_strengthsRound lb_X7_strengthsRound_11 (P := hr_K 271 = 6 ∧ (hr_K 274 = 12 ∧ vp_in (x4 - 1) (hr_N 274)) ∧ hr_K 271 = 6 ∧ (hr_K 274 = 12 ∧ vp_in x4 (hr_N 274)) ∧ True) (pc' := 29) (ls' := [some (.ref 271), some (.ref a1), some (.int a2), some (.int x3), some (.int x4)]) (st' := [.int (M.1 274 x4.toNatClampNeg), .int (M.1 274 (x4 - 1).toNatClampNeg), .ref a1, .int x3]) (M' := M) rfl rfl ⟨K_271, ⟨K_274, (inB_N N_274 hg8_0)⟩, K_271, ⟨K_274, (inB_N N_274 hg8_1)⟩, trivial⟩ ?_
      refine hr_Fb h (fun v9 M9 e9 h => ?_)
      refine hr_Gcv mf_X7_strengthsRound mf_X4_strengthOf lb_X7_strengthsRound_29 (b := a1) (as := [.int (M.1 274 (x4 - 1).toNatClampNeg), .int (M.1 274 x4.toNatClampNeg)]) (rest := [.int x3]) (st2 := [.int v9, .int x3]) (v := some (.int v9)) (M1 := M9) rfl rfl rfl rfl rfl rfl ka1 (g_X4_strengthOf a1 (M.1 274 (x4 - 1).toNatClampNeg) (M.1 274 x4.toNatClampNeg) _ _ e9) rfl rfl ?_
      refine hr_Grun mf_X7_strengthsRound lb_X7_strengthsRound_32 (P := True) (pc' := 5) (ls' := [some (.ref 271), some (.ref a1), some (.int a2), some (.int (x3 + v9)), some (.int (x4 + 1))]) (st' := []) (M' := M9) rfl rfl trivial ?_
      exact ih (x3 + v9) (x4 + 1) M9 _ h
def f_X7_strengthsRound (a1 : Nat) (a2 : Int32) (M : PM) : Option (Int32 × PM) :=
  if hr_K a1 = 3 then f_X7_strengthsRound_5 a1 a2 FU 0 1 M else none
theorem g_X7_strengthsRound (a1 : Nat) (a2 : Int32) : ∀ (M : PM) (r : Int32 × PM), f_X7_strengthsRound a1 a2 M = some r → hr_G 103 0 [some (.ref 271), some (.ref a1), some (.int a2), none, none] [] M (some (.int r.1), r.2) := by
  intro M r h
  unfold f_X7_strengthsRound at h
  refine hr_Fg h (fun ka1 h => ?_)
  refine hr_Grun mf_X7_strengthsRound lb_X7_strengthsRound_0 (P := True) (pc' := 5) (ls' := [some (.ref 271), some (.ref a1), some (.int a2), some (.int 0), some (.int 1)]) (st' := []) (M' := M) rfl rfl trivial ?_
  exact g_X7_strengthsRound_5 a1 a2 ka1 FU 0 1 M _ h
theorem mf_X7_hueAt : hr_mf 102 7 2 (some .int) 4 2 bk_X7_hueAt := ⟨rfl, rfl, rfl, rfl, rfl, rfl⟩
theorem lb_X7_hueAt_0 : bk_X7_hueAt.lookup 0 = some [(.iload_n 0, 1), (.istore_n 2, 1), (.iconst 0, 1), (.istore_n 3, 1)] := rfl
theorem lb_X7_hueAt_4 : bk_X7_hueAt.lookup 4 = some [(.iload_n 3, 1), (.iload_n 1, 1), (.if_icmp .ge 15, 3)] := rfl
theorem lb_X7_hueAt_9 : bk_X7_hueAt.lookup 9 = some [(.iload_n 2, 1), (.iload_n 2, 1), (.iconst 1, 1), (.isub, 1), (.iand, 1), (.istore_n 2, 1), (.iinc 3 1, 3), (.goto (-14), 3)] := rfl
theorem lb_X7_hueAt_21 : bk_X7_hueAt.lookup 21 = some [(.iconst 0, 1), (.iload_n 2, 1)] := rfl
theorem lb_X7_hueAt_23 : bk_X7_hueAt.lookup 23 = some [(.invokestatic 95, 3)] := rfl
theorem lb_X7_hueAt_26 : bk_X7_hueAt.lookup 26 = some [(.invokestatic 98, 3)] := rfl
theorem lb_X7_hueAt_29 : bk_X7_hueAt.lookup 29 = some [(.ireturn, 1)] := rfl
def f_X7_hueAt_4 (a0 : Int32) (a1 : Int32) : Nat → Int32 → Int32 → PM → Option (Int32 × PM)
  | 0, _, _, _ => none
  | f + 1, x2, x3, M =>
    if a1 ≤ x3 then
      hr_bd (f_X10_leastOf x2 M) (fun v3 M3 =>
      some ((jx 0 v3), M3))
    else
      f_X7_hueAt_4 a0 a1 f (x2 &&& (x2 - 1)) (x3 + 1) M
theorem g_X7_hueAt_4 (a0 : Int32) (a1 : Int32)  : ∀ (f : Nat) (x2 : Int32) (x3 : Int32) (M : PM) (r : Int32 × PM), f_X7_hueAt_4 a0 a1 f x2 x3 M = some r → hr_G 102 4 [none, some (.int a1), some (.int x2), some (.int x3)] [] M (some (.int r.1), r.2) := by
  intro f
  induction f with
  | zero => intro x2 x3 M r h; cases h
  | succ f ih =>
    intro x2 x3 M r h
    rw [f_X7_hueAt_4.eq_2] at h
    refine hr_Grun mf_X7_hueAt lb_X7_hueAt_4 (P := True) (pc' := if a1 ≤ x3 then 21 else 9) (ls' := [none, some (.int a1), some (.int x2), some (.int x3)]) (st' := []) (M' := M) rfl rfl trivial ?_
    refine hr_Gif h (fun _ h => ?_) (fun _ h => ?_)
    · refine hr_Grun mf_X7_hueAt lb_X7_hueAt_21 (P := True) (pc' := 23) (ls' := [none, some (.int a1), some (.int x2), some (.int x3)]) (st' := [.int x2, .int 0]) (M' := M) rfl rfl trivial ?_
      refine hr_Fb h (fun v3 M3 e3 h => ?_)
      refine hr_Gcs mf_X7_hueAt mf_X10_leastOf lb_X7_hueAt_23 (as := [.int x2]) (rest := [.int 0]) (st2 := [.int v3, .int 0]) (v := some (.int v3)) (M1 := M3) rfl rfl rfl rfl rfl rfl (g_X10_leastOf x2 _ _ e3) rfl rfl ?_
      refine hr_Grun mf_X7_hueAt lb_X7_hueAt_26 (P := True) (pc' := 29) (ls' := [none, some (.int a1), some (.int x2), some (.int x3)]) (st' := [.int (jx 0 v3)]) (M' := M3) rfl rfl trivial ?_
      cases h
      exact hr_Gret mf_X7_hueAt lb_X7_hueAt_29 rfl rfl trivial
    · refine hr_Grun mf_X7_hueAt lb_X7_hueAt_9 (P := True) (pc' := 4) (ls' := [none, some (.int a1), some (.int (x2 &&& (x2 - 1))), some (.int (x3 + 1))]) (st' := []) (M' := M) rfl rfl trivial ?_
      exact ih (x2 &&& (x2 - 1)) (x3 + 1) M _ h
def f_X7_hueAt (a0 : Int32) (a1 : Int32) (M : PM) : Option (Int32 × PM) :=
  f_X7_hueAt_4 a0 a1 FU a0 0 M
theorem g_X7_hueAt (a0 : Int32) (a1 : Int32) : ∀ (M : PM) (r : Int32 × PM), f_X7_hueAt a0 a1 M = some r → hr_G 102 0 [some (.int a0), some (.int a1), none, none] [] M (some (.int r.1), r.2) := by
  intro M r h
  unfold f_X7_hueAt at h
  refine hr_Grun mf_X7_hueAt lb_X7_hueAt_0 (P := True) (pc' := 4) (ls' := [some (.int a0), some (.int a1), some (.int a0), some (.int 0)]) (st' := []) (M' := M) rfl rfl trivial ?_
  refine hr_Gle (ls := [none, some (.int a1), some (.int a0), some (.int 0)]) (hr_le_n (hr_le_s (hr_le_s (hr_le_s hr_le_0)))) ?_
  exact g_X7_hueAt_4 a0 a1 FU a0 0 M _ h
theorem mf_X7_dine : hr_mf 101 7 3 none 9 4 bk_X7_dine := ⟨rfl, rfl, rfl, rfl, rfl, rfl⟩
theorem lb_X7_dine_0 : bk_X7_dine.lookup 0 = some [(.aload_n 0, 1), (.iconst 0, 1), (.putfield 81, 3), (.aload_n 0, 1), (.iconst 0, 1), (.putfield 84, 3), (.iload_n 3, 1), (.istore 5, 2), (.iconst 0, 1), (.istore 6, 2)] := rfl
theorem lb_X7_dine_16 : bk_X7_dine.lookup 16 = some [(.iload 6, 2), (.iload 4, 2), (.if_icmp .ge 125, 3)] := rfl
theorem lb_X7_dine_23 : bk_X7_dine.lookup 23 = some [(.iconst 0, 1), (.istore 7, 2)] := rfl
theorem lb_X7_dine_26 : bk_X7_dine.lookup 26 = some [(.iload 7, 2), (.aload_n 2, 1), (.getfield 26, 3), (.if_icmp .ge 66, 3)] := rfl
theorem lb_X7_dine_35 : bk_X7_dine.lookup 35 = some [(.iload 5, 2), (.ldc 87, 2), (.imul, 1), (.sipush 12345, 3), (.iadd, 1), (.istore 5, 2), (.aload_n 2, 1), (.getfield 37, 3), (.iload 7, 2), (.iaload, 1)] := rfl
theorem lb_X7_dine_53 : bk_X7_dine.lookup 53 = some [(.invokestatic 68, 3)] := rfl
theorem lb_X7_dine_56 : bk_X7_dine.lookup 56 = some [(.istore 8, 2), (.aload_n 0, 1), (.getfield 19, 3), (.iload 7, 2), (.iload 8, 2), (.ifCond .ne 7, 3)] := rfl
theorem lb_X7_dine_69 : bk_X7_dine.lookup 69 = some [(.iconst 0, 1), (.goto 21, 3)] := rfl
theorem lb_X7_dine_73 : bk_X7_dine.lookup 73 = some [(.aload_n 2, 1), (.getfield 37, 3), (.iload 7, 2), (.iaload, 1), (.iload 5, 2), (.bipush 16, 2), (.iushr, 1), (.iload 8, 2), (.irem, 1)] := rfl
theorem lb_X7_dine_88 : bk_X7_dine.lookup 88 = some [(.invokestatic 88, 3)] := rfl
theorem lb_X7_dine_91 : bk_X7_dine.lookup 91 = some [(.iastore, 1), (.iinc 7 1, 3), (.goto (-69), 3)] := rfl
theorem lb_X7_dine_98 : bk_X7_dine.lookup 98 = some [(.aload_n 0, 1), (.aload_n 1, 1), (.aload_n 2, 1), (.getfield 26, 3)] := rfl
theorem lb_X7_dine_104 : bk_X7_dine.lookup 104 = some [(.invokevirtual 91, 3)] := rfl
theorem lb_X7_dine_107 : bk_X7_dine.lookup 107 = some [(.istore 7, 2), (.aload_n 0, 1), (.dup, 1), (.getfield 84, 3), (.iload 7, 2), (.iadd, 1), (.putfield 84, 3), (.aload_n 0, 1), (.dup, 1), (.getfield 81, 3), (.iload 7, 2), (.ifCond .ne 7, 3)] := rfl
theorem lb_X7_dine_130 : bk_X7_dine.lookup 130 = some [(.iconst 1, 1), (.goto 4, 3)] := rfl
theorem lb_X7_dine_134 : bk_X7_dine.lookup 134 = some [(.iconst 0, 1)] := rfl
theorem lb_X7_dine_135 : bk_X7_dine.lookup 135 = some [(.iadd, 1), (.putfield 81, 3), (.iinc 6 1, 3), (.goto (-126), 3)] := rfl
theorem lb_X7_dine_145 : bk_X7_dine.lookup 145 = some [(.return_, 1)] := rfl
def f_X7_dine_26 (a1 : Nat) (a2 : Nat) (a3 : Int32) (a4 : Int32) (k16 : Int32 → Int32 → PM → Option (Unit × PM)) : Nat → Int32 → Int32 → Int32 → PM → Option (Unit × PM)
  | 0, _, _, _, _ => none
  | f + 1, x5, x6, x7, M =>
    if (M.1 a2 0) ≤ x7 then
      hr_bd (f_X7_strengthsRound a1 (M.1 a2 0) M) (fun v3 M3 =>
      if v3 = 0 then
        k16 x5 (x6 + 1) (hr_si (hr_si M3 271 5 ((M3.1 271 5) + v3)) 271 4 (((hr_si M3 271 5 ((M3.1 271 5) + v3)).1 271 4) + 1))
      else
        k16 x5 (x6 + 1) (hr_si (hr_si M3 271 5 ((M3.1 271 5) + v3)) 271 4 (((hr_si M3 271 5 ((M3.1 271 5) + v3)).1 271 4) + 0)))
    else
      if inB x7 40 = true then 
      hr_bd (f_J6_bitCount_0f7a4 (M.1 (a2 + 2) x7.toNatClampNeg) M) (fun v10 M10 =>
      if v10 = 0 then
        if inB x7 8 = true then 
        f_X7_dine_26 a1 a2 a3 a4 k16 f ((x5 * 1103515245) + 12345) x6 (x7 + 1) (hr_si M10 274 x7.toNatClampNeg 0) else none
      else
        if inB x7 40 = true then if ¬ v10 = 0 then 
        hr_bd (f_X7_hueAt (M10.1 (a2 + 2) x7.toNatClampNeg) (jr (ju ((x5 * 1103515245) + 12345) 16) v10) M10) (fun v15 M15 =>
        if inB x7 8 = true then 
        f_X7_dine_26 a1 a2 a3 a4 k16 f ((x5 * 1103515245) + 12345) x6 (x7 + 1) (hr_si M15 274 x7.toNatClampNeg v15) else none) else none else none) else none
theorem g_X7_dine_26 (a1 : Nat) (a2 : Nat) (a3 : Int32) (a4 : Int32) (ka1 : hr_K a1 = 3) (ka2 : hr_K a2 = 5) (k16 : Int32 → Int32 → PM → Option (Unit × PM)) (hk16 : ∀ (x5 : Int32) (x6 : Int32) (M : PM) (r : Unit × PM), k16 x5 x6 M = some r → hr_G 101 16 [some (.ref 271), some (.ref a1), some (.ref a2), none, some (.int a4), some (.int x5), some (.int x6), none, none] [] M (none, r.2)) : ∀ (f : Nat) (x5 : Int32) (x6 : Int32) (x7 : Int32) (M : PM) (r : Unit × PM), f_X7_dine_26 a1 a2 a3 a4 k16 f x5 x6 x7 M = some r → hr_G 101 26 [some (.ref 271), some (.ref a1), some (.ref a2), none, some (.int a4), some (.int x5), some (.int x6), some (.int x7), none] [] M (none, r.2) := by
  intro f
  induction f with
  | zero => intro x5 x6 x7 M r h; cases h
  | succ f ih =>
    intro x5 x6 x7 M r h
    rw [f_X7_dine_26.eq_2] at h
    refine hr_Grun mf_X7_dine lb_X7_dine_26 (P := hr_K a2 = 5 ∧ True) (pc' := if (M.1 a2 0) ≤ x7 then 98 else 35) (ls' := [some (.ref 271), some (.ref a1), some (.ref a2), none, some (.int a4), some (.int x5), some (.int x6), some (.int x7), none]) (st' := []) (M' := M) rfl rfl ⟨ka2, trivial⟩ ?_
    refine hr_Gif h (fun _ h => ?_) (fun _ h => ?_)
    · refine hr_Grun mf_X7_dine lb_X7_dine_98 (P := hr_K a2 = 5 ∧ True) (pc' := 104) (ls' := [some (.ref 271), some (.ref a1), some (.ref a2), none, some (.int a4), some (.int x5), some (.int x6), some (.int x7), none]) (st' := [.int (M.1 a2 0), .ref a1, .ref 271]) (M' := M) rfl rfl ⟨ka2, trivial⟩ ?_
      refine hr_Fb h (fun v3 M3 e3 h => ?_)
      refine hr_Gcv mf_X7_dine mf_X7_strengthsRound lb_X7_dine_104 (b := 271) (as := [.ref a1, .int (M.1 a2 0)]) (rest := []) (st2 := [.int v3]) (v := some (.int v3)) (M1 := M3) rfl rfl rfl rfl rfl rfl K_271 (g_X7_strengthsRound a1 (M.1 a2 0) _ _ e3) rfl rfl ?_
      refine hr_Grun mf_X7_dine lb_X7_dine_107 (P := hr_K 271 = 6 ∧ (hr_K 271 = 6 ∧ 271 < hr_n) ∧ hr_K 271 = 6 ∧ True) (pc' := if v3 = 0 then 130 else 134) (ls' := [some (.ref 271), some (.ref a1), some (.ref a2), none, some (.int a4), some (.int x5), some (.int x6), some (.int v3), none]) (st' := [.int ((hr_si M3 271 5 ((M3.1 271 5) + v3)).1 271 4), .ref 271]) (M' := hr_si M3 271 5 ((M3.1 271 5) + v3)) rfl rfl ⟨K_271, ⟨K_271, L_271⟩, K_271, trivial⟩ ?_
      refine hr_Gif h (fun _ h => ?_) (fun _ h => ?_)
      · refine hr_Grun mf_X7_dine lb_X7_dine_130 (P := True) (pc' := 135) (ls' := [some (.ref 271), some (.ref a1), some (.ref a2), none, some (.int a4), some (.int x5), some (.int x6), some (.int v3), none]) (st' := [.int 1, .int ((hr_si M3 271 5 ((M3.1 271 5) + v3)).1 271 4), .ref 271]) (M' := hr_si M3 271 5 ((M3.1 271 5) + v3)) rfl rfl trivial ?_
        refine hr_Grun mf_X7_dine lb_X7_dine_135 (P := (hr_K 271 = 6 ∧ 271 < hr_n) ∧ True) (pc' := 16) (ls' := [some (.ref 271), some (.ref a1), some (.ref a2), none, some (.int a4), some (.int x5), some (.int (x6 + 1)), some (.int v3), none]) (st' := []) (M' := hr_si (hr_si M3 271 5 ((M3.1 271 5) + v3)) 271 4 (((hr_si M3 271 5 ((M3.1 271 5) + v3)).1 271 4) + 1)) rfl rfl ⟨⟨K_271, L_271⟩, trivial⟩ ?_
        refine hr_Gle (ls := [some (.ref 271), some (.ref a1), some (.ref a2), none, some (.int a4), some (.int x5), some (.int (x6 + 1)), none, none]) (hr_le_s (hr_le_s (hr_le_s (hr_le_n (hr_le_s (hr_le_s (hr_le_s (hr_le_n (hr_le_n hr_le_0))))))))) ?_
        exact hk16 x5 (x6 + 1) (hr_si (hr_si M3 271 5 ((M3.1 271 5) + v3)) 271 4 (((hr_si M3 271 5 ((M3.1 271 5) + v3)).1 271 4) + 1)) _ h
      · refine hr_Grun mf_X7_dine lb_X7_dine_134 (P := True) (pc' := 135) (ls' := [some (.ref 271), some (.ref a1), some (.ref a2), none, some (.int a4), some (.int x5), some (.int x6), some (.int v3), none]) (st' := [.int 0, .int ((hr_si M3 271 5 ((M3.1 271 5) + v3)).1 271 4), .ref 271]) (M' := hr_si M3 271 5 ((M3.1 271 5) + v3)) rfl rfl trivial ?_
        refine hr_Grun mf_X7_dine lb_X7_dine_135 (P := (hr_K 271 = 6 ∧ 271 < hr_n) ∧ True) (pc' := 16) (ls' := [some (.ref 271), some (.ref a1), some (.ref a2), none, some (.int a4), some (.int x5), some (.int (x6 + 1)), some (.int v3), none]) (st' := []) (M' := hr_si (hr_si M3 271 5 ((M3.1 271 5) + v3)) 271 4 (((hr_si M3 271 5 ((M3.1 271 5) + v3)).1 271 4) + 0)) rfl rfl ⟨⟨K_271, L_271⟩, trivial⟩ ?_
        refine hr_Gle (ls := [some (.ref 271), some (.ref a1), some (.ref a2), none, some (.int a4), some (.int x5), some (.int (x6 + 1)), none, none]) (hr_le_s (hr_le_s (hr_le_s (hr_le_n (hr_le_s (hr_le_s (hr_le_s (hr_le_n (hr_le_n hr_le_0))))))))) ?_
        exact hk16 x5 (x6 + 1) (hr_si (hr_si M3 271 5 ((M3.1 271 5) + v3)) 271 4 (((hr_si M3 271 5 ((M3.1 271 5) + v3)).1 271 4) + 0)) _ h
    · refine hr_Fg h (fun hg9_0 h => ?_)
      refine hr_Grun mf_X7_dine lb_X7_dine_35 (P := hr_K a2 = 5 ∧ (hr_K (a2 + 2) = 12 ∧ vp_in x7 (hr_N (a2 + 2))) ∧ True) (pc' := 53) (ls' := [some (.ref 271), some (.ref a1), some (.ref a2), none, some (.int a4), some (.int ((x5 * 1103515245) + 12345)), some (.int x6), some (.int x7), none]) (st' := [.int (M.1 (a2 + 2) x7.toNatClampNeg)]) (M' := M) rfl rfl ⟨ka2, ⟨(kf_5_4 ka2).1, (inB_N (kf_5_4 ka2).2.1 hg9_0)⟩, trivial⟩ ?_
      refine hr_Fb h (fun v10 M10 e10 h => ?_)
      refine hr_Gcs mf_X7_dine mf_J6_bitCount_0f7a4 lb_X7_dine_53 (as := [.int (M.1 (a2 + 2) x7.toNatClampNeg)]) (rest := []) (st2 := [.int v10]) (v := some (.int v10)) (M1 := M10) rfl rfl rfl rfl rfl rfl (g_J6_bitCount_0f7a4 (M.1 (a2 + 2) x7.toNatClampNeg) _ _ e10) rfl rfl ?_
      refine hr_Grun mf_X7_dine lb_X7_dine_56 (P := hr_K 271 = 6 ∧ True) (pc' := if v10 = 0 then 69 else 73) (ls' := [some (.ref 271), some (.ref a1), some (.ref a2), none, some (.int a4), some (.int ((x5 * 1103515245) + 12345)), some (.int x6), some (.int x7), some (.int v10)]) (st' := [.int x7, .ref 274]) (M' := M10) rfl rfl ⟨K_271, trivial⟩ ?_
      refine hr_Gif h (fun _ h => ?_) (fun _ h => ?_)
      · refine hr_Grun mf_X7_dine lb_X7_dine_69 (P := True) (pc' := 91) (ls' := [some (.ref 271), some (.ref a1), some (.ref a2), none, some (.int a4), some (.int ((x5 * 1103515245) + 12345)), some (.int x6), some (.int x7), some (.int v10)]) (st' := [.int 0, .int x7, .ref 274]) (M' := M10) rfl rfl trivial ?_
        refine hr_Fg h (fun hg13_0 h => ?_)
        refine hr_Grun mf_X7_dine lb_X7_dine_91 (P := ((hr_K 274 = 12 ∧ 274 < hr_n) ∧ vp_in x7 (hr_N 274)) ∧ True) (pc' := 26) (ls' := [some (.ref 271), some (.ref a1), some (.ref a2), none, some (.int a4), some (.int ((x5 * 1103515245) + 12345)), some (.int x6), some (.int (x7 + 1)), some (.int v10)]) (st' := []) (M' := hr_si M10 274 x7.toNatClampNeg 0) rfl rfl ⟨⟨⟨K_274, L_274⟩, (inB_N N_274 hg13_0)⟩, trivial⟩ ?_
        refine hr_Gle (ls := [some (.ref 271), some (.ref a1), some (.ref a2), none, some (.int a4), some (.int ((x5 * 1103515245) + 12345)), some (.int x6), some (.int (x7 + 1)), none]) (hr_le_s (hr_le_s (hr_le_s (hr_le_n (hr_le_s (hr_le_s (hr_le_s (hr_le_s (hr_le_n hr_le_0))))))))) ?_
        exact ih ((x5 * 1103515245) + 12345) x6 (x7 + 1) (hr_si M10 274 x7.toNatClampNeg 0) _ h
      · refine hr_Fg h (fun hg14_0 h => ?_)
        refine hr_Fg h (fun hg14_1 h => ?_)
        refine hr_Grun mf_X7_dine lb_X7_dine_73 (P := hr_K a2 = 5 ∧ (hr_K (a2 + 2) = 12 ∧ vp_in x7 (hr_N (a2 + 2))) ∧ ¬ v10 = 0 ∧ True) (pc' := 88) (ls' := [some (.ref 271), some (.ref a1), some (.ref a2), none, some (.int a4), some (.int ((x5 * 1103515245) + 12345)), some (.int x6), some (.int x7), some (.int v10)]) (st' := [.int (jr (ju ((x5 * 1103515245) + 12345) 16) v10), .int (M10.1 (a2 + 2) x7.toNatClampNeg), .int x7, .ref 274]) (M' := M10) rfl rfl ⟨ka2, ⟨(kf_5_4 ka2).1, (inB_N (kf_5_4 ka2).2.1 hg14_0)⟩, hg14_1, trivial⟩ ?_
        refine hr_Fb h (fun v15 M15 e15 h => ?_)
        refine hr_Gcs mf_X7_dine mf_X7_hueAt lb_X7_dine_88 (as := [.int (M10.1 (a2 + 2) x7.toNatClampNeg), .int (jr (ju ((x5 * 1103515245) + 12345) 16) v10)]) (rest := [.int x7, .ref 274]) (st2 := [.int v15, .int x7, .ref 274]) (v := some (.int v15)) (M1 := M15) rfl rfl rfl rfl rfl rfl (g_X7_hueAt (M10.1 (a2 + 2) x7.toNatClampNeg) (jr (ju ((x5 * 1103515245) + 12345) 16) v10) _ _ e15) rfl rfl ?_
        refine hr_Fg h (fun hg16_0 h => ?_)
        refine hr_Grun mf_X7_dine lb_X7_dine_91 (P := ((hr_K 274 = 12 ∧ 274 < hr_n) ∧ vp_in x7 (hr_N 274)) ∧ True) (pc' := 26) (ls' := [some (.ref 271), some (.ref a1), some (.ref a2), none, some (.int a4), some (.int ((x5 * 1103515245) + 12345)), some (.int x6), some (.int (x7 + 1)), some (.int v10)]) (st' := []) (M' := hr_si M15 274 x7.toNatClampNeg v15) rfl rfl ⟨⟨⟨K_274, L_274⟩, (inB_N N_274 hg16_0)⟩, trivial⟩ ?_
        refine hr_Gle (ls := [some (.ref 271), some (.ref a1), some (.ref a2), none, some (.int a4), some (.int ((x5 * 1103515245) + 12345)), some (.int x6), some (.int (x7 + 1)), none]) (hr_le_s (hr_le_s (hr_le_s (hr_le_n (hr_le_s (hr_le_s (hr_le_s (hr_le_s (hr_le_n hr_le_0))))))))) ?_
        exact ih ((x5 * 1103515245) + 12345) x6 (x7 + 1) (hr_si M15 274 x7.toNatClampNeg v15) _ h
def f_X7_dine_16 (a1 : Nat) (a2 : Nat) (a3 : Int32) (a4 : Int32) : Nat → Int32 → Int32 → PM → Option (Unit × PM)
  | 0, _, _, _ => none
  | f + 1, x5, x6, M =>
    if a4 ≤ x6 then
      some ((), M)
    else
      f_X7_dine_26 a1 a2 a3 a4 (fun x5 x6 M => f_X7_dine_16 a1 a2 a3 a4 f x5 x6 M) FU x5 x6 0 M
theorem g_X7_dine_16 (a1 : Nat) (a2 : Nat) (a3 : Int32) (a4 : Int32) (ka1 : hr_K a1 = 3) (ka2 : hr_K a2 = 5) : ∀ (f : Nat) (x5 : Int32) (x6 : Int32) (M : PM) (r : Unit × PM), f_X7_dine_16 a1 a2 a3 a4 f x5 x6 M = some r → hr_G 101 16 [some (.ref 271), some (.ref a1), some (.ref a2), none, some (.int a4), some (.int x5), some (.int x6), none, none] [] M (none, r.2) := by
  intro f
  induction f with
  | zero => intro x5 x6 M r h; cases h
  | succ f ih =>
    intro x5 x6 M r h
    rw [f_X7_dine_16.eq_2] at h
    refine hr_Grun mf_X7_dine lb_X7_dine_16 (P := True) (pc' := if a4 ≤ x6 then 145 else 23) (ls' := [some (.ref 271), some (.ref a1), some (.ref a2), none, some (.int a4), some (.int x5), some (.int x6), none, none]) (st' := []) (M' := M) rfl rfl trivial ?_
    refine hr_Gif h (fun _ h => ?_) (fun _ h => ?_)
    · cases h
      exact hr_Gret mf_X7_dine lb_X7_dine_145 rfl rfl trivial
    · refine hr_Grun mf_X7_dine lb_X7_dine_23 (P := True) (pc' := 26) (ls' := [some (.ref 271), some (.ref a1), some (.ref a2), none, some (.int a4), some (.int x5), some (.int x6), some (.int 0), none]) (st' := []) (M' := M) rfl rfl trivial ?_
      exact g_X7_dine_26 a1 a2 a3 a4 ka1 ka2 (fun x5 x6 M => f_X7_dine_16 a1 a2 a3 a4 f x5 x6 M) (fun x5 x6 M r h => ih x5 x6 M r h) FU x5 x6 0 M _ h
def f_X7_dine (a1 : Nat) (a2 : Nat) (a3 : Int32) (a4 : Int32) (M : PM) : Option (Unit × PM) :=
  if hr_K a1 = 3 then if hr_K a2 = 5 then f_X7_dine_16 a1 a2 a3 a4 FU a3 0 (hr_si (hr_si M 271 4 0) 271 5 0) else none else none
theorem g_X7_dine (a1 : Nat) (a2 : Nat) (a3 : Int32) (a4 : Int32) : ∀ (M : PM) (r : Unit × PM), f_X7_dine a1 a2 a3 a4 M = some r → hr_G 101 0 [some (.ref 271), some (.ref a1), some (.ref a2), some (.int a3), some (.int a4), none, none, none, none] [] M (none, r.2) := by
  intro M r h
  unfold f_X7_dine at h
  refine hr_Fg h (fun ka1 h => ?_)
  refine hr_Fg h (fun ka2 h => ?_)
  refine hr_Grun mf_X7_dine lb_X7_dine_0 (P := (hr_K 271 = 6 ∧ 271 < hr_n) ∧ (hr_K 271 = 6 ∧ 271 < hr_n) ∧ True) (pc' := 16) (ls' := [some (.ref 271), some (.ref a1), some (.ref a2), some (.int a3), some (.int a4), some (.int a3), some (.int 0), none, none]) (st' := []) (M' := hr_si (hr_si M 271 4 0) 271 5 0) rfl rfl ⟨⟨K_271, L_271⟩, ⟨K_271, L_271⟩, trivial⟩ ?_
  refine hr_Gle (ls := [some (.ref 271), some (.ref a1), some (.ref a2), none, some (.int a4), some (.int a3), some (.int 0), none, none]) (hr_le_s (hr_le_s (hr_le_s (hr_le_n (hr_le_s (hr_le_s (hr_le_s (hr_le_n (hr_le_n hr_le_0))))))))) ?_
  exact g_X7_dine_16 a1 a2 a3 a4 ka1 ka2 FU a3 0 (hr_si (hr_si M 271 4 0) 271 5 0) _ h
theorem mf_X8_put : hr_mf 104 8 0 none 3 1 bk_X8_put := ⟨rfl, rfl, rfl, rfl, rfl, rfl⟩
theorem lb_X8_put_0 : bk_X8_put.lookup 0 = some [(.bipush 24, 2), (.istore_n 2, 1)] := rfl
theorem lb_X8_put_3 : bk_X8_put.lookup 3 = some [(.iload_n 2, 1), (.ifCond .lt 42, 3)] := rfl
theorem lb_X8_put_7 : bk_X8_put.lookup 7 = some [(.aload_n 0, 1), (.getfield 37, 3), (.sipush 600, 3), (.if_icmp .ge 32, 3)] := rfl
theorem lb_X8_put_17 : bk_X8_put.lookup 17 = some [(.aload_n 0, 1), (.getfield 9, 3), (.aload_n 0, 1), (.getfield 37, 3), (.iload_n 1, 1), (.iload_n 2, 1), (.iushr, 1), (.i2b, 1), (.bastore, 1), (.aload_n 0, 1), (.dup, 1), (.getfield 37, 3), (.iconst 1, 1), (.iadd, 1), (.putfield 37, 3), (.iinc 2 (-8), 3), (.goto (-40), 3)] := rfl
theorem lb_X8_put_46 : bk_X8_put.lookup 46 = some [(.return_, 1)] := rfl
def f_X8_put_3 (a1 : Int32) : Nat → Int32 → PM → Option (Unit × PM)
  | 0, _, _ => none
  | f + 1, x2, M =>
    if x2 < 0 then
      some ((), M)
    else
      if 600 ≤ (M.1 1 1) then
        some ((), M)
      else
        if inB (M.1 1 1) 600 = true then 
        f_X8_put_3 a1 f (x2 + (-8)) (hr_si (hr_si M 2 (M.1 1 1).toNatClampNeg (vp_nar .byte ((ju a1 x2).toInt8.toInt32))) 1 1 (((hr_si M 2 (M.1 1 1).toNatClampNeg (vp_nar .byte ((ju a1 x2).toInt8.toInt32))).1 1 1) + 1)) else none
theorem g_X8_put_3 (a1 : Int32)  : ∀ (f : Nat) (x2 : Int32) (M : PM) (r : Unit × PM), f_X8_put_3 a1 f x2 M = some r → hr_G 104 3 [some (.ref 1), some (.int a1), some (.int x2)] [] M (none, r.2) := by
  intro f
  induction f with
  | zero => intro x2 M r h; cases h
  | succ f ih =>
    intro x2 M r h
    rw [f_X8_put_3.eq_2] at h
    refine hr_Grun mf_X8_put lb_X8_put_3 (P := True) (pc' := if x2 < 0 then 46 else 7) (ls' := [some (.ref 1), some (.int a1), some (.int x2)]) (st' := []) (M' := M) rfl rfl trivial ?_
    refine hr_Gif h (fun _ h => ?_) (fun _ h => ?_)
    · cases h
      exact hr_Gret mf_X8_put lb_X8_put_46 rfl rfl trivial
    · refine hr_Grun mf_X8_put lb_X8_put_7 (P := hr_K 1 = 7 ∧ True) (pc' := if 600 ≤ (M.1 1 1) then 46 else 17) (ls' := [some (.ref 1), some (.int a1), some (.int x2)]) (st' := []) (M' := M) rfl rfl ⟨K_1, trivial⟩ ?_
      refine hr_Gif h (fun _ h => ?_) (fun _ h => ?_)
      · cases h
        exact hr_Gret mf_X8_put lb_X8_put_46 rfl rfl trivial
      · refine hr_Fg h (fun hg3_0 h => ?_)
        refine hr_Grun mf_X8_put lb_X8_put_17 (P := hr_K 1 = 7 ∧ hr_K 1 = 7 ∧ (((hr_K 2 = 11 ∨ hr_K 2 = 14) ∧ 2 < hr_n) ∧ vp_in (M.1 1 1) (hr_N 2)) ∧ hr_K 1 = 7 ∧ (hr_K 1 = 7 ∧ 1 < hr_n) ∧ True) (pc' := 3) (ls' := [some (.ref 1), some (.int a1), some (.int (x2 + (-8)))]) (st' := []) (M' := hr_si (hr_si M 2 (M.1 1 1).toNatClampNeg (vp_nar .byte ((ju a1 x2).toInt8.toInt32))) 1 1 (((hr_si M 2 (M.1 1 1).toNatClampNeg (vp_nar .byte ((ju a1 x2).toInt8.toInt32))).1 1 1) + 1)) rfl rfl ⟨K_1, K_1, ⟨⟨Or.inl K_2, L_2⟩, (inB_N N_2 hg3_0)⟩, K_1, ⟨K_1, L_1⟩, trivial⟩ ?_
        exact ih (x2 + (-8)) (hr_si (hr_si M 2 (M.1 1 1).toNatClampNeg (vp_nar .byte ((ju a1 x2).toInt8.toInt32))) 1 1 (((hr_si M 2 (M.1 1 1).toNatClampNeg (vp_nar .byte ((ju a1 x2).toInt8.toInt32))).1 1 1) + 1)) _ h
def f_X8_put (a1 : Int32) (M : PM) : Option (Unit × PM) :=
  f_X8_put_3 a1 FU 24 M
theorem g_X8_put (a1 : Int32) : ∀ (M : PM) (r : Unit × PM), f_X8_put a1 M = some r → hr_G 104 0 [some (.ref 1), some (.int a1), none] [] M (none, r.2) := by
  intro M r h
  unfold f_X8_put at h
  refine hr_Grun mf_X8_put lb_X8_put_0 (P := True) (pc' := 3) (ls' := [some (.ref 1), some (.int a1), some (.int 24)]) (st' := []) (M' := M) rfl rfl trivial ?_
  exact g_X8_put_3 a1 FU 24 M _ h
theorem mf_X8_slotFor : hr_mf 105 8 0 (some .int) 3 2 bk_X8_slotFor := ⟨rfl, rfl, rfl, rfl, rfl, rfl⟩
theorem lb_X8_slotFor_0 : bk_X8_slotFor.lookup 0 = some [(.iload_n 1, 1), (.ifCond .lt 8, 3)] := rfl
theorem lb_X8_slotFor_4 : bk_X8_slotFor.lookup 4 = some [(.iload_n 1, 1), (.iconst 5, 1), (.if_icmp .lt 6, 3)] := rfl
theorem lb_X8_slotFor_9 : bk_X8_slotFor.lookup 9 = some [(.bipush (-2), 2)] := rfl
theorem lb_X8_slotFor_11 : bk_X8_slotFor.lookup 11 = some [(.ireturn, 1)] := rfl
theorem lb_X8_slotFor_12 : bk_X8_slotFor.lookup 12 = some [(.iload_n 2, 1), (.iconst (-1), 1), (.if_icmp .ne 25, 3)] := rfl
theorem lb_X8_slotFor_17 : bk_X8_slotFor.lookup 17 = some [(.aload_n 0, 1), (.getfield 19, 3), (.iload_n 1, 1), (.iaload, 1), (.iconst 2, 1), (.if_icmp .ge 12, 3)] := rfl
theorem lb_X8_slotFor_27 : bk_X8_slotFor.lookup 27 = some [(.aload_n 0, 1), (.getfield 19, 3), (.iload_n 1, 1), (.iaload, 1), (.goto 5, 3)] := rfl
theorem lb_X8_slotFor_36 : bk_X8_slotFor.lookup 36 = some [(.bipush (-2), 2)] := rfl
theorem lb_X8_slotFor_38 : bk_X8_slotFor.lookup 38 = some [(.ireturn, 1)] := rfl
theorem lb_X8_slotFor_39 : bk_X8_slotFor.lookup 39 = some [(.iload_n 2, 1), (.ifCond .lt 17, 3)] := rfl
theorem lb_X8_slotFor_43 : bk_X8_slotFor.lookup 43 = some [(.iload_n 2, 1), (.aload_n 0, 1), (.getfield 19, 3), (.iload_n 1, 1), (.iaload, 1), (.if_icmp .ge 7, 3)] := rfl
theorem lb_X8_slotFor_53 : bk_X8_slotFor.lookup 53 = some [(.iload_n 2, 1), (.goto 5, 3)] := rfl
theorem lb_X8_slotFor_57 : bk_X8_slotFor.lookup 57 = some [(.bipush (-2), 2)] := rfl
theorem lb_X8_slotFor_59 : bk_X8_slotFor.lookup 59 = some [(.ireturn, 1)] := rfl
def f_X8_slotFor (a1 : Int32) (a2 : Int32) (M : PM) : Option (Int32 × PM) :=
  if a1 < 0 then
    some ((-2), M)
  else
    if a1 < 5 then
      if a2 = (-1) then
        if inB a1 5 = true then if 2 ≤ (M.1 3 a1.toNatClampNeg) then
          some ((-2), M)
        else
          if inB a1 5 = true then 
          some ((M.1 3 a1.toNatClampNeg), M) else none
        else none
      else
        if a2 < 0 then
          some ((-2), M)
        else
          if inB a1 5 = true then if (M.1 3 a1.toNatClampNeg) ≤ a2 then
            some ((-2), M)
          else
            some (a2, M)
          else none
    else
      some ((-2), M)
theorem g_X8_slotFor (a1 : Int32) (a2 : Int32) : ∀ (M : PM) (r : Int32 × PM), f_X8_slotFor a1 a2 M = some r → hr_G 105 0 [some (.ref 1), some (.int a1), some (.int a2)] [] M (some (.int r.1), r.2) := by
  intro M r h
  unfold f_X8_slotFor at h
  refine hr_Grun mf_X8_slotFor lb_X8_slotFor_0 (P := True) (pc' := if a1 < 0 then 9 else 4) (ls' := [some (.ref 1), some (.int a1), some (.int a2)]) (st' := []) (M' := M) rfl rfl trivial ?_
  refine hr_Gif h (fun _ h => ?_) (fun _ h => ?_)
  · refine hr_Grun mf_X8_slotFor lb_X8_slotFor_9 (P := True) (pc' := 11) (ls' := [some (.ref 1), some (.int a1), some (.int a2)]) (st' := [.int (-2)]) (M' := M) rfl rfl trivial ?_
    cases h
    exact hr_Gret mf_X8_slotFor lb_X8_slotFor_11 rfl rfl trivial
  · refine hr_Grun mf_X8_slotFor lb_X8_slotFor_4 (P := True) (pc' := if a1 < 5 then 12 else 9) (ls' := [some (.ref 1), some (.int a1), some (.int a2)]) (st' := []) (M' := M) rfl rfl trivial ?_
    refine hr_Gif h (fun _ h => ?_) (fun _ h => ?_)
    · refine hr_Grun mf_X8_slotFor lb_X8_slotFor_12 (P := True) (pc' := if a2 = (-1) then 17 else 39) (ls' := [some (.ref 1), some (.int a1), some (.int a2)]) (st' := []) (M' := M) rfl rfl trivial ?_
      refine hr_Gif h (fun _ h => ?_) (fun _ h => ?_)
      · refine hr_Fg h (fun hg5_0 h => ?_)
        refine hr_Grun mf_X8_slotFor lb_X8_slotFor_17 (P := hr_K 1 = 7 ∧ (hr_K 3 = 12 ∧ vp_in a1 (hr_N 3)) ∧ True) (pc' := if 2 ≤ (M.1 3 a1.toNatClampNeg) then 36 else 27) (ls' := [some (.ref 1), some (.int a1), some (.int a2)]) (st' := []) (M' := M) rfl rfl ⟨K_1, ⟨K_3, (inB_N N_3 hg5_0)⟩, trivial⟩ ?_
        refine hr_Gif h (fun _ h => ?_) (fun _ h => ?_)
        · refine hr_Grun mf_X8_slotFor lb_X8_slotFor_36 (P := True) (pc' := 38) (ls' := [some (.ref 1), some (.int a1), some (.int a2)]) (st' := [.int (-2)]) (M' := M) rfl rfl trivial ?_
          cases h
          exact hr_Gret mf_X8_slotFor lb_X8_slotFor_38 rfl rfl trivial
        · refine hr_Fg h (fun hg7_0 h => ?_)
          refine hr_Grun mf_X8_slotFor lb_X8_slotFor_27 (P := hr_K 1 = 7 ∧ (hr_K 3 = 12 ∧ vp_in a1 (hr_N 3)) ∧ True) (pc' := 38) (ls' := [some (.ref 1), some (.int a1), some (.int a2)]) (st' := [.int (M.1 3 a1.toNatClampNeg)]) (M' := M) rfl rfl ⟨K_1, ⟨K_3, (inB_N N_3 hg7_0)⟩, trivial⟩ ?_
          cases h
          exact hr_Gret mf_X8_slotFor lb_X8_slotFor_38 rfl rfl trivial
      · refine hr_Grun mf_X8_slotFor lb_X8_slotFor_39 (P := True) (pc' := if a2 < 0 then 57 else 43) (ls' := [some (.ref 1), some (.int a1), some (.int a2)]) (st' := []) (M' := M) rfl rfl trivial ?_
        refine hr_Gif h (fun _ h => ?_) (fun _ h => ?_)
        · refine hr_Grun mf_X8_slotFor lb_X8_slotFor_57 (P := True) (pc' := 59) (ls' := [some (.ref 1), some (.int a1), some (.int a2)]) (st' := [.int (-2)]) (M' := M) rfl rfl trivial ?_
          cases h
          exact hr_Gret mf_X8_slotFor lb_X8_slotFor_59 rfl rfl trivial
        · refine hr_Fg h (fun hg10_0 h => ?_)
          refine hr_Grun mf_X8_slotFor lb_X8_slotFor_43 (P := hr_K 1 = 7 ∧ (hr_K 3 = 12 ∧ vp_in a1 (hr_N 3)) ∧ True) (pc' := if (M.1 3 a1.toNatClampNeg) ≤ a2 then 57 else 53) (ls' := [some (.ref 1), some (.int a1), some (.int a2)]) (st' := []) (M' := M) rfl rfl ⟨K_1, ⟨K_3, (inB_N N_3 hg10_0)⟩, trivial⟩ ?_
          refine hr_Gif h (fun _ h => ?_) (fun _ h => ?_)
          · refine hr_Grun mf_X8_slotFor lb_X8_slotFor_57 (P := True) (pc' := 59) (ls' := [some (.ref 1), some (.int a1), some (.int a2)]) (st' := [.int (-2)]) (M' := M) rfl rfl trivial ?_
            cases h
            exact hr_Gret mf_X8_slotFor lb_X8_slotFor_59 rfl rfl trivial
          · refine hr_Grun mf_X8_slotFor lb_X8_slotFor_53 (P := True) (pc' := 59) (ls' := [some (.ref 1), some (.int a1), some (.int a2)]) (st' := [.int a2]) (M' := M) rfl rfl trivial ?_
            cases h
            exact hr_Gret mf_X8_slotFor lb_X8_slotFor_59 rfl rfl trivial
    · refine hr_Grun mf_X8_slotFor lb_X8_slotFor_9 (P := True) (pc' := 11) (ls' := [some (.ref 1), some (.int a1), some (.int a2)]) (st' := [.int (-2)]) (M' := M) rfl rfl trivial ?_
      cases h
      exact hr_Gret mf_X8_slotFor lb_X8_slotFor_11 rfl rfl trivial
theorem mf_X8_rollIndex : hr_mf 110 8 0 (some .int) 2 2 bk_X8_rollIndex := ⟨rfl, rfl, rfl, rfl, rfl, rfl⟩
theorem lb_X8_rollIndex_0 : bk_X8_rollIndex.lookup 0 = some [(.iconst 2, 1), (.iload_n 0, 1), (.iconst 1, 1), (.isub, 1), (.imul, 1), (.iload_n 1, 1), (.iadd, 1)] := rfl
theorem lb_X8_rollIndex_7 : bk_X8_rollIndex.lookup 7 = some [(.ireturn, 1)] := rfl
def f_X8_rollIndex (a0 : Int32) (a1 : Int32) (M : PM) : Option (Int32 × PM) :=
  some (((2 * (a0 - 1)) + a1), M)
theorem g_X8_rollIndex (a0 : Int32) (a1 : Int32) : ∀ (M : PM) (r : Int32 × PM), f_X8_rollIndex a0 a1 M = some r → hr_G 110 0 [some (.int a0), some (.int a1)] [] M (some (.int r.1), r.2) := by
  intro M r h
  unfold f_X8_rollIndex at h
  refine hr_Grun mf_X8_rollIndex lb_X8_rollIndex_0 (P := True) (pc' := 7) (ls' := [some (.int a0), some (.int a1)]) (st' := [.int ((2 * (a0 - 1)) + a1)]) (M' := M) rfl rfl trivial ?_
  cases h
  exact hr_Gret mf_X8_rollIndex lb_X8_rollIndex_7 rfl rfl trivial
theorem mf_X8_keep : hr_mf 106 8 6 none 5 4 bk_X8_keep := ⟨rfl, rfl, rfl, rfl, rfl, rfl⟩
theorem lb_X8_keep_0 : bk_X8_keep.lookup 0 = some [(.iload_n 1, 1), (.ifCond .ne 16, 3)] := rfl
theorem lb_X8_keep_4 : bk_X8_keep.lookup 4 = some [(.aload_n 0, 1), (.getfield 25, 3), (.iload_n 2, 1), (.aaload, 1), (.aload_n 3, 1)] := rfl
theorem lb_X8_keep_11 : bk_X8_keep.lookup 11 = some [(.invokevirtual 40, 3)] := rfl
theorem lb_X8_keep_14 : bk_X8_keep.lookup 14 = some [(.goto 18, 3)] := rfl
theorem lb_X8_keep_17 : bk_X8_keep.lookup 17 = some [(.aload_n 0, 1), (.getfield 31, 3), (.iload_n 1, 1), (.iload_n 2, 1)] := rfl
theorem lb_X8_keep_23 : bk_X8_keep.lookup 23 = some [(.invokestatic 44, 3)] := rfl
theorem lb_X8_keep_26 : bk_X8_keep.lookup 26 = some [(.aaload, 1), (.aload 4, 2)] := rfl
theorem lb_X8_keep_29 : bk_X8_keep.lookup 29 = some [(.invokevirtual 48, 3)] := rfl
theorem lb_X8_keep_32 : bk_X8_keep.lookup 32 = some [(.iload_n 2, 1), (.aload_n 0, 1), (.getfield 19, 3), (.iload_n 1, 1), (.iaload, 1), (.if_icmp .ne 13, 3)] := rfl
theorem lb_X8_keep_42 : bk_X8_keep.lookup 42 = some [(.aload_n 0, 1), (.getfield 19, 3), (.iload_n 1, 1), (.dup2, 1), (.iaload, 1), (.iconst 1, 1), (.iadd, 1), (.iastore, 1)] := rfl
theorem lb_X8_keep_52 : bk_X8_keep.lookup 52 = some [(.return_, 1)] := rfl
def f_X8_keep_32 (a1 : Int32) (a2 : Int32) (a3 : Nat) (a4 : Nat) (M : PM) : Option (Unit × PM) :=
  if inB a1 5 = true then if a2 = (M.1 3 a1.toNatClampNeg) then
    if inB a1 5 = true then if inB a1 5 = true then 
    some ((), hr_si M 3 a1.toNatClampNeg ((M.1 3 a1.toNatClampNeg) + 1)) else none else none
  else
    some ((), M)
  else none
theorem g_X8_keep_32 (a1 : Int32) (a2 : Int32) (a3 : Nat) (a4 : Nat) (ka3 : hr_K a3 = 3) (ka4 : hr_K a4 = 5) : ∀ (M : PM) (r : Unit × PM), f_X8_keep_32 a1 a2 a3 a4 M = some r → hr_G 106 32 [some (.ref 1), some (.int a1), some (.int a2), none, none] [] M (none, r.2) := by
  intro M r h
  unfold f_X8_keep_32 at h
  refine hr_Fg h (fun hg1_0 h => ?_)
  refine hr_Grun mf_X8_keep lb_X8_keep_32 (P := hr_K 1 = 7 ∧ (hr_K 3 = 12 ∧ vp_in a1 (hr_N 3)) ∧ True) (pc' := if a2 = (M.1 3 a1.toNatClampNeg) then 42 else 52) (ls' := [some (.ref 1), some (.int a1), some (.int a2), none, none]) (st' := []) (M' := M) rfl rfl ⟨K_1, ⟨K_3, (inB_N N_3 hg1_0)⟩, trivial⟩ ?_
  refine hr_Gif h (fun _ h => ?_) (fun _ h => ?_)
  · refine hr_Fg h (fun hg2_0 h => ?_)
    refine hr_Fg h (fun hg2_1 h => ?_)
    refine hr_Grun mf_X8_keep lb_X8_keep_42 (P := hr_K 1 = 7 ∧ (hr_K 3 = 12 ∧ vp_in a1 (hr_N 3)) ∧ ((hr_K 3 = 12 ∧ 3 < hr_n) ∧ vp_in a1 (hr_N 3)) ∧ True) (pc' := 52) (ls' := [some (.ref 1), some (.int a1), some (.int a2), none, none]) (st' := []) (M' := hr_si M 3 a1.toNatClampNeg ((M.1 3 a1.toNatClampNeg) + 1)) rfl rfl ⟨K_1, ⟨K_3, (inB_N N_3 hg2_0)⟩, ⟨⟨K_3, L_3⟩, (inB_N N_3 hg2_1)⟩, trivial⟩ ?_
    cases h
    exact hr_Gret mf_X8_keep lb_X8_keep_52 rfl rfl trivial
  · cases h
    exact hr_Gret mf_X8_keep lb_X8_keep_52 rfl rfl trivial
def f_X8_keep (a1 : Int32) (a2 : Int32) (a3 : Nat) (a4 : Nat) (M : PM) : Option (Unit × PM) :=
  if hr_K a3 = 3 then if hr_K a4 = 5 then if a1 = 0 then
    if inB a2 2 = true then if hr_K (4 + 2 + 9 * a2.toNatClampNeg) = 3 then 
    hr_bd (f_X4_copyFrom (4 + 2 + 9 * a2.toNatClampNeg) a3 M) (fun v3 M3 =>
    f_X8_keep_32 a1 a2 a3 a4 M3) else none else none
  else
    hr_bd (f_X8_rollIndex a1 a2 M) (fun v6 M6 =>
    if inB v6 8 = true then if hr_K (5 + 19 + 4 * v6.toNatClampNeg) = 5 then 
    hr_bd (f_X6_copyFrom (5 + 19 + 4 * v6.toNatClampNeg) a4 M6) (fun v8 M8 =>
    f_X8_keep_32 a1 a2 a3 a4 M8) else none else none) else none else none
theorem g_X8_keep (a1 : Int32) (a2 : Int32) (a3 : Nat) (a4 : Nat) : ∀ (M : PM) (r : Unit × PM), f_X8_keep a1 a2 a3 a4 M = some r → hr_G 106 0 [some (.ref 1), some (.int a1), some (.int a2), some (.ref a3), some (.ref a4)] [] M (none, r.2) := by
  intro M r h
  unfold f_X8_keep at h
  refine hr_Fg h (fun ka3 h => ?_)
  refine hr_Fg h (fun ka4 h => ?_)
  refine hr_Grun mf_X8_keep lb_X8_keep_0 (P := True) (pc' := if a1 = 0 then 4 else 17) (ls' := [some (.ref 1), some (.int a1), some (.int a2), some (.ref a3), some (.ref a4)]) (st' := []) (M' := M) rfl rfl trivial ?_
  refine hr_Gif h (fun _ h => ?_) (fun _ h => ?_)
  · refine hr_Fg h (fun hg2_0 h => ?_)
    refine hr_Fg h (fun hg2_1 h => ?_)
    refine hr_Grun mf_X8_keep lb_X8_keep_4 (P := hr_K 1 = 7 ∧ ((15 ≤ hr_K 4 ∧ hr_K 4 ≤ 18) ∧ vp_in a2 (hr_N 4)) ∧ True) (pc' := 11) (ls' := [some (.ref 1), some (.int a1), some (.int a2), some (.ref a3), some (.ref a4)]) (st' := [.ref a3, .ref (4 + 2 + 9 * a2.toNatClampNeg)]) (M' := M) rfl rfl ⟨K_1, ⟨hr_15 K_4 (by decide), (inB_N N_4 hg2_0)⟩, trivial⟩ ?_
    refine hr_Fb h (fun v3 M3 e3 h => ?_)
    refine hr_Gcv mf_X8_keep mf_X4_copyFrom lb_X8_keep_11 (b := (4 + 2 + 9 * a2.toNatClampNeg)) (as := [.ref a3]) (rest := []) (st2 := []) (v := none) (M1 := M3) rfl rfl rfl rfl rfl rfl hg2_1 (g_X4_copyFrom (4 + 2 + 9 * a2.toNatClampNeg) a3 _ _ e3) rfl rfl ?_
    refine hr_Grun mf_X8_keep lb_X8_keep_14 (P := True) (pc' := 32) (ls' := [some (.ref 1), some (.int a1), some (.int a2), some (.ref a3), some (.ref a4)]) (st' := []) (M' := M3) rfl rfl trivial ?_
    refine hr_Gle (ls := [some (.ref 1), some (.int a1), some (.int a2), none, none]) (hr_le_s (hr_le_s (hr_le_s (hr_le_n (hr_le_n hr_le_0))))) ?_
    exact g_X8_keep_32 a1 a2 a3 a4 ka3 ka4 M3 _ h
  · refine hr_Grun mf_X8_keep lb_X8_keep_17 (P := hr_K 1 = 7 ∧ True) (pc' := 23) (ls' := [some (.ref 1), some (.int a1), some (.int a2), some (.ref a3), some (.ref a4)]) (st' := [.int a2, .int a1, .ref 5]) (M' := M) rfl rfl ⟨K_1, trivial⟩ ?_
    refine hr_Fb h (fun v6 M6 e6 h => ?_)
    refine hr_Gcs mf_X8_keep mf_X8_rollIndex lb_X8_keep_23 (as := [.int a1, .int a2]) (rest := [.ref 5]) (st2 := [.int v6, .ref 5]) (v := some (.int v6)) (M1 := M6) rfl rfl rfl rfl rfl rfl (g_X8_rollIndex a1 a2 _ _ e6) rfl rfl ?_
    refine hr_Fg h (fun hg7_0 h => ?_)
    refine hr_Fg h (fun hg7_1 h => ?_)
    refine hr_Grun mf_X8_keep lb_X8_keep_26 (P := ((15 ≤ hr_K 5 ∧ hr_K 5 ≤ 18) ∧ vp_in v6 (hr_N 5)) ∧ True) (pc' := 29) (ls' := [some (.ref 1), some (.int a1), some (.int a2), some (.ref a3), some (.ref a4)]) (st' := [.ref a4, .ref (5 + 19 + 4 * v6.toNatClampNeg)]) (M' := M6) rfl rfl ⟨⟨hr_15 K_5 (by decide), (inB_N N_5 hg7_0)⟩, trivial⟩ ?_
    refine hr_Fb h (fun v8 M8 e8 h => ?_)
    refine hr_Gcv mf_X8_keep mf_X6_copyFrom lb_X8_keep_29 (b := (5 + 19 + 4 * v6.toNatClampNeg)) (as := [.ref a4]) (rest := []) (st2 := []) (v := none) (M1 := M8) rfl rfl rfl rfl rfl rfl hg7_1 (g_X6_copyFrom (5 + 19 + 4 * v6.toNatClampNeg) a4 _ _ e8) rfl rfl ?_
    refine hr_Gle (ls := [some (.ref 1), some (.int a1), some (.int a2), none, none]) (hr_le_s (hr_le_s (hr_le_s (hr_le_n (hr_le_n hr_le_0))))) ?_
    exact g_X8_keep_32 a1 a2 a3 a4 ka3 ka4 M8 _ h
theorem mf_X8_paletteAt : hr_mf 107 8 0 (some (.object "HueRash$Palette")) 2 1 bk_X8_paletteAt := ⟨rfl, rfl, rfl, rfl, rfl, rfl⟩
theorem lb_X8_paletteAt_0 : bk_X8_paletteAt.lookup 0 = some [(.iload_n 1, 1), (.ifCond .lt 22, 3)] := rfl
theorem lb_X8_paletteAt_4 : bk_X8_paletteAt.lookup 4 = some [(.iload_n 1, 1), (.aload_n 0, 1), (.getfield 19, 3), (.iconst 0, 1), (.iaload, 1), (.if_icmp .ge 12, 3)] := rfl
theorem lb_X8_paletteAt_14 : bk_X8_paletteAt.lookup 14 = some [(.aload_n 0, 1), (.getfield 25, 3), (.iload_n 1, 1), (.aaload, 1), (.goto 4, 3)] := rfl
theorem lb_X8_paletteAt_23 : bk_X8_paletteAt.lookup 23 = some [(.aconst_null, 1)] := rfl
theorem lb_X8_paletteAt_24 : bk_X8_paletteAt.lookup 24 = some [(.areturn, 1)] := rfl
def f_X8_paletteAt (a1 : Int32) (M : PM) : Option (Value × PM) :=
  if a1 < 0 then
    some (.null, M)
  else
    if inB 0 5 = true then if (M.1 3 (0 : Int32).toNatClampNeg) ≤ a1 then
      some (.null, M)
    else
      if inB a1 2 = true then if hr_K (4 + 2 + 9 * a1.toNatClampNeg) = 3 then 
      some ((.ref (4 + 2 + 9 * a1.toNatClampNeg)), M) else none else none
    else none
theorem g_X8_paletteAt (a1 : Int32) : ∀ (M : PM) (r : Value × PM), f_X8_paletteAt a1 M = some r → hr_G 107 0 [some (.ref 1), some (.int a1)] [] M (some r.1, r.2) := by
  intro M r h
  unfold f_X8_paletteAt at h
  refine hr_Grun mf_X8_paletteAt lb_X8_paletteAt_0 (P := True) (pc' := if a1 < 0 then 23 else 4) (ls' := [some (.ref 1), some (.int a1)]) (st' := []) (M' := M) rfl rfl trivial ?_
  refine hr_Gif h (fun _ h => ?_) (fun _ h => ?_)
  · refine hr_Grun mf_X8_paletteAt lb_X8_paletteAt_23 (P := True) (pc' := 24) (ls' := [some (.ref 1), some (.int a1)]) (st' := [.null]) (M' := M) rfl rfl trivial ?_
    cases h
    exact hr_Gret mf_X8_paletteAt lb_X8_paletteAt_24 rfl rfl trivial
  · refine hr_Fg h (fun hg3_0 h => ?_)
    refine hr_Grun mf_X8_paletteAt lb_X8_paletteAt_4 (P := hr_K 1 = 7 ∧ (hr_K 3 = 12 ∧ vp_in 0 (hr_N 3)) ∧ True) (pc' := if (M.1 3 (0 : Int32).toNatClampNeg) ≤ a1 then 23 else 14) (ls' := [some (.ref 1), some (.int a1)]) (st' := []) (M' := M) rfl rfl ⟨K_1, ⟨K_3, (inB_N N_3 hg3_0)⟩, trivial⟩ ?_
    refine hr_Gif h (fun _ h => ?_) (fun _ h => ?_)
    · refine hr_Grun mf_X8_paletteAt lb_X8_paletteAt_23 (P := True) (pc' := 24) (ls' := [some (.ref 1), some (.int a1)]) (st' := [.null]) (M' := M) rfl rfl trivial ?_
      cases h
      exact hr_Gret mf_X8_paletteAt lb_X8_paletteAt_24 rfl rfl trivial
    · refine hr_Fg h (fun hg5_0 h => ?_)
      refine hr_Fg h (fun hg5_1 h => ?_)
      refine hr_Grun mf_X8_paletteAt lb_X8_paletteAt_14 (P := hr_K 1 = 7 ∧ ((15 ≤ hr_K 4 ∧ hr_K 4 ≤ 18) ∧ vp_in a1 (hr_N 4)) ∧ True) (pc' := 24) (ls' := [some (.ref 1), some (.int a1)]) (st' := [.ref (4 + 2 + 9 * a1.toNatClampNeg)]) (M' := M) rfl rfl ⟨K_1, ⟨hr_15 K_4 (by decide), (inB_N N_4 hg5_0)⟩, trivial⟩ ?_
      cases h
      exact hr_Gret mf_X8_paletteAt lb_X8_paletteAt_24 rfl rfl trivial
theorem mf_X8_rollAt : hr_mf 108 8 1 (some (.object "HueRash$Roll")) 3 2 bk_X8_rollAt := ⟨rfl, rfl, rfl, rfl, rfl, rfl⟩
theorem lb_X8_rollAt_0 : bk_X8_rollAt.lookup 0 = some [(.iload_n 2, 1), (.ifCond .lt 26, 3)] := rfl
theorem lb_X8_rollAt_4 : bk_X8_rollAt.lookup 4 = some [(.iload_n 2, 1), (.aload_n 0, 1), (.getfield 19, 3), (.iload_n 1, 1), (.iaload, 1), (.if_icmp .ge 16, 3)] := rfl
theorem lb_X8_rollAt_14 : bk_X8_rollAt.lookup 14 = some [(.aload_n 0, 1), (.getfield 31, 3), (.iload_n 1, 1), (.iload_n 2, 1)] := rfl
theorem lb_X8_rollAt_20 : bk_X8_rollAt.lookup 20 = some [(.invokestatic 44, 3)] := rfl
theorem lb_X8_rollAt_23 : bk_X8_rollAt.lookup 23 = some [(.aaload, 1), (.goto 4, 3)] := rfl
theorem lb_X8_rollAt_27 : bk_X8_rollAt.lookup 27 = some [(.aconst_null, 1)] := rfl
theorem lb_X8_rollAt_28 : bk_X8_rollAt.lookup 28 = some [(.areturn, 1)] := rfl
def f_X8_rollAt (a1 : Int32) (a2 : Int32) (M : PM) : Option (Value × PM) :=
  if a2 < 0 then
    some (.null, M)
  else
    if inB a1 5 = true then if (M.1 3 a1.toNatClampNeg) ≤ a2 then
      some (.null, M)
    else
      hr_bd (f_X8_rollIndex a1 a2 M) (fun v6 M6 =>
      if inB v6 8 = true then if hr_K (5 + 19 + 4 * v6.toNatClampNeg) = 5 then 
      some ((.ref (5 + 19 + 4 * v6.toNatClampNeg)), M6) else none else none)
    else none
theorem g_X8_rollAt (a1 : Int32) (a2 : Int32) : ∀ (M : PM) (r : Value × PM), f_X8_rollAt a1 a2 M = some r → hr_G 108 0 [some (.ref 1), some (.int a1), some (.int a2)] [] M (some r.1, r.2) := by
  intro M r h
  unfold f_X8_rollAt at h
  refine hr_Grun mf_X8_rollAt lb_X8_rollAt_0 (P := True) (pc' := if a2 < 0 then 27 else 4) (ls' := [some (.ref 1), some (.int a1), some (.int a2)]) (st' := []) (M' := M) rfl rfl trivial ?_
  refine hr_Gif h (fun _ h => ?_) (fun _ h => ?_)
  · refine hr_Grun mf_X8_rollAt lb_X8_rollAt_27 (P := True) (pc' := 28) (ls' := [some (.ref 1), some (.int a1), some (.int a2)]) (st' := [.null]) (M' := M) rfl rfl trivial ?_
    cases h
    exact hr_Gret mf_X8_rollAt lb_X8_rollAt_28 rfl rfl trivial
  · refine hr_Fg h (fun hg3_0 h => ?_)
    refine hr_Grun mf_X8_rollAt lb_X8_rollAt_4 (P := hr_K 1 = 7 ∧ (hr_K 3 = 12 ∧ vp_in a1 (hr_N 3)) ∧ True) (pc' := if (M.1 3 a1.toNatClampNeg) ≤ a2 then 27 else 14) (ls' := [some (.ref 1), some (.int a1), some (.int a2)]) (st' := []) (M' := M) rfl rfl ⟨K_1, ⟨K_3, (inB_N N_3 hg3_0)⟩, trivial⟩ ?_
    refine hr_Gif h (fun _ h => ?_) (fun _ h => ?_)
    · refine hr_Grun mf_X8_rollAt lb_X8_rollAt_27 (P := True) (pc' := 28) (ls' := [some (.ref 1), some (.int a1), some (.int a2)]) (st' := [.null]) (M' := M) rfl rfl trivial ?_
      cases h
      exact hr_Gret mf_X8_rollAt lb_X8_rollAt_28 rfl rfl trivial
    · refine hr_Grun mf_X8_rollAt lb_X8_rollAt_14 (P := hr_K 1 = 7 ∧ True) (pc' := 20) (ls' := [some (.ref 1), some (.int a1), some (.int a2)]) (st' := [.int a2, .int a1, .ref 5]) (M' := M) rfl rfl ⟨K_1, trivial⟩ ?_
      refine hr_Fb h (fun v6 M6 e6 h => ?_)
      refine hr_Gcs mf_X8_rollAt mf_X8_rollIndex lb_X8_rollAt_20 (as := [.int a1, .int a2]) (rest := [.ref 5]) (st2 := [.int v6, .ref 5]) (v := some (.int v6)) (M1 := M6) rfl rfl rfl rfl rfl rfl (g_X8_rollIndex a1 a2 _ _ e6) rfl rfl ?_
      refine hr_Fg h (fun hg7_0 h => ?_)
      refine hr_Fg h (fun hg7_1 h => ?_)
      refine hr_Grun mf_X8_rollAt lb_X8_rollAt_23 (P := ((15 ≤ hr_K 5 ∧ hr_K 5 ≤ 18) ∧ vp_in v6 (hr_N 5)) ∧ True) (pc' := 28) (ls' := [some (.ref 1), some (.int a1), some (.int a2)]) (st' := [.ref (5 + 19 + 4 * v6.toNatClampNeg)]) (M' := M6) rfl rfl ⟨⟨hr_15 K_5 (by decide), (inB_N N_5 hg7_0)⟩, trivial⟩ ?_
      cases h
      exact hr_Gret mf_X8_rollAt lb_X8_rollAt_28 rfl rfl trivial
theorem mf_X8_copyFrom : hr_mf 109 8 6 none 3 1 bk_X8_copyFrom := ⟨rfl, rfl, rfl, rfl, rfl, rfl⟩
theorem lb_X8_copyFrom_0 : bk_X8_copyFrom.lookup 0 = some [(.aload_n 1, 1), (.getfield 9, 3), (.iconst 0, 1), (.aload_n 0, 1), (.getfield 9, 3), (.iconst 0, 1), (.sipush 600, 3), (.invokestatic 51, 3), (.aload_n 0, 1), (.aload_n 1, 1), (.getfield 37, 3), (.putfield 37, 3), (.aload_n 0, 1), (.aload_n 1, 1), (.getfield 57, 3), (.putfield 57, 3), (.aload_n 0, 1), (.aload_n 1, 1), (.getfield 15, 3), (.putfield 15, 3), (.aload_n 1, 1), (.getfield 19, 3), (.iconst 0, 1), (.aload_n 0, 1), (.getfield 19, 3), (.iconst 0, 1), (.iconst 5, 1), (.invokestatic 51, 3), (.iconst 0, 1), (.istore_n 2, 1)] := rfl
theorem lb_X8_copyFrom_56 : bk_X8_copyFrom.lookup 56 = some [(.iload_n 2, 1), (.aload_n 0, 1), (.getfield 25, 3), (.arraylength, 1), (.if_icmp .ge 24, 3)] := rfl
theorem lb_X8_copyFrom_65 : bk_X8_copyFrom.lookup 65 = some [(.aload_n 0, 1), (.getfield 25, 3), (.iload_n 2, 1), (.aaload, 1), (.aload_n 1, 1), (.getfield 25, 3), (.iload_n 2, 1), (.aaload, 1)] := rfl
theorem lb_X8_copyFrom_77 : bk_X8_copyFrom.lookup 77 = some [(.invokevirtual 40, 3)] := rfl
theorem lb_X8_copyFrom_80 : bk_X8_copyFrom.lookup 80 = some [(.iinc 2 1, 3), (.goto (-27), 3)] := rfl
theorem lb_X8_copyFrom_86 : bk_X8_copyFrom.lookup 86 = some [(.iconst 0, 1), (.istore_n 2, 1)] := rfl
theorem lb_X8_copyFrom_88 : bk_X8_copyFrom.lookup 88 = some [(.iload_n 2, 1), (.aload_n 0, 1), (.getfield 31, 3), (.arraylength, 1), (.if_icmp .ge 24, 3)] := rfl
theorem lb_X8_copyFrom_97 : bk_X8_copyFrom.lookup 97 = some [(.aload_n 0, 1), (.getfield 31, 3), (.iload_n 2, 1), (.aaload, 1), (.aload_n 1, 1), (.getfield 31, 3), (.iload_n 2, 1), (.aaload, 1)] := rfl
theorem lb_X8_copyFrom_109 : bk_X8_copyFrom.lookup 109 = some [(.invokevirtual 48, 3)] := rfl
theorem lb_X8_copyFrom_112 : bk_X8_copyFrom.lookup 112 = some [(.iinc 2 1, 3), (.goto (-27), 3)] := rfl
theorem lb_X8_copyFrom_118 : bk_X8_copyFrom.lookup 118 = some [(.return_, 1)] := rfl
def f_X8_copyFrom_88 (a0 : Nat) (a1 : Nat) : Nat → Int32 → PM → Option (Unit × PM)
  | 0, _, _ => none
  | f + 1, x2, M =>
    if (Int32.ofNat (hr_N (a0 + 4))) ≤ x2 then
      some ((), M)
    else
      if inB x2 8 = true then if hr_K ((a0 + 4) + 19 + 4 * x2.toNatClampNeg) = 5 then if inB x2 8 = true then if hr_K ((a1 + 4) + 19 + 4 * x2.toNatClampNeg) = 5 then 
      hr_bd (f_X6_copyFrom ((a0 + 4) + 19 + 4 * x2.toNatClampNeg) ((a1 + 4) + 19 + 4 * x2.toNatClampNeg) M) (fun v3 M3 =>
      f_X8_copyFrom_88 a0 a1 f (x2 + 1) M3) else none else none else none else none
theorem g_X8_copyFrom_88 (a0 : Nat) (a1 : Nat) (ka0 : hr_K a0 = 7) (ka1 : hr_K a1 = 7) : ∀ (f : Nat) (x2 : Int32) (M : PM) (r : Unit × PM), f_X8_copyFrom_88 a0 a1 f x2 M = some r → hr_G 109 88 [some (.ref a0), some (.ref a1), some (.int x2)] [] M (none, r.2) := by
  intro f
  induction f with
  | zero => intro x2 M r h; cases h
  | succ f ih =>
    intro x2 M r h
    rw [f_X8_copyFrom_88.eq_2] at h
    refine hr_Grun mf_X8_copyFrom lb_X8_copyFrom_88 (P := hr_K a0 = 7 ∧ (11 ≤ hr_K (a0 + 4) ∧ hr_K (a0 + 4) ≤ 18) ∧ True) (pc' := if (Int32.ofNat (hr_N (a0 + 4))) ≤ x2 then 118 else 97) (ls' := [some (.ref a0), some (.ref a1), some (.int x2)]) (st' := []) (M' := M) rfl rfl ⟨ka0, (hr_11 (kf_7_6 ka0).1 (by decide)), trivial⟩ ?_
    refine hr_Gif h (fun _ h => ?_) (fun _ h => ?_)
    · cases h
      exact hr_Gret mf_X8_copyFrom lb_X8_copyFrom_118 rfl rfl trivial
    · refine hr_Fg h (fun hg2_0 h => ?_)
      refine hr_Fg h (fun hg2_1 h => ?_)
      refine hr_Fg h (fun hg2_2 h => ?_)
      refine hr_Fg h (fun hg2_3 h => ?_)
      refine hr_Grun mf_X8_copyFrom lb_X8_copyFrom_97 (P := hr_K a0 = 7 ∧ ((15 ≤ hr_K (a0 + 4) ∧ hr_K (a0 + 4) ≤ 18) ∧ vp_in x2 (hr_N (a0 + 4))) ∧ hr_K a1 = 7 ∧ ((15 ≤ hr_K (a1 + 4) ∧ hr_K (a1 + 4) ≤ 18) ∧ vp_in x2 (hr_N (a1 + 4))) ∧ True) (pc' := 109) (ls' := [some (.ref a0), some (.ref a1), some (.int x2)]) (st' := [.ref (hr_el (hr_K (a1 + 4)) (a1 + 4) x2.toNatClampNeg), .ref (hr_el (hr_K (a0 + 4)) (a0 + 4) x2.toNatClampNeg)]) (M' := M) rfl rfl ⟨ka0, ⟨hr_15 (kf_7_6 ka0).1 (by decide), (inB_N (kf_7_6 ka0).2.1 hg2_0)⟩, ka1, ⟨hr_15 (kf_7_6 ka1).1 (by decide), (inB_N (kf_7_6 ka1).2.1 hg2_2)⟩, trivial⟩ ?_
      rw [hr_el16 (kf_7_6 ka1).1, hr_el16 (kf_7_6 ka0).1]
      refine hr_Fb h (fun v3 M3 e3 h => ?_)
      refine hr_Gcv mf_X8_copyFrom mf_X6_copyFrom lb_X8_copyFrom_109 (b := ((a0 + 4) + 19 + 4 * x2.toNatClampNeg)) (as := [.ref ((a1 + 4) + 19 + 4 * x2.toNatClampNeg)]) (rest := []) (st2 := []) (v := none) (M1 := M3) rfl rfl rfl rfl rfl rfl hg2_1 (g_X6_copyFrom ((a0 + 4) + 19 + 4 * x2.toNatClampNeg) ((a1 + 4) + 19 + 4 * x2.toNatClampNeg) _ _ e3) rfl rfl ?_
      refine hr_Grun mf_X8_copyFrom lb_X8_copyFrom_112 (P := True) (pc' := 88) (ls' := [some (.ref a0), some (.ref a1), some (.int (x2 + 1))]) (st' := []) (M' := M3) rfl rfl trivial ?_
      exact ih (x2 + 1) M3 _ h
def f_X8_copyFrom_56 (a0 : Nat) (a1 : Nat) : Nat → Int32 → PM → Option (Unit × PM)
  | 0, _, _ => none
  | f + 1, x2, M =>
    if (Int32.ofNat (hr_N (a0 + 3))) ≤ x2 then
      f_X8_copyFrom_88 a0 a1 FU 0 M
    else
      if inB x2 2 = true then if hr_K ((a0 + 3) + 2 + 9 * x2.toNatClampNeg) = 3 then if inB x2 2 = true then if hr_K ((a1 + 3) + 2 + 9 * x2.toNatClampNeg) = 3 then 
      hr_bd (f_X4_copyFrom ((a0 + 3) + 2 + 9 * x2.toNatClampNeg) ((a1 + 3) + 2 + 9 * x2.toNatClampNeg) M) (fun v4 M4 =>
      f_X8_copyFrom_56 a0 a1 f (x2 + 1) M4) else none else none else none else none
theorem g_X8_copyFrom_56 (a0 : Nat) (a1 : Nat) (ka0 : hr_K a0 = 7) (ka1 : hr_K a1 = 7) : ∀ (f : Nat) (x2 : Int32) (M : PM) (r : Unit × PM), f_X8_copyFrom_56 a0 a1 f x2 M = some r → hr_G 109 56 [some (.ref a0), some (.ref a1), some (.int x2)] [] M (none, r.2) := by
  intro f
  induction f with
  | zero => intro x2 M r h; cases h
  | succ f ih =>
    intro x2 M r h
    rw [f_X8_copyFrom_56.eq_2] at h
    refine hr_Grun mf_X8_copyFrom lb_X8_copyFrom_56 (P := hr_K a0 = 7 ∧ (11 ≤ hr_K (a0 + 3) ∧ hr_K (a0 + 3) ≤ 18) ∧ True) (pc' := if (Int32.ofNat (hr_N (a0 + 3))) ≤ x2 then 86 else 65) (ls' := [some (.ref a0), some (.ref a1), some (.int x2)]) (st' := []) (M' := M) rfl rfl ⟨ka0, (hr_11 (kf_7_5 ka0).1 (by decide)), trivial⟩ ?_
    refine hr_Gif h (fun _ h => ?_) (fun _ h => ?_)
    · refine hr_Grun mf_X8_copyFrom lb_X8_copyFrom_86 (P := True) (pc' := 88) (ls' := [some (.ref a0), some (.ref a1), some (.int 0)]) (st' := []) (M' := M) rfl rfl trivial ?_
      exact g_X8_copyFrom_88 a0 a1 ka0 ka1 FU 0 M _ h
    · refine hr_Fg h (fun hg3_0 h => ?_)
      refine hr_Fg h (fun hg3_1 h => ?_)
      refine hr_Fg h (fun hg3_2 h => ?_)
      refine hr_Fg h (fun hg3_3 h => ?_)
      refine hr_Grun mf_X8_copyFrom lb_X8_copyFrom_65 (P := hr_K a0 = 7 ∧ ((15 ≤ hr_K (a0 + 3) ∧ hr_K (a0 + 3) ≤ 18) ∧ vp_in x2 (hr_N (a0 + 3))) ∧ hr_K a1 = 7 ∧ ((15 ≤ hr_K (a1 + 3) ∧ hr_K (a1 + 3) ≤ 18) ∧ vp_in x2 (hr_N (a1 + 3))) ∧ True) (pc' := 77) (ls' := [some (.ref a0), some (.ref a1), some (.int x2)]) (st' := [.ref (hr_el (hr_K (a1 + 3)) (a1 + 3) x2.toNatClampNeg), .ref (hr_el (hr_K (a0 + 3)) (a0 + 3) x2.toNatClampNeg)]) (M' := M) rfl rfl ⟨ka0, ⟨hr_15 (kf_7_5 ka0).1 (by decide), (inB_N (kf_7_5 ka0).2.1 hg3_0)⟩, ka1, ⟨hr_15 (kf_7_5 ka1).1 (by decide), (inB_N (kf_7_5 ka1).2.1 hg3_2)⟩, trivial⟩ ?_
      rw [hr_el15 (kf_7_5 ka1).1, hr_el15 (kf_7_5 ka0).1]
      refine hr_Fb h (fun v4 M4 e4 h => ?_)
      refine hr_Gcv mf_X8_copyFrom mf_X4_copyFrom lb_X8_copyFrom_77 (b := ((a0 + 3) + 2 + 9 * x2.toNatClampNeg)) (as := [.ref ((a1 + 3) + 2 + 9 * x2.toNatClampNeg)]) (rest := []) (st2 := []) (v := none) (M1 := M4) rfl rfl rfl rfl rfl rfl hg3_1 (g_X4_copyFrom ((a0 + 3) + 2 + 9 * x2.toNatClampNeg) ((a1 + 3) + 2 + 9 * x2.toNatClampNeg) _ _ e4) rfl rfl ?_
      refine hr_Grun mf_X8_copyFrom lb_X8_copyFrom_80 (P := True) (pc' := 56) (ls' := [some (.ref a0), some (.ref a1), some (.int (x2 + 1))]) (st' := []) (M' := M4) rfl rfl trivial ?_
      exact ih (x2 + 1) M4 _ h
def f_X8_copyFrom (a0 : Nat) (a1 : Nat) (M : PM) : Option (Unit × PM) :=
  if hr_K a0 = 7 then if hr_K a1 = 7 then if (∀ i, i < (600 : Int32).toNatClampNeg → fits .byte (.int (M.1 (a1 + 1) ((0 : Int32).toNatClampNeg + i))) = true) ∧ (¬ (0 : Int32) < 0 ∧ ¬ (0 : Int32) < 0 ∧ ¬ (600 : Int32) < 0) ∧ (0 : Int32).toNatClampNeg + (600 : Int32).toNatClampNeg ≤ hr_N (a1 + 1) ∧ (0 : Int32).toNatClampNeg + (600 : Int32).toNatClampNeg ≤ hr_N (a0 + 1) then if (¬ (0 : Int32) < 0 ∧ ¬ (0 : Int32) < 0 ∧ ¬ (5 : Int32) < 0) ∧ (0 : Int32).toNatClampNeg + (5 : Int32).toNatClampNeg ≤ hr_N (a1 + 2) ∧ (0 : Int32).toNatClampNeg + (5 : Int32).toNatClampNeg ≤ hr_N (a0 + 2) then 
  f_X8_copyFrom_56 a0 a1 FU 0 (hr_sr (hr_si (hr_si (hr_si (hr_sr M (a0 + 1) (va_cpy (M.1 (a1 + 1)) (M.1 (a0 + 1)) (0 : Int32).toNatClampNeg (0 : Int32).toNatClampNeg (600 : Int32).toNatClampNeg)) a0 1 ((hr_sr M (a0 + 1) (va_cpy (M.1 (a1 + 1)) (M.1 (a0 + 1)) (0 : Int32).toNatClampNeg (0 : Int32).toNatClampNeg (600 : Int32).toNatClampNeg)).1 a1 1)) a0 2 ((hr_si (hr_sr M (a0 + 1) (va_cpy (M.1 (a1 + 1)) (M.1 (a0 + 1)) (0 : Int32).toNatClampNeg (0 : Int32).toNatClampNeg (600 : Int32).toNatClampNeg)) a0 1 ((hr_sr M (a0 + 1) (va_cpy (M.1 (a1 + 1)) (M.1 (a0 + 1)) (0 : Int32).toNatClampNeg (0 : Int32).toNatClampNeg (600 : Int32).toNatClampNeg)).1 a1 1)).1 a1 2)) a0 3 ((hr_si (hr_si (hr_sr M (a0 + 1) (va_cpy (M.1 (a1 + 1)) (M.1 (a0 + 1)) (0 : Int32).toNatClampNeg (0 : Int32).toNatClampNeg (600 : Int32).toNatClampNeg)) a0 1 ((hr_sr M (a0 + 1) (va_cpy (M.1 (a1 + 1)) (M.1 (a0 + 1)) (0 : Int32).toNatClampNeg (0 : Int32).toNatClampNeg (600 : Int32).toNatClampNeg)).1 a1 1)) a0 2 ((hr_si (hr_sr M (a0 + 1) (va_cpy (M.1 (a1 + 1)) (M.1 (a0 + 1)) (0 : Int32).toNatClampNeg (0 : Int32).toNatClampNeg (600 : Int32).toNatClampNeg)) a0 1 ((hr_sr M (a0 + 1) (va_cpy (M.1 (a1 + 1)) (M.1 (a0 + 1)) (0 : Int32).toNatClampNeg (0 : Int32).toNatClampNeg (600 : Int32).toNatClampNeg)).1 a1 1)).1 a1 2)).1 a1 3)) (a0 + 2) (va_cpy ((hr_si (hr_si (hr_si (hr_sr M (a0 + 1) (va_cpy (M.1 (a1 + 1)) (M.1 (a0 + 1)) (0 : Int32).toNatClampNeg (0 : Int32).toNatClampNeg (600 : Int32).toNatClampNeg)) a0 1 ((hr_sr M (a0 + 1) (va_cpy (M.1 (a1 + 1)) (M.1 (a0 + 1)) (0 : Int32).toNatClampNeg (0 : Int32).toNatClampNeg (600 : Int32).toNatClampNeg)).1 a1 1)) a0 2 ((hr_si (hr_sr M (a0 + 1) (va_cpy (M.1 (a1 + 1)) (M.1 (a0 + 1)) (0 : Int32).toNatClampNeg (0 : Int32).toNatClampNeg (600 : Int32).toNatClampNeg)) a0 1 ((hr_sr M (a0 + 1) (va_cpy (M.1 (a1 + 1)) (M.1 (a0 + 1)) (0 : Int32).toNatClampNeg (0 : Int32).toNatClampNeg (600 : Int32).toNatClampNeg)).1 a1 1)).1 a1 2)) a0 3 ((hr_si (hr_si (hr_sr M (a0 + 1) (va_cpy (M.1 (a1 + 1)) (M.1 (a0 + 1)) (0 : Int32).toNatClampNeg (0 : Int32).toNatClampNeg (600 : Int32).toNatClampNeg)) a0 1 ((hr_sr M (a0 + 1) (va_cpy (M.1 (a1 + 1)) (M.1 (a0 + 1)) (0 : Int32).toNatClampNeg (0 : Int32).toNatClampNeg (600 : Int32).toNatClampNeg)).1 a1 1)) a0 2 ((hr_si (hr_sr M (a0 + 1) (va_cpy (M.1 (a1 + 1)) (M.1 (a0 + 1)) (0 : Int32).toNatClampNeg (0 : Int32).toNatClampNeg (600 : Int32).toNatClampNeg)) a0 1 ((hr_sr M (a0 + 1) (va_cpy (M.1 (a1 + 1)) (M.1 (a0 + 1)) (0 : Int32).toNatClampNeg (0 : Int32).toNatClampNeg (600 : Int32).toNatClampNeg)).1 a1 1)).1 a1 2)).1 a1 3)).1 (a1 + 2)) ((hr_si (hr_si (hr_si (hr_sr M (a0 + 1) (va_cpy (M.1 (a1 + 1)) (M.1 (a0 + 1)) (0 : Int32).toNatClampNeg (0 : Int32).toNatClampNeg (600 : Int32).toNatClampNeg)) a0 1 ((hr_sr M (a0 + 1) (va_cpy (M.1 (a1 + 1)) (M.1 (a0 + 1)) (0 : Int32).toNatClampNeg (0 : Int32).toNatClampNeg (600 : Int32).toNatClampNeg)).1 a1 1)) a0 2 ((hr_si (hr_sr M (a0 + 1) (va_cpy (M.1 (a1 + 1)) (M.1 (a0 + 1)) (0 : Int32).toNatClampNeg (0 : Int32).toNatClampNeg (600 : Int32).toNatClampNeg)) a0 1 ((hr_sr M (a0 + 1) (va_cpy (M.1 (a1 + 1)) (M.1 (a0 + 1)) (0 : Int32).toNatClampNeg (0 : Int32).toNatClampNeg (600 : Int32).toNatClampNeg)).1 a1 1)).1 a1 2)) a0 3 ((hr_si (hr_si (hr_sr M (a0 + 1) (va_cpy (M.1 (a1 + 1)) (M.1 (a0 + 1)) (0 : Int32).toNatClampNeg (0 : Int32).toNatClampNeg (600 : Int32).toNatClampNeg)) a0 1 ((hr_sr M (a0 + 1) (va_cpy (M.1 (a1 + 1)) (M.1 (a0 + 1)) (0 : Int32).toNatClampNeg (0 : Int32).toNatClampNeg (600 : Int32).toNatClampNeg)).1 a1 1)) a0 2 ((hr_si (hr_sr M (a0 + 1) (va_cpy (M.1 (a1 + 1)) (M.1 (a0 + 1)) (0 : Int32).toNatClampNeg (0 : Int32).toNatClampNeg (600 : Int32).toNatClampNeg)) a0 1 ((hr_sr M (a0 + 1) (va_cpy (M.1 (a1 + 1)) (M.1 (a0 + 1)) (0 : Int32).toNatClampNeg (0 : Int32).toNatClampNeg (600 : Int32).toNatClampNeg)).1 a1 1)).1 a1 2)).1 a1 3)).1 (a0 + 2)) (0 : Int32).toNatClampNeg (0 : Int32).toNatClampNeg (5 : Int32).toNatClampNeg)) else none else none else none else none
theorem g_X8_copyFrom (a0 : Nat) (a1 : Nat) : ∀ (M : PM) (r : Unit × PM), f_X8_copyFrom a0 a1 M = some r → hr_G 109 0 [some (.ref a0), some (.ref a1), none] [] M (none, r.2) := by
  intro M r h
  unfold f_X8_copyFrom at h
  refine hr_Fg h (fun ka0 h => ?_)
  refine hr_Fg h (fun ka1 h => ?_)
  refine hr_Fg h (fun hg1_0 h => ?_)
  refine hr_Fg h (fun hg1_1 h => ?_)
  refine hr_Grun mf_X8_copyFrom lb_X8_copyFrom_0 (P := hr_K a1 = 7 ∧ hr_K a0 = 7 ∧ (((hr_K (a1 + 1) = 12 ∧ hr_K (a0 + 1) = 12) ∨ (hr_K (a1 + 1) = 11 ∧ hr_K (a0 + 1) = 11 ∧ ∀ i, i < (600 : Int32).toNatClampNeg → fits .byte (.int (M.1 (a1 + 1) ((0 : Int32).toNatClampNeg + i))) = true)) ∧ ((a0 + 1) < hr_n ∧ (a1 + 1) < hr_n) ∧ (¬ (0 : Int32) < 0 ∧ ¬ (0 : Int32) < 0 ∧ ¬ (600 : Int32) < 0) ∧ (0 : Int32).toNatClampNeg + (600 : Int32).toNatClampNeg ≤ hr_N (a1 + 1) ∧ (0 : Int32).toNatClampNeg + (600 : Int32).toNatClampNeg ≤ hr_N (a0 + 1)) ∧ hr_K a1 = 7 ∧ (hr_K a0 = 7 ∧ a0 < hr_n) ∧ hr_K a1 = 7 ∧ (hr_K a0 = 7 ∧ a0 < hr_n) ∧ hr_K a1 = 7 ∧ (hr_K a0 = 7 ∧ a0 < hr_n) ∧ hr_K a1 = 7 ∧ hr_K a0 = 7 ∧ (((hr_K (a1 + 2) = 12 ∧ hr_K (a0 + 2) = 12) ∨ (hr_K (a1 + 2) = 11 ∧ hr_K (a0 + 2) = 11 ∧ ∀ i, i < (5 : Int32).toNatClampNeg → fits .byte (.int ((hr_si (hr_si (hr_si (hr_sr M (a0 + 1) (va_cpy (M.1 (a1 + 1)) (M.1 (a0 + 1)) (0 : Int32).toNatClampNeg (0 : Int32).toNatClampNeg (600 : Int32).toNatClampNeg)) a0 1 ((hr_sr M (a0 + 1) (va_cpy (M.1 (a1 + 1)) (M.1 (a0 + 1)) (0 : Int32).toNatClampNeg (0 : Int32).toNatClampNeg (600 : Int32).toNatClampNeg)).1 a1 1)) a0 2 ((hr_si (hr_sr M (a0 + 1) (va_cpy (M.1 (a1 + 1)) (M.1 (a0 + 1)) (0 : Int32).toNatClampNeg (0 : Int32).toNatClampNeg (600 : Int32).toNatClampNeg)) a0 1 ((hr_sr M (a0 + 1) (va_cpy (M.1 (a1 + 1)) (M.1 (a0 + 1)) (0 : Int32).toNatClampNeg (0 : Int32).toNatClampNeg (600 : Int32).toNatClampNeg)).1 a1 1)).1 a1 2)) a0 3 ((hr_si (hr_si (hr_sr M (a0 + 1) (va_cpy (M.1 (a1 + 1)) (M.1 (a0 + 1)) (0 : Int32).toNatClampNeg (0 : Int32).toNatClampNeg (600 : Int32).toNatClampNeg)) a0 1 ((hr_sr M (a0 + 1) (va_cpy (M.1 (a1 + 1)) (M.1 (a0 + 1)) (0 : Int32).toNatClampNeg (0 : Int32).toNatClampNeg (600 : Int32).toNatClampNeg)).1 a1 1)) a0 2 ((hr_si (hr_sr M (a0 + 1) (va_cpy (M.1 (a1 + 1)) (M.1 (a0 + 1)) (0 : Int32).toNatClampNeg (0 : Int32).toNatClampNeg (600 : Int32).toNatClampNeg)) a0 1 ((hr_sr M (a0 + 1) (va_cpy (M.1 (a1 + 1)) (M.1 (a0 + 1)) (0 : Int32).toNatClampNeg (0 : Int32).toNatClampNeg (600 : Int32).toNatClampNeg)).1 a1 1)).1 a1 2)).1 a1 3)).1 (a1 + 2) ((0 : Int32).toNatClampNeg + i))) = true)) ∧ ((a0 + 2) < hr_n ∧ (a1 + 2) < hr_n) ∧ (¬ (0 : Int32) < 0 ∧ ¬ (0 : Int32) < 0 ∧ ¬ (5 : Int32) < 0) ∧ (0 : Int32).toNatClampNeg + (5 : Int32).toNatClampNeg ≤ hr_N (a1 + 2) ∧ (0 : Int32).toNatClampNeg + (5 : Int32).toNatClampNeg ≤ hr_N (a0 + 2)) ∧ True) (pc' := 56) (ls' := [some (.ref a0), some (.ref a1), some (.int 0)]) (st' := []) (M' := hr_sr (hr_si (hr_si (hr_si (hr_sr M (a0 + 1) (va_cpy (M.1 (a1 + 1)) (M.1 (a0 + 1)) (0 : Int32).toNatClampNeg (0 : Int32).toNatClampNeg (600 : Int32).toNatClampNeg)) a0 1 ((hr_sr M (a0 + 1) (va_cpy (M.1 (a1 + 1)) (M.1 (a0 + 1)) (0 : Int32).toNatClampNeg (0 : Int32).toNatClampNeg (600 : Int32).toNatClampNeg)).1 a1 1)) a0 2 ((hr_si (hr_sr M (a0 + 1) (va_cpy (M.1 (a1 + 1)) (M.1 (a0 + 1)) (0 : Int32).toNatClampNeg (0 : Int32).toNatClampNeg (600 : Int32).toNatClampNeg)) a0 1 ((hr_sr M (a0 + 1) (va_cpy (M.1 (a1 + 1)) (M.1 (a0 + 1)) (0 : Int32).toNatClampNeg (0 : Int32).toNatClampNeg (600 : Int32).toNatClampNeg)).1 a1 1)).1 a1 2)) a0 3 ((hr_si (hr_si (hr_sr M (a0 + 1) (va_cpy (M.1 (a1 + 1)) (M.1 (a0 + 1)) (0 : Int32).toNatClampNeg (0 : Int32).toNatClampNeg (600 : Int32).toNatClampNeg)) a0 1 ((hr_sr M (a0 + 1) (va_cpy (M.1 (a1 + 1)) (M.1 (a0 + 1)) (0 : Int32).toNatClampNeg (0 : Int32).toNatClampNeg (600 : Int32).toNatClampNeg)).1 a1 1)) a0 2 ((hr_si (hr_sr M (a0 + 1) (va_cpy (M.1 (a1 + 1)) (M.1 (a0 + 1)) (0 : Int32).toNatClampNeg (0 : Int32).toNatClampNeg (600 : Int32).toNatClampNeg)) a0 1 ((hr_sr M (a0 + 1) (va_cpy (M.1 (a1 + 1)) (M.1 (a0 + 1)) (0 : Int32).toNatClampNeg (0 : Int32).toNatClampNeg (600 : Int32).toNatClampNeg)).1 a1 1)).1 a1 2)).1 a1 3)) (a0 + 2) (va_cpy ((hr_si (hr_si (hr_si (hr_sr M (a0 + 1) (va_cpy (M.1 (a1 + 1)) (M.1 (a0 + 1)) (0 : Int32).toNatClampNeg (0 : Int32).toNatClampNeg (600 : Int32).toNatClampNeg)) a0 1 ((hr_sr M (a0 + 1) (va_cpy (M.1 (a1 + 1)) (M.1 (a0 + 1)) (0 : Int32).toNatClampNeg (0 : Int32).toNatClampNeg (600 : Int32).toNatClampNeg)).1 a1 1)) a0 2 ((hr_si (hr_sr M (a0 + 1) (va_cpy (M.1 (a1 + 1)) (M.1 (a0 + 1)) (0 : Int32).toNatClampNeg (0 : Int32).toNatClampNeg (600 : Int32).toNatClampNeg)) a0 1 ((hr_sr M (a0 + 1) (va_cpy (M.1 (a1 + 1)) (M.1 (a0 + 1)) (0 : Int32).toNatClampNeg (0 : Int32).toNatClampNeg (600 : Int32).toNatClampNeg)).1 a1 1)).1 a1 2)) a0 3 ((hr_si (hr_si (hr_sr M (a0 + 1) (va_cpy (M.1 (a1 + 1)) (M.1 (a0 + 1)) (0 : Int32).toNatClampNeg (0 : Int32).toNatClampNeg (600 : Int32).toNatClampNeg)) a0 1 ((hr_sr M (a0 + 1) (va_cpy (M.1 (a1 + 1)) (M.1 (a0 + 1)) (0 : Int32).toNatClampNeg (0 : Int32).toNatClampNeg (600 : Int32).toNatClampNeg)).1 a1 1)) a0 2 ((hr_si (hr_sr M (a0 + 1) (va_cpy (M.1 (a1 + 1)) (M.1 (a0 + 1)) (0 : Int32).toNatClampNeg (0 : Int32).toNatClampNeg (600 : Int32).toNatClampNeg)) a0 1 ((hr_sr M (a0 + 1) (va_cpy (M.1 (a1 + 1)) (M.1 (a0 + 1)) (0 : Int32).toNatClampNeg (0 : Int32).toNatClampNeg (600 : Int32).toNatClampNeg)).1 a1 1)).1 a1 2)).1 a1 3)).1 (a1 + 2)) ((hr_si (hr_si (hr_si (hr_sr M (a0 + 1) (va_cpy (M.1 (a1 + 1)) (M.1 (a0 + 1)) (0 : Int32).toNatClampNeg (0 : Int32).toNatClampNeg (600 : Int32).toNatClampNeg)) a0 1 ((hr_sr M (a0 + 1) (va_cpy (M.1 (a1 + 1)) (M.1 (a0 + 1)) (0 : Int32).toNatClampNeg (0 : Int32).toNatClampNeg (600 : Int32).toNatClampNeg)).1 a1 1)) a0 2 ((hr_si (hr_sr M (a0 + 1) (va_cpy (M.1 (a1 + 1)) (M.1 (a0 + 1)) (0 : Int32).toNatClampNeg (0 : Int32).toNatClampNeg (600 : Int32).toNatClampNeg)) a0 1 ((hr_sr M (a0 + 1) (va_cpy (M.1 (a1 + 1)) (M.1 (a0 + 1)) (0 : Int32).toNatClampNeg (0 : Int32).toNatClampNeg (600 : Int32).toNatClampNeg)).1 a1 1)).1 a1 2)) a0 3 ((hr_si (hr_si (hr_sr M (a0 + 1) (va_cpy (M.1 (a1 + 1)) (M.1 (a0 + 1)) (0 : Int32).toNatClampNeg (0 : Int32).toNatClampNeg (600 : Int32).toNatClampNeg)) a0 1 ((hr_sr M (a0 + 1) (va_cpy (M.1 (a1 + 1)) (M.1 (a0 + 1)) (0 : Int32).toNatClampNeg (0 : Int32).toNatClampNeg (600 : Int32).toNatClampNeg)).1 a1 1)) a0 2 ((hr_si (hr_sr M (a0 + 1) (va_cpy (M.1 (a1 + 1)) (M.1 (a0 + 1)) (0 : Int32).toNatClampNeg (0 : Int32).toNatClampNeg (600 : Int32).toNatClampNeg)) a0 1 ((hr_sr M (a0 + 1) (va_cpy (M.1 (a1 + 1)) (M.1 (a0 + 1)) (0 : Int32).toNatClampNeg (0 : Int32).toNatClampNeg (600 : Int32).toNatClampNeg)).1 a1 1)).1 a1 2)).1 a1 3)).1 (a0 + 2)) (0 : Int32).toNatClampNeg (0 : Int32).toNatClampNeg (5 : Int32).toNatClampNeg)) rfl rfl ⟨ka1, ka0, ⟨Or.inr ⟨(kf_7_0 ka1).1, (kf_7_0 ka0).1, hg1_0.1⟩, ⟨(kf_7_0 ka0).2.2, (kf_7_0 ka1).2.2⟩, hg1_0.2.1, hg1_0.2.2.1, hg1_0.2.2.2⟩, ka1, ⟨ka0, (hr_dk ka0 (by decide))⟩, ka1, ⟨ka0, (hr_dk ka0 (by decide))⟩, ka1, ⟨ka0, (hr_dk ka0 (by decide))⟩, ka1, ka0, ⟨Or.inl ⟨(kf_7_4 ka1).1, (kf_7_4 ka0).1⟩, ⟨(kf_7_4 ka0).2.2, (kf_7_4 ka1).2.2⟩, hg1_1.1, hg1_1.2.1, hg1_1.2.2⟩, trivial⟩ ?_
  exact g_X8_copyFrom_56 a0 a1 ka0 ka1 FU 0 (hr_sr (hr_si (hr_si (hr_si (hr_sr M (a0 + 1) (va_cpy (M.1 (a1 + 1)) (M.1 (a0 + 1)) (0 : Int32).toNatClampNeg (0 : Int32).toNatClampNeg (600 : Int32).toNatClampNeg)) a0 1 ((hr_sr M (a0 + 1) (va_cpy (M.1 (a1 + 1)) (M.1 (a0 + 1)) (0 : Int32).toNatClampNeg (0 : Int32).toNatClampNeg (600 : Int32).toNatClampNeg)).1 a1 1)) a0 2 ((hr_si (hr_sr M (a0 + 1) (va_cpy (M.1 (a1 + 1)) (M.1 (a0 + 1)) (0 : Int32).toNatClampNeg (0 : Int32).toNatClampNeg (600 : Int32).toNatClampNeg)) a0 1 ((hr_sr M (a0 + 1) (va_cpy (M.1 (a1 + 1)) (M.1 (a0 + 1)) (0 : Int32).toNatClampNeg (0 : Int32).toNatClampNeg (600 : Int32).toNatClampNeg)).1 a1 1)).1 a1 2)) a0 3 ((hr_si (hr_si (hr_sr M (a0 + 1) (va_cpy (M.1 (a1 + 1)) (M.1 (a0 + 1)) (0 : Int32).toNatClampNeg (0 : Int32).toNatClampNeg (600 : Int32).toNatClampNeg)) a0 1 ((hr_sr M (a0 + 1) (va_cpy (M.1 (a1 + 1)) (M.1 (a0 + 1)) (0 : Int32).toNatClampNeg (0 : Int32).toNatClampNeg (600 : Int32).toNatClampNeg)).1 a1 1)) a0 2 ((hr_si (hr_sr M (a0 + 1) (va_cpy (M.1 (a1 + 1)) (M.1 (a0 + 1)) (0 : Int32).toNatClampNeg (0 : Int32).toNatClampNeg (600 : Int32).toNatClampNeg)) a0 1 ((hr_sr M (a0 + 1) (va_cpy (M.1 (a1 + 1)) (M.1 (a0 + 1)) (0 : Int32).toNatClampNeg (0 : Int32).toNatClampNeg (600 : Int32).toNatClampNeg)).1 a1 1)).1 a1 2)).1 a1 3)) (a0 + 2) (va_cpy ((hr_si (hr_si (hr_si (hr_sr M (a0 + 1) (va_cpy (M.1 (a1 + 1)) (M.1 (a0 + 1)) (0 : Int32).toNatClampNeg (0 : Int32).toNatClampNeg (600 : Int32).toNatClampNeg)) a0 1 ((hr_sr M (a0 + 1) (va_cpy (M.1 (a1 + 1)) (M.1 (a0 + 1)) (0 : Int32).toNatClampNeg (0 : Int32).toNatClampNeg (600 : Int32).toNatClampNeg)).1 a1 1)) a0 2 ((hr_si (hr_sr M (a0 + 1) (va_cpy (M.1 (a1 + 1)) (M.1 (a0 + 1)) (0 : Int32).toNatClampNeg (0 : Int32).toNatClampNeg (600 : Int32).toNatClampNeg)) a0 1 ((hr_sr M (a0 + 1) (va_cpy (M.1 (a1 + 1)) (M.1 (a0 + 1)) (0 : Int32).toNatClampNeg (0 : Int32).toNatClampNeg (600 : Int32).toNatClampNeg)).1 a1 1)).1 a1 2)) a0 3 ((hr_si (hr_si (hr_sr M (a0 + 1) (va_cpy (M.1 (a1 + 1)) (M.1 (a0 + 1)) (0 : Int32).toNatClampNeg (0 : Int32).toNatClampNeg (600 : Int32).toNatClampNeg)) a0 1 ((hr_sr M (a0 + 1) (va_cpy (M.1 (a1 + 1)) (M.1 (a0 + 1)) (0 : Int32).toNatClampNeg (0 : Int32).toNatClampNeg (600 : Int32).toNatClampNeg)).1 a1 1)) a0 2 ((hr_si (hr_sr M (a0 + 1) (va_cpy (M.1 (a1 + 1)) (M.1 (a0 + 1)) (0 : Int32).toNatClampNeg (0 : Int32).toNatClampNeg (600 : Int32).toNatClampNeg)) a0 1 ((hr_sr M (a0 + 1) (va_cpy (M.1 (a1 + 1)) (M.1 (a0 + 1)) (0 : Int32).toNatClampNeg (0 : Int32).toNatClampNeg (600 : Int32).toNatClampNeg)).1 a1 1)).1 a1 2)).1 a1 3)).1 (a1 + 2)) ((hr_si (hr_si (hr_si (hr_sr M (a0 + 1) (va_cpy (M.1 (a1 + 1)) (M.1 (a0 + 1)) (0 : Int32).toNatClampNeg (0 : Int32).toNatClampNeg (600 : Int32).toNatClampNeg)) a0 1 ((hr_sr M (a0 + 1) (va_cpy (M.1 (a1 + 1)) (M.1 (a0 + 1)) (0 : Int32).toNatClampNeg (0 : Int32).toNatClampNeg (600 : Int32).toNatClampNeg)).1 a1 1)) a0 2 ((hr_si (hr_sr M (a0 + 1) (va_cpy (M.1 (a1 + 1)) (M.1 (a0 + 1)) (0 : Int32).toNatClampNeg (0 : Int32).toNatClampNeg (600 : Int32).toNatClampNeg)) a0 1 ((hr_sr M (a0 + 1) (va_cpy (M.1 (a1 + 1)) (M.1 (a0 + 1)) (0 : Int32).toNatClampNeg (0 : Int32).toNatClampNeg (600 : Int32).toNatClampNeg)).1 a1 1)).1 a1 2)) a0 3 ((hr_si (hr_si (hr_sr M (a0 + 1) (va_cpy (M.1 (a1 + 1)) (M.1 (a0 + 1)) (0 : Int32).toNatClampNeg (0 : Int32).toNatClampNeg (600 : Int32).toNatClampNeg)) a0 1 ((hr_sr M (a0 + 1) (va_cpy (M.1 (a1 + 1)) (M.1 (a0 + 1)) (0 : Int32).toNatClampNeg (0 : Int32).toNatClampNeg (600 : Int32).toNatClampNeg)).1 a1 1)) a0 2 ((hr_si (hr_sr M (a0 + 1) (va_cpy (M.1 (a1 + 1)) (M.1 (a0 + 1)) (0 : Int32).toNatClampNeg (0 : Int32).toNatClampNeg (600 : Int32).toNatClampNeg)) a0 1 ((hr_sr M (a0 + 1) (va_cpy (M.1 (a1 + 1)) (M.1 (a0 + 1)) (0 : Int32).toNatClampNeg (0 : Int32).toNatClampNeg (600 : Int32).toNatClampNeg)).1 a1 1)).1 a1 2)).1 a1 3)).1 (a0 + 2)) (0 : Int32).toNatClampNeg (0 : Int32).toNatClampNeg (5 : Int32).toNatClampNeg)) _ h
theorem mf_X9_begin : hr_mf 112 9 1 none 3 1 bk_X9_begin := ⟨rfl, rfl, rfl, rfl, rfl, rfl⟩
theorem lb_X9_begin_0 : bk_X9_begin.lookup 0 = some [(.aload_n 0, 1), (.iconst 0, 1), (.putfield 47, 3), (.aload_n 0, 1), (.iconst 0, 1), (.putfield 50, 3), (.aload_n 0, 1), (.iconst (-1), 1), (.putfield 53, 3), (.aload_n 0, 1), (.iconst (-1), 1), (.putfield 56, 3), (.iconst 0, 1), (.istore_n 2, 1)] := rfl
theorem lb_X9_begin_22 : bk_X9_begin.lookup 22 = some [(.iload_n 2, 1), (.bipush 9, 2), (.if_icmp .ge 40, 3)] := rfl
theorem lb_X9_begin_28 : bk_X9_begin.lookup 28 = some [(.aload_n 0, 1), (.getfield 9, 3), (.iload_n 2, 1), (.iconst (-1), 1), (.iastore, 1), (.aload_n 0, 1), (.getfield 15, 3), (.iload_n 2, 1), (.aload_n 1, 1), (.iload_n 2, 1)] := rfl
theorem lb_X9_begin_42 : bk_X9_begin.lookup 42 = some [(.invokevirtual 59, 3)] := rfl
theorem lb_X9_begin_45 : bk_X9_begin.lookup 45 = some [(.ifCond .eq 12, 3)] := rfl
theorem lb_X9_begin_48 : bk_X9_begin.lookup 48 = some [(.aload_n 1, 1), (.getfield 63, 3), (.iload_n 2, 1), (.iaload, 1), (.goto 4, 3)] := rfl
theorem lb_X9_begin_57 : bk_X9_begin.lookup 57 = some [(.iconst 0, 1)] := rfl
theorem lb_X9_begin_58 : bk_X9_begin.lookup 58 = some [(.iastore, 1), (.iinc 2 1, 3), (.goto (-40), 3)] := rfl
theorem lb_X9_begin_65 : bk_X9_begin.lookup 65 = some [(.iconst 0, 1), (.istore_n 2, 1)] := rfl
theorem lb_X9_begin_67 : bk_X9_begin.lookup 67 = some [(.iload_n 2, 1), (.bipush 6, 2), (.if_icmp .ge 30, 3)] := rfl
theorem lb_X9_begin_73 : bk_X9_begin.lookup 73 = some [(.aload_n 0, 1), (.getfield 18, 3), (.iload_n 2, 1), (.iconst (-1), 1), (.iastore, 1), (.aload_n 0, 1), (.getfield 21, 3), (.iload_n 2, 1), (.iconst (-1), 1), (.iastore, 1), (.aload_n 0, 1), (.getfield 24, 3), (.iload_n 2, 1), (.iconst 0, 1), (.iastore, 1), (.iinc 2 1, 3), (.goto (-30), 3)] := rfl
theorem lb_X9_begin_100 : bk_X9_begin.lookup 100 = some [(.return_, 1)] := rfl
def f_X9_begin_67 (a1 : Nat) : Nat → Int32 → PM → Option (Unit × PM)
  | 0, _, _ => none
  | f + 1, x2, M =>
    if 6 ≤ x2 then
      some ((), M)
    else
      if inB x2 6 = true then if inB x2 6 = true then if inB x2 6 = true then 
      f_X9_begin_67 a1 f (x2 + 1) (hr_si (hr_si (hr_si M 252 x2.toNatClampNeg (-1)) 253 x2.toNatClampNeg (-1)) 254 x2.toNatClampNeg 0) else none else none else none
theorem g_X9_begin_67 (a1 : Nat) (ka1 : hr_K a1 = 5) : ∀ (f : Nat) (x2 : Int32) (M : PM) (r : Unit × PM), f_X9_begin_67 a1 f x2 M = some r → hr_G 112 67 [some (.ref 249), none, some (.int x2)] [] M (none, r.2) := by
  intro f
  induction f with
  | zero => intro x2 M r h; cases h
  | succ f ih =>
    intro x2 M r h
    rw [f_X9_begin_67.eq_2] at h
    refine hr_Grun mf_X9_begin lb_X9_begin_67 (P := True) (pc' := if 6 ≤ x2 then 100 else 73) (ls' := [some (.ref 249), none, some (.int x2)]) (st' := []) (M' := M) rfl rfl trivial ?_
    refine hr_Gif h (fun _ h => ?_) (fun _ h => ?_)
    · cases h
      exact hr_Gret mf_X9_begin lb_X9_begin_100 rfl rfl trivial
    · refine hr_Fg h (fun hg2_0 h => ?_)
      refine hr_Fg h (fun hg2_1 h => ?_)
      refine hr_Fg h (fun hg2_2 h => ?_)
      refine hr_Grun mf_X9_begin lb_X9_begin_73 (P := hr_K 249 = 8 ∧ ((hr_K 252 = 12 ∧ 252 < hr_n) ∧ vp_in x2 (hr_N 252)) ∧ hr_K 249 = 8 ∧ ((hr_K 253 = 12 ∧ 253 < hr_n) ∧ vp_in x2 (hr_N 253)) ∧ hr_K 249 = 8 ∧ ((hr_K 254 = 12 ∧ 254 < hr_n) ∧ vp_in x2 (hr_N 254)) ∧ True) (pc' := 67) (ls' := [some (.ref 249), none, some (.int (x2 + 1))]) (st' := []) (M' := hr_si (hr_si (hr_si M 252 x2.toNatClampNeg (-1)) 253 x2.toNatClampNeg (-1)) 254 x2.toNatClampNeg 0) rfl rfl ⟨K_249, ⟨⟨K_252, L_252⟩, (inB_N N_252 hg2_0)⟩, K_249, ⟨⟨K_253, L_253⟩, (inB_N N_253 hg2_1)⟩, K_249, ⟨⟨K_254, L_254⟩, (inB_N N_254 hg2_2)⟩, trivial⟩ ?_
      exact ih (x2 + 1) (hr_si (hr_si (hr_si M 252 x2.toNatClampNeg (-1)) 253 x2.toNatClampNeg (-1)) 254 x2.toNatClampNeg 0) _ h
def f_X9_begin_22 (a1 : Nat) : Nat → Int32 → PM → Option (Unit × PM)
  | 0, _, _ => none
  | f + 1, x2, M =>
    if 9 ≤ x2 then
      f_X9_begin_67 a1 FU 0 M
    else
      if inB x2 9 = true then 
      hr_bd (f_X6_has a1 x2 (hr_si M 250 x2.toNatClampNeg (-1))) (fun v4 M4 =>
      if v4 = 0 then
        if inB x2 9 = true then 
        f_X9_begin_22 a1 f (x2 + 1) (hr_si M4 251 x2.toNatClampNeg 0) else none
      else
        if inB x2 40 = true then 
        if inB x2 9 = true then 
        f_X9_begin_22 a1 f (x2 + 1) (hr_si M4 251 x2.toNatClampNeg (M4.1 (a1 + 3) x2.toNatClampNeg)) else none else none) else none
theorem g_X9_begin_22 (a1 : Nat) (ka1 : hr_K a1 = 5) : ∀ (f : Nat) (x2 : Int32) (M : PM) (r : Unit × PM), f_X9_begin_22 a1 f x2 M = some r → hr_G 112 22 [some (.ref 249), some (.ref a1), some (.int x2)] [] M (none, r.2) := by
  intro f
  induction f with
  | zero => intro x2 M r h; cases h
  | succ f ih =>
    intro x2 M r h
    rw [f_X9_begin_22.eq_2] at h
    refine hr_Grun mf_X9_begin lb_X9_begin_22 (P := True) (pc' := if 9 ≤ x2 then 65 else 28) (ls' := [some (.ref 249), some (.ref a1), some (.int x2)]) (st' := []) (M' := M) rfl rfl trivial ?_
    refine hr_Gif h (fun _ h => ?_) (fun _ h => ?_)
    · refine hr_Grun mf_X9_begin lb_X9_begin_65 (P := True) (pc' := 67) (ls' := [some (.ref 249), some (.ref a1), some (.int 0)]) (st' := []) (M' := M) rfl rfl trivial ?_
      refine hr_Gle (ls := [some (.ref 249), none, some (.int 0)]) (hr_le_s (hr_le_n (hr_le_s hr_le_0))) ?_
      exact g_X9_begin_67 a1 ka1 FU 0 M _ h
    · refine hr_Fg h (fun hg3_0 h => ?_)
      refine hr_Grun mf_X9_begin lb_X9_begin_28 (P := hr_K 249 = 8 ∧ ((hr_K 250 = 12 ∧ 250 < hr_n) ∧ vp_in x2 (hr_N 250)) ∧ hr_K 249 = 8 ∧ True) (pc' := 42) (ls' := [some (.ref 249), some (.ref a1), some (.int x2)]) (st' := [.int x2, .ref a1, .int x2, .ref 251]) (M' := hr_si M 250 x2.toNatClampNeg (-1)) rfl rfl ⟨K_249, ⟨⟨K_250, L_250⟩, (inB_N N_250 hg3_0)⟩, K_249, trivial⟩ ?_
      refine hr_Fb h (fun v4 M4 e4 h => ?_)
      refine hr_Gcv mf_X9_begin mf_X6_has lb_X9_begin_42 (b := a1) (as := [.int x2]) (rest := [.int x2, .ref 251]) (st2 := [.int v4, .int x2, .ref 251]) (v := some (.int v4)) (M1 := M4) rfl rfl rfl rfl rfl rfl ka1 (g_X6_has a1 x2 _ _ e4) rfl rfl ?_
      refine hr_Grun mf_X9_begin lb_X9_begin_45 (P := True) (pc' := if v4 = 0 then 57 else 48) (ls' := [some (.ref 249), some (.ref a1), some (.int x2)]) (st' := [.int x2, .ref 251]) (M' := M4) rfl rfl trivial ?_
      refine hr_Gif h (fun _ h => ?_) (fun _ h => ?_)
      · refine hr_Grun mf_X9_begin lb_X9_begin_57 (P := True) (pc' := 58) (ls' := [some (.ref 249), some (.ref a1), some (.int x2)]) (st' := [.int 0, .int x2, .ref 251]) (M' := M4) rfl rfl trivial ?_
        refine hr_Fg h (fun hg7_0 h => ?_)
        refine hr_Grun mf_X9_begin lb_X9_begin_58 (P := ((hr_K 251 = 12 ∧ 251 < hr_n) ∧ vp_in x2 (hr_N 251)) ∧ True) (pc' := 22) (ls' := [some (.ref 249), some (.ref a1), some (.int (x2 + 1))]) (st' := []) (M' := hr_si M4 251 x2.toNatClampNeg 0) rfl rfl ⟨⟨⟨K_251, L_251⟩, (inB_N N_251 hg7_0)⟩, trivial⟩ ?_
        exact ih (x2 + 1) (hr_si M4 251 x2.toNatClampNeg 0) _ h
      · refine hr_Fg h (fun hg8_0 h => ?_)
        refine hr_Grun mf_X9_begin lb_X9_begin_48 (P := hr_K a1 = 5 ∧ (hr_K (a1 + 3) = 12 ∧ vp_in x2 (hr_N (a1 + 3))) ∧ True) (pc' := 58) (ls' := [some (.ref 249), some (.ref a1), some (.int x2)]) (st' := [.int (M4.1 (a1 + 3) x2.toNatClampNeg), .int x2, .ref 251]) (M' := M4) rfl rfl ⟨ka1, ⟨(kf_5_5 ka1).1, (inB_N (kf_5_5 ka1).2.1 hg8_0)⟩, trivial⟩ ?_
        refine hr_Fg h (fun hg9_0 h => ?_)
        refine hr_Grun mf_X9_begin lb_X9_begin_58 (P := ((hr_K 251 = 12 ∧ 251 < hr_n) ∧ vp_in x2 (hr_N 251)) ∧ True) (pc' := 22) (ls' := [some (.ref 249), some (.ref a1), some (.int (x2 + 1))]) (st' := []) (M' := hr_si M4 251 x2.toNatClampNeg (M4.1 (a1 + 3) x2.toNatClampNeg)) rfl rfl ⟨⟨⟨K_251, L_251⟩, (inB_N N_251 hg9_0)⟩, trivial⟩ ?_
        exact ih (x2 + 1) (hr_si M4 251 x2.toNatClampNeg (M4.1 (a1 + 3) x2.toNatClampNeg)) _ h
def f_X9_begin (a1 : Nat) (M : PM) : Option (Unit × PM) :=
  if hr_K a1 = 5 then f_X9_begin_22 a1 FU 0 (hr_si (hr_si (hr_si (hr_si M 249 0 0) 249 1 0) 249 2 (-1)) 249 3 (-1)) else none
theorem g_X9_begin (a1 : Nat) : ∀ (M : PM) (r : Unit × PM), f_X9_begin a1 M = some r → hr_G 112 0 [some (.ref 249), some (.ref a1), none] [] M (none, r.2) := by
  intro M r h
  unfold f_X9_begin at h
  refine hr_Fg h (fun ka1 h => ?_)
  refine hr_Grun mf_X9_begin lb_X9_begin_0 (P := (hr_K 249 = 8 ∧ 249 < hr_n) ∧ (hr_K 249 = 8 ∧ 249 < hr_n) ∧ (hr_K 249 = 8 ∧ 249 < hr_n) ∧ (hr_K 249 = 8 ∧ 249 < hr_n) ∧ True) (pc' := 22) (ls' := [some (.ref 249), some (.ref a1), some (.int 0)]) (st' := []) (M' := hr_si (hr_si (hr_si (hr_si M 249 0 0) 249 1 0) 249 2 (-1)) 249 3 (-1)) rfl rfl ⟨⟨K_249, L_249⟩, ⟨K_249, L_249⟩, ⟨K_249, L_249⟩, ⟨K_249, L_249⟩, trivial⟩ ?_
  exact g_X9_begin_22 a1 ka1 FU 0 (hr_si (hr_si (hr_si (hr_si M 249 0 0) 249 1 0) 249 2 (-1)) 249 3 (-1)) _ h
theorem mf_X9_move : hr_mf 114 9 0 (some .boolean) 4 4 bk_X9_move := ⟨rfl, rfl, rfl, rfl, rfl, rfl⟩
theorem lb_X9_move_0 : bk_X9_move.lookup 0 = some [(.aload_n 0, 1), (.iload_n 1, 1), (.iaload, 1), (.iconst (-1), 1), (.if_icmp .ne 7, 3)] := rfl
theorem lb_X9_move_7 : bk_X9_move.lookup 7 = some [(.iconst 1, 1), (.goto 4, 3)] := rfl
theorem lb_X9_move_11 : bk_X9_move.lookup 11 = some [(.iconst 0, 1)] := rfl
theorem lb_X9_move_12 : bk_X9_move.lookup 12 = some [(.iload_n 2, 1), (.if_icmp .eq 5, 3)] := rfl
theorem lb_X9_move_16 : bk_X9_move.lookup 16 = some [(.iconst 0, 1)] := rfl
theorem lb_X9_move_17 : bk_X9_move.lookup 17 = some [(.ireturn, 1)] := rfl
theorem lb_X9_move_18 : bk_X9_move.lookup 18 = some [(.aload_n 0, 1), (.iload_n 1, 1), (.iload_n 3, 1), (.iastore, 1), (.iconst 1, 1)] := rfl
theorem lb_X9_move_23 : bk_X9_move.lookup 23 = some [(.ireturn, 1)] := rfl
def f_X9_move_12 (a0 : Nat) (a1 : Int32) (a2 : Int32) (a3 : Int32) (s0 : Int32) (M : PM) : Option (Int32 × PM) :=
  if s0 = a2 then
    if inB a1 (hr_N a0) = true then 
    some (1, hr_si M a0 a1.toNatClampNeg a3) else none
  else
    some (0, M)
theorem g_X9_move_12 (a0 : Nat) (a1 : Int32) (a2 : Int32) (a3 : Int32) (ka0 : hr_K a0 = 12 ∧ a0 < hr_n) : ∀ (s0 : Int32) (M : PM) (r : Int32 × PM), f_X9_move_12 a0 a1 a2 a3 s0 M = some r → hr_G 114 12 [some (.ref a0), some (.int a1), some (.int a2), some (.int a3)] [.int s0] M (some (.int r.1), r.2) := by
  intro s0 M r h
  unfold f_X9_move_12 at h
  refine hr_Grun mf_X9_move lb_X9_move_12 (P := True) (pc' := if s0 = a2 then 18 else 16) (ls' := [some (.ref a0), some (.int a1), some (.int a2), some (.int a3)]) (st' := []) (M' := M) rfl rfl trivial ?_
  refine hr_Gif h (fun _ h => ?_) (fun _ h => ?_)
  · refine hr_Fg h (fun hg2_0 h => ?_)
    refine hr_Grun mf_X9_move lb_X9_move_18 (P := ((hr_K a0 = 12 ∧ a0 < hr_n) ∧ vp_in a1 (hr_N a0)) ∧ True) (pc' := 23) (ls' := [some (.ref a0), some (.int a1), some (.int a2), some (.int a3)]) (st' := [.int 1]) (M' := hr_si M a0 a1.toNatClampNeg a3) rfl rfl ⟨⟨⟨ka0.1, ka0.2⟩, (inB_N rfl hg2_0)⟩, trivial⟩ ?_
    cases h
    exact hr_Gret mf_X9_move lb_X9_move_23 rfl rfl (Or.inr rfl)
  · refine hr_Grun mf_X9_move lb_X9_move_16 (P := True) (pc' := 17) (ls' := [some (.ref a0), some (.int a1), some (.int a2), some (.int a3)]) (st' := [.int 0]) (M' := M) rfl rfl trivial ?_
    cases h
    exact hr_Gret mf_X9_move lb_X9_move_17 rfl rfl (Or.inl rfl)
def f_X9_move (a0 : Nat) (a1 : Int32) (a2 : Int32) (a3 : Int32) (M : PM) : Option (Int32 × PM) :=
  if hr_K a0 = 12 ∧ a0 < hr_n then if inB a1 (hr_N a0) = true then if (M.1 a0 a1.toNatClampNeg) = (-1) then
    f_X9_move_12 a0 a1 a2 a3 1 M
  else
    f_X9_move_12 a0 a1 a2 a3 0 M
  else none else none
theorem g_X9_move (a0 : Nat) (a1 : Int32) (a2 : Int32) (a3 : Int32) : ∀ (M : PM) (r : Int32 × PM), f_X9_move a0 a1 a2 a3 M = some r → hr_G 114 0 [some (.ref a0), some (.int a1), some (.int a2), some (.int a3)] [] M (some (.int r.1), r.2) := by
  intro M r h
  unfold f_X9_move at h
  refine hr_Fg h (fun ka0 h => ?_)
  refine hr_Fg h (fun hg1_0 h => ?_)
  refine hr_Grun mf_X9_move lb_X9_move_0 (P := (hr_K a0 = 12 ∧ vp_in a1 (hr_N a0)) ∧ True) (pc' := if (M.1 a0 a1.toNatClampNeg) = (-1) then 7 else 11) (ls' := [some (.ref a0), some (.int a1), some (.int a2), some (.int a3)]) (st' := []) (M' := M) rfl rfl ⟨⟨ka0.1, (inB_N rfl hg1_0)⟩, trivial⟩ ?_
  refine hr_Gif h (fun _ h => ?_) (fun _ h => ?_)
  · refine hr_Grun mf_X9_move lb_X9_move_7 (P := True) (pc' := 12) (ls' := [some (.ref a0), some (.int a1), some (.int a2), some (.int a3)]) (st' := [.int 1]) (M' := M) rfl rfl trivial ?_
    exact g_X9_move_12 a0 a1 a2 a3 ka0 1 M _ h
  · refine hr_Grun mf_X9_move lb_X9_move_11 (P := True) (pc' := 12) (ls' := [some (.ref a0), some (.int a1), some (.int a2), some (.int a3)]) (st' := [.int 0]) (M' := M) rfl rfl trivial ?_
    exact g_X9_move_12 a0 a1 a2 a3 ka0 0 M _ h
theorem mf_X9_addThing : hr_mf 118 9 0 none 3 2 bk_X9_addThing := ⟨rfl, rfl, rfl, rfl, rfl, rfl⟩
theorem lb_X9_addThing_0 : bk_X9_addThing.lookup 0 = some [(.aload_n 0, 1), (.getfield 101, 3), (.aload_n 0, 1), (.getfield 27, 3), (.arraylength, 1), (.if_icmp .ge 33, 3)] := rfl
theorem lb_X9_addThing_12 : bk_X9_addThing.lookup 12 = some [(.aload_n 0, 1), (.getfield 27, 3), (.aload_n 0, 1), (.getfield 101, 3), (.iload_n 1, 1), (.iastore, 1), (.aload_n 0, 1), (.getfield 30, 3), (.aload_n 0, 1), (.getfield 101, 3), (.iload_n 2, 1), (.iastore, 1), (.aload_n 0, 1), (.dup, 1), (.getfield 101, 3), (.iconst 1, 1), (.iadd, 1), (.putfield 101, 3)] := rfl
theorem lb_X9_addThing_42 : bk_X9_addThing.lookup 42 = some [(.return_, 1)] := rfl
def f_X9_addThing (a1 : Int32) (a2 : Int32) (M : PM) : Option (Unit × PM) :=
  if 15 ≤ (M.1 249 9) then
    some ((), M)
  else
    if inB (M.1 249 9) 15 = true then if inB ((hr_si M 255 (M.1 249 9).toNatClampNeg a1).1 249 9) 15 = true then 
    some ((), hr_si (hr_si (hr_si M 255 (M.1 249 9).toNatClampNeg a1) 256 ((hr_si M 255 (M.1 249 9).toNatClampNeg a1).1 249 9).toNatClampNeg a2) 249 9 (((hr_si (hr_si M 255 (M.1 249 9).toNatClampNeg a1) 256 ((hr_si M 255 (M.1 249 9).toNatClampNeg a1).1 249 9).toNatClampNeg a2).1 249 9) + 1)) else none else none
theorem g_X9_addThing (a1 : Int32) (a2 : Int32) : ∀ (M : PM) (r : Unit × PM), f_X9_addThing a1 a2 M = some r → hr_G 118 0 [some (.ref 249), some (.int a1), some (.int a2)] [] M (none, r.2) := by
  intro M r h
  unfold f_X9_addThing at h
  refine hr_Grun mf_X9_addThing lb_X9_addThing_0 (P := hr_K 249 = 8 ∧ hr_K 249 = 8 ∧ (11 ≤ hr_K 255 ∧ hr_K 255 ≤ 18) ∧ True) (pc' := if 15 ≤ (M.1 249 9) then 42 else 12) (ls' := [some (.ref 249), some (.int a1), some (.int a2)]) (st' := []) (M' := M) rfl rfl ⟨K_249, K_249, (hr_11 K_255 (by decide)), trivial⟩ ?_
  refine hr_Gif h (fun _ h => ?_) (fun _ h => ?_)
  · cases h
    exact hr_Gret mf_X9_addThing lb_X9_addThing_42 rfl rfl trivial
  · refine hr_Fg h (fun hg2_0 h => ?_)
    refine hr_Fg h (fun hg2_1 h => ?_)
    refine hr_Grun mf_X9_addThing lb_X9_addThing_12 (P := hr_K 249 = 8 ∧ hr_K 249 = 8 ∧ ((hr_K 255 = 12 ∧ 255 < hr_n) ∧ vp_in (M.1 249 9) (hr_N 255)) ∧ hr_K 249 = 8 ∧ hr_K 249 = 8 ∧ ((hr_K 256 = 12 ∧ 256 < hr_n) ∧ vp_in ((hr_si M 255 (M.1 249 9).toNatClampNeg a1).1 249 9) (hr_N 256)) ∧ hr_K 249 = 8 ∧ (hr_K 249 = 8 ∧ 249 < hr_n) ∧ True) (pc' := 42) (ls' := [some (.ref 249), some (.int a1), some (.int a2)]) (st' := []) (M' := hr_si (hr_si (hr_si M 255 (M.1 249 9).toNatClampNeg a1) 256 ((hr_si M 255 (M.1 249 9).toNatClampNeg a1).1 249 9).toNatClampNeg a2) 249 9 (((hr_si (hr_si M 255 (M.1 249 9).toNatClampNeg a1) 256 ((hr_si M 255 (M.1 249 9).toNatClampNeg a1).1 249 9).toNatClampNeg a2).1 249 9) + 1)) rfl rfl ⟨K_249, K_249, ⟨⟨K_255, L_255⟩, (inB_N N_255 hg2_0)⟩, K_249, K_249, ⟨⟨K_256, L_256⟩, (inB_N N_256 hg2_1)⟩, K_249, ⟨K_249, L_249⟩, trivial⟩ ?_
    cases h
    exact hr_Gret mf_X9_addThing lb_X9_addThing_42 rfl rfl trivial
theorem mf_X9_gatherThings : hr_mf 117 9 1 none 4 2 bk_X9_gatherThings := ⟨rfl, rfl, rfl, rfl, rfl, rfl⟩
theorem lb_X9_gatherThings_0 : bk_X9_gatherThings.lookup 0 = some [(.aload_n 0, 1), (.iconst 0, 1), (.putfield 101, 3), (.iconst 0, 1), (.istore_n 3, 1)] := rfl
theorem lb_X9_gatherThings_7 : bk_X9_gatherThings.lookup 7 = some [(.iload_n 3, 1), (.aload_n 1, 1), (.getfield 37, 3), (.if_icmp .ge 39, 3)] := rfl
theorem lb_X9_gatherThings_15 : bk_X9_gatherThings.lookup 15 = some [(.aload_n 0, 1), (.getfield 9, 3), (.iload_n 3, 1), (.iaload, 1), (.iload_n 2, 1), (.if_icmp .ne 23, 3)] := rfl
theorem lb_X9_gatherThings_25 : bk_X9_gatherThings.lookup 25 = some [(.aload_n 0, 1), (.getfield 15, 3), (.iload_n 3, 1), (.iaload, 1), (.ifCond .le 14, 3)] := rfl
theorem lb_X9_gatherThings_34 : bk_X9_gatherThings.lookup 34 = some [(.aload_n 0, 1), (.aload_n 1, 1), (.getfield 66, 3), (.iload_n 3, 1), (.iaload, 1), (.iload_n 3, 1)] := rfl
theorem lb_X9_gatherThings_42 : bk_X9_gatherThings.lookup 42 = some [(.invokevirtual 112, 3)] := rfl
theorem lb_X9_gatherThings_45 : bk_X9_gatherThings.lookup 45 = some [(.iinc 3 1, 3), (.goto (-41), 3)] := rfl
theorem lb_X9_gatherThings_51 : bk_X9_gatherThings.lookup 51 = some [(.iconst 0, 1), (.istore_n 3, 1)] := rfl
theorem lb_X9_gatherThings_53 : bk_X9_gatherThings.lookup 53 = some [(.iload_n 3, 1), (.bipush 6, 2), (.if_icmp .ge 40, 3)] := rfl
theorem lb_X9_gatherThings_59 : bk_X9_gatherThings.lookup 59 = some [(.aload_n 0, 1), (.getfield 18, 3), (.iload_n 3, 1), (.iaload, 1), (.iload_n 2, 1), (.if_icmp .ne 24, 3)] := rfl
theorem lb_X9_gatherThings_69 : bk_X9_gatherThings.lookup 69 = some [(.aload_n 0, 1), (.getfield 21, 3), (.iload_n 3, 1), (.iaload, 1), (.iconst (-1), 1), (.if_icmp .eq 14, 3)] := rfl
theorem lb_X9_gatherThings_79 : bk_X9_gatherThings.lookup 79 = some [(.aload_n 0, 1), (.aload_n 0, 1), (.getfield 21, 3), (.iload_n 3, 1), (.iaload, 1), (.iconst (-1), 1)] := rfl
theorem lb_X9_gatherThings_87 : bk_X9_gatherThings.lookup 87 = some [(.invokevirtual 112, 3)] := rfl
theorem lb_X9_gatherThings_90 : bk_X9_gatherThings.lookup 90 = some [(.iinc 3 1, 3), (.goto (-40), 3)] := rfl
theorem lb_X9_gatherThings_96 : bk_X9_gatherThings.lookup 96 = some [(.return_, 1)] := rfl
def f_X9_gatherThings_53 (a1 : Nat) (a2 : Int32) : Nat → Int32 → PM → Option (Unit × PM)
  | 0, _, _ => none
  | f + 1, x3, M =>
    if 6 ≤ x3 then
      some ((), M)
    else
      if inB x3 6 = true then if (M.1 252 x3.toNatClampNeg) = a2 then
        if inB x3 6 = true then if (M.1 253 x3.toNatClampNeg) = (-1) then
          f_X9_gatherThings_53 a1 a2 f (x3 + 1) M
        else
          if inB x3 6 = true then 
          hr_bd (f_X9_addThing (M.1 253 x3.toNatClampNeg) (-1) M) (fun v6 M6 =>
          f_X9_gatherThings_53 a1 a2 f (x3 + 1) M6) else none
        else none
      else
        f_X9_gatherThings_53 a1 a2 f (x3 + 1) M
      else none
theorem g_X9_gatherThings_53 (a1 : Nat) (a2 : Int32) (ka1 : hr_K a1 = 5) : ∀ (f : Nat) (x3 : Int32) (M : PM) (r : Unit × PM), f_X9_gatherThings_53 a1 a2 f x3 M = some r → hr_G 117 53 [some (.ref 249), none, some (.int a2), some (.int x3)] [] M (none, r.2) := by
  intro f
  induction f with
  | zero => intro x3 M r h; cases h
  | succ f ih =>
    intro x3 M r h
    rw [f_X9_gatherThings_53.eq_2] at h
    refine hr_Grun mf_X9_gatherThings lb_X9_gatherThings_53 (P := True) (pc' := if 6 ≤ x3 then 96 else 59) (ls' := [some (.ref 249), none, some (.int a2), some (.int x3)]) (st' := []) (M' := M) rfl rfl trivial ?_
    refine hr_Gif h (fun _ h => ?_) (fun _ h => ?_)
    · cases h
      exact hr_Gret mf_X9_gatherThings lb_X9_gatherThings_96 rfl rfl trivial
    · refine hr_Fg h (fun hg2_0 h => ?_)
      refine hr_Grun mf_X9_gatherThings lb_X9_gatherThings_59 (P := hr_K 249 = 8 ∧ (hr_K 252 = 12 ∧ vp_in x3 (hr_N 252)) ∧ True) (pc' := if (M.1 252 x3.toNatClampNeg) = a2 then 69 else 90) (ls' := [some (.ref 249), none, some (.int a2), some (.int x3)]) (st' := []) (M' := M) rfl rfl ⟨K_249, ⟨K_252, (inB_N N_252 hg2_0)⟩, trivial⟩ ?_
      refine hr_Gif h (fun _ h => ?_) (fun _ h => ?_)
      · refine hr_Fg h (fun hg3_0 h => ?_)
        refine hr_Grun mf_X9_gatherThings lb_X9_gatherThings_69 (P := hr_K 249 = 8 ∧ (hr_K 253 = 12 ∧ vp_in x3 (hr_N 253)) ∧ True) (pc' := if (M.1 253 x3.toNatClampNeg) = (-1) then 90 else 79) (ls' := [some (.ref 249), none, some (.int a2), some (.int x3)]) (st' := []) (M' := M) rfl rfl ⟨K_249, ⟨K_253, (inB_N N_253 hg3_0)⟩, trivial⟩ ?_
        refine hr_Gif h (fun _ h => ?_) (fun _ h => ?_)
        · refine hr_Grun mf_X9_gatherThings lb_X9_gatherThings_90 (P := True) (pc' := 53) (ls' := [some (.ref 249), none, some (.int a2), some (.int (x3 + 1))]) (st' := []) (M' := M) rfl rfl trivial ?_
          exact ih (x3 + 1) M _ h
        · refine hr_Fg h (fun hg5_0 h => ?_)
          refine hr_Grun mf_X9_gatherThings lb_X9_gatherThings_79 (P := hr_K 249 = 8 ∧ (hr_K 253 = 12 ∧ vp_in x3 (hr_N 253)) ∧ True) (pc' := 87) (ls' := [some (.ref 249), none, some (.int a2), some (.int x3)]) (st' := [.int (-1), .int (M.1 253 x3.toNatClampNeg), .ref 249]) (M' := M) rfl rfl ⟨K_249, ⟨K_253, (inB_N N_253 hg5_0)⟩, trivial⟩ ?_
          refine hr_Fb h (fun v6 M6 e6 h => ?_)
          refine hr_Gcv mf_X9_gatherThings mf_X9_addThing lb_X9_gatherThings_87 (b := 249) (as := [.int (M.1 253 x3.toNatClampNeg), .int (-1)]) (rest := []) (st2 := []) (v := none) (M1 := M6) rfl rfl rfl rfl rfl rfl K_249 (g_X9_addThing (M.1 253 x3.toNatClampNeg) (-1) _ _ e6) rfl rfl ?_
          refine hr_Grun mf_X9_gatherThings lb_X9_gatherThings_90 (P := True) (pc' := 53) (ls' := [some (.ref 249), none, some (.int a2), some (.int (x3 + 1))]) (st' := []) (M' := M6) rfl rfl trivial ?_
          exact ih (x3 + 1) M6 _ h
      · refine hr_Grun mf_X9_gatherThings lb_X9_gatherThings_90 (P := True) (pc' := 53) (ls' := [some (.ref 249), none, some (.int a2), some (.int (x3 + 1))]) (st' := []) (M' := M) rfl rfl trivial ?_
        exact ih (x3 + 1) M _ h
def f_X9_gatherThings_7 (a1 : Nat) (a2 : Int32) : Nat → Int32 → PM → Option (Unit × PM)
  | 0, _, _ => none
  | f + 1, x3, M =>
    if (M.1 a1 0) ≤ x3 then
      f_X9_gatherThings_53 a1 a2 FU 0 M
    else
      if inB x3 9 = true then if (M.1 250 x3.toNatClampNeg) = a2 then
        if inB x3 9 = true then if (M.1 251 x3.toNatClampNeg) ≤ 0 then
          f_X9_gatherThings_7 a1 a2 f (x3 + 1) M
        else
          if inB x3 40 = true then 
          hr_bd (f_X9_addThing (M.1 (a1 + 2) x3.toNatClampNeg) x3 M) (fun v7 M7 =>
          f_X9_gatherThings_7 a1 a2 f (x3 + 1) M7) else none
        else none
      else
        f_X9_gatherThings_7 a1 a2 f (x3 + 1) M
      else none
theorem g_X9_gatherThings_7 (a1 : Nat) (a2 : Int32) (ka1 : hr_K a1 = 5) : ∀ (f : Nat) (x3 : Int32) (M : PM) (r : Unit × PM), f_X9_gatherThings_7 a1 a2 f x3 M = some r → hr_G 117 7 [some (.ref 249), some (.ref a1), some (.int a2), some (.int x3)] [] M (none, r.2) := by
  intro f
  induction f with
  | zero => intro x3 M r h; cases h
  | succ f ih =>
    intro x3 M r h
    rw [f_X9_gatherThings_7.eq_2] at h
    refine hr_Grun mf_X9_gatherThings lb_X9_gatherThings_7 (P := hr_K a1 = 5 ∧ True) (pc' := if (M.1 a1 0) ≤ x3 then 51 else 15) (ls' := [some (.ref 249), some (.ref a1), some (.int a2), some (.int x3)]) (st' := []) (M' := M) rfl rfl ⟨ka1, trivial⟩ ?_
    refine hr_Gif h (fun _ h => ?_) (fun _ h => ?_)
    · refine hr_Grun mf_X9_gatherThings lb_X9_gatherThings_51 (P := True) (pc' := 53) (ls' := [some (.ref 249), some (.ref a1), some (.int a2), some (.int 0)]) (st' := []) (M' := M) rfl rfl trivial ?_
      refine hr_Gle (ls := [some (.ref 249), none, some (.int a2), some (.int 0)]) (hr_le_s (hr_le_n (hr_le_s (hr_le_s hr_le_0)))) ?_
      exact g_X9_gatherThings_53 a1 a2 ka1 FU 0 M _ h
    · refine hr_Fg h (fun hg3_0 h => ?_)
      refine hr_Grun mf_X9_gatherThings lb_X9_gatherThings_15 (P := hr_K 249 = 8 ∧ (hr_K 250 = 12 ∧ vp_in x3 (hr_N 250)) ∧ True) (pc' := if (M.1 250 x3.toNatClampNeg) = a2 then 25 else 45) (ls' := [some (.ref 249), some (.ref a1), some (.int a2), some (.int x3)]) (st' := []) (M' := M) rfl rfl ⟨K_249, ⟨K_250, (inB_N N_250 hg3_0)⟩, trivial⟩ ?_
      refine hr_Gif h (fun _ h => ?_) (fun _ h => ?_)
      · refine hr_Fg h (fun hg4_0 h => ?_)
        refine hr_Grun mf_X9_gatherThings lb_X9_gatherThings_25 (P := hr_K 249 = 8 ∧ (hr_K 251 = 12 ∧ vp_in x3 (hr_N 251)) ∧ True) (pc' := if (M.1 251 x3.toNatClampNeg) ≤ 0 then 45 else 34) (ls' := [some (.ref 249), some (.ref a1), some (.int a2), some (.int x3)]) (st' := []) (M' := M) rfl rfl ⟨K_249, ⟨K_251, (inB_N N_251 hg4_0)⟩, trivial⟩ ?_
        refine hr_Gif h (fun _ h => ?_) (fun _ h => ?_)
        · refine hr_Grun mf_X9_gatherThings lb_X9_gatherThings_45 (P := True) (pc' := 7) (ls' := [some (.ref 249), some (.ref a1), some (.int a2), some (.int (x3 + 1))]) (st' := []) (M' := M) rfl rfl trivial ?_
          exact ih (x3 + 1) M _ h
        · refine hr_Fg h (fun hg6_0 h => ?_)
          refine hr_Grun mf_X9_gatherThings lb_X9_gatherThings_34 (P := hr_K a1 = 5 ∧ (hr_K (a1 + 2) = 12 ∧ vp_in x3 (hr_N (a1 + 2))) ∧ True) (pc' := 42) (ls' := [some (.ref 249), some (.ref a1), some (.int a2), some (.int x3)]) (st' := [.int x3, .int (M.1 (a1 + 2) x3.toNatClampNeg), .ref 249]) (M' := M) rfl rfl ⟨ka1, ⟨(kf_5_4 ka1).1, (inB_N (kf_5_4 ka1).2.1 hg6_0)⟩, trivial⟩ ?_
          refine hr_Fb h (fun v7 M7 e7 h => ?_)
          refine hr_Gcv mf_X9_gatherThings mf_X9_addThing lb_X9_gatherThings_42 (b := 249) (as := [.int (M.1 (a1 + 2) x3.toNatClampNeg), .int x3]) (rest := []) (st2 := []) (v := none) (M1 := M7) rfl rfl rfl rfl rfl rfl K_249 (g_X9_addThing (M.1 (a1 + 2) x3.toNatClampNeg) x3 _ _ e7) rfl rfl ?_
          refine hr_Grun mf_X9_gatherThings lb_X9_gatherThings_45 (P := True) (pc' := 7) (ls' := [some (.ref 249), some (.ref a1), some (.int a2), some (.int (x3 + 1))]) (st' := []) (M' := M7) rfl rfl trivial ?_
          exact ih (x3 + 1) M7 _ h
      · refine hr_Grun mf_X9_gatherThings lb_X9_gatherThings_45 (P := True) (pc' := 7) (ls' := [some (.ref 249), some (.ref a1), some (.int a2), some (.int (x3 + 1))]) (st' := []) (M' := M) rfl rfl trivial ?_
        exact ih (x3 + 1) M _ h
def f_X9_gatherThings (a1 : Nat) (a2 : Int32) (M : PM) : Option (Unit × PM) :=
  if hr_K a1 = 5 then f_X9_gatherThings_7 a1 a2 FU 0 (hr_si M 249 9 0) else none
theorem g_X9_gatherThings (a1 : Nat) (a2 : Int32) : ∀ (M : PM) (r : Unit × PM), f_X9_gatherThings a1 a2 M = some r → hr_G 117 0 [some (.ref 249), some (.ref a1), some (.int a2), none] [] M (none, r.2) := by
  intro M r h
  unfold f_X9_gatherThings at h
  refine hr_Fg h (fun ka1 h => ?_)
  refine hr_Grun mf_X9_gatherThings lb_X9_gatherThings_0 (P := (hr_K 249 = 8 ∧ 249 < hr_n) ∧ True) (pc' := 7) (ls' := [some (.ref 249), some (.ref a1), some (.int a2), some (.int 0)]) (st' := []) (M' := hr_si M 249 9 0) rfl rfl ⟨⟨K_249, L_249⟩, trivial⟩ ?_
  exact g_X9_gatherThings_7 a1 a2 ka1 FU 0 (hr_si M 249 9 0) _ h
theorem mf_X9_markFading : hr_mf 119 9 0 none 2 1 bk_X9_markFading := ⟨rfl, rfl, rfl, rfl, rfl, rfl⟩
theorem lb_X9_markFading_0 : bk_X9_markFading.lookup 0 = some [(.aload_n 0, 1), (.getfield 30, 3), (.iload_n 1, 1), (.iaload, 1), (.iconst (-1), 1), (.if_icmp .eq 20, 3)] := rfl
theorem lb_X9_markFading_10 : bk_X9_markFading.lookup 10 = some [(.aload_n 0, 1), (.dup, 1), (.getfield 83, 3), (.iconst 1, 1), (.aload_n 0, 1), (.getfield 30, 3), (.iload_n 1, 1), (.iaload, 1), (.ishl, 1), (.ior, 1), (.putfield 83, 3)] := rfl
theorem lb_X9_markFading_27 : bk_X9_markFading.lookup 27 = some [(.return_, 1)] := rfl
def f_X9_markFading (a1 : Int32) (M : PM) : Option (Unit × PM) :=
  if inB a1 15 = true then if (M.1 256 a1.toNatClampNeg) = (-1) then
    some ((), M)
  else
    if inB a1 15 = true then 
    some ((), hr_si M 249 12 ((M.1 249 12) ||| (jl 1 (M.1 256 a1.toNatClampNeg)))) else none
  else none
theorem g_X9_markFading (a1 : Int32) : ∀ (M : PM) (r : Unit × PM), f_X9_markFading a1 M = some r → hr_G 119 0 [some (.ref 249), some (.int a1)] [] M (none, r.2) := by
  intro M r h
  unfold f_X9_markFading at h
  refine hr_Fg h (fun hg1_0 h => ?_)
  refine hr_Grun mf_X9_markFading lb_X9_markFading_0 (P := hr_K 249 = 8 ∧ (hr_K 256 = 12 ∧ vp_in a1 (hr_N 256)) ∧ True) (pc' := if (M.1 256 a1.toNatClampNeg) = (-1) then 27 else 10) (ls' := [some (.ref 249), some (.int a1)]) (st' := []) (M' := M) rfl rfl ⟨K_249, ⟨K_256, (inB_N N_256 hg1_0)⟩, trivial⟩ ?_
  refine hr_Gif h (fun _ h => ?_) (fun _ h => ?_)
  · cases h
    exact hr_Gret mf_X9_markFading lb_X9_markFading_27 rfl rfl trivial
  · refine hr_Fg h (fun hg2_0 h => ?_)
    refine hr_Grun mf_X9_markFading lb_X9_markFading_10 (P := hr_K 249 = 8 ∧ hr_K 249 = 8 ∧ (hr_K 256 = 12 ∧ vp_in a1 (hr_N 256)) ∧ (hr_K 249 = 8 ∧ 249 < hr_n) ∧ True) (pc' := 27) (ls' := [some (.ref 249), some (.int a1)]) (st' := []) (M' := hr_si M 249 12 ((M.1 249 12) ||| (jl 1 (M.1 256 a1.toNatClampNeg)))) rfl rfl ⟨K_249, K_249, ⟨K_256, (inB_N N_256 hg2_0)⟩, ⟨K_249, L_249⟩, trivial⟩ ?_
    cases h
    exact hr_Gret mf_X9_markFading lb_X9_markFading_27 rfl rfl trivial
theorem mf_X9_rashOf : hr_mf 116 9 2 (some .int) 8 3 bk_X9_rashOf := ⟨rfl, rfl, rfl, rfl, rfl, rfl⟩
theorem lb_X9_rashOf_0 : bk_X9_rashOf.lookup 0 = some [(.aload_n 0, 1), (.aload_n 2, 1), (.iload_n 3, 1)] := rfl
theorem lb_X9_rashOf_3 : bk_X9_rashOf.lookup 3 = some [(.invokevirtual 97, 3)] := rfl
theorem lb_X9_rashOf_6 : bk_X9_rashOf.lookup 6 = some [(.iconst 0, 1), (.istore 4, 2), (.iconst 0, 1), (.istore 5, 2)] := rfl
theorem lb_X9_rashOf_12 : bk_X9_rashOf.lookup 12 = some [(.iload 5, 2), (.aload_n 0, 1), (.getfield 101, 3), (.if_icmp .ge 69, 3)] := rfl
theorem lb_X9_rashOf_21 : bk_X9_rashOf.lookup 21 = some [(.iconst 0, 1), (.istore 6, 2)] := rfl
theorem lb_X9_rashOf_24 : bk_X9_rashOf.lookup 24 = some [(.iload 6, 2), (.iload 5, 2), (.if_icmp .ge 53, 3)] := rfl
theorem lb_X9_rashOf_31 : bk_X9_rashOf.lookup 31 = some [(.aload_n 1, 1), (.aload_n 0, 1), (.getfield 27, 3), (.iload 5, 2), (.iaload, 1), (.aload_n 0, 1), (.getfield 27, 3), (.iload 6, 2), (.iaload, 1)] := rfl
theorem lb_X9_rashOf_46 : bk_X9_rashOf.lookup 46 = some [(.invokevirtual 104, 3)] := rfl
theorem lb_X9_rashOf_49 : bk_X9_rashOf.lookup 49 = some [(.istore 7, 2), (.iload 7, 2), (.ifCond .le 22, 3)] := rfl
theorem lb_X9_rashOf_56 : bk_X9_rashOf.lookup 56 = some [(.iload 4, 2), (.iload 7, 2), (.iadd, 1), (.istore 4, 2), (.aload_n 0, 1), (.iload 5, 2)] := rfl
theorem lb_X9_rashOf_66 : bk_X9_rashOf.lookup 66 = some [(.invokevirtual 108, 3)] := rfl
theorem lb_X9_rashOf_69 : bk_X9_rashOf.lookup 69 = some [(.aload_n 0, 1), (.iload 6, 2)] := rfl
theorem lb_X9_rashOf_72 : bk_X9_rashOf.lookup 72 = some [(.invokevirtual 108, 3)] := rfl
theorem lb_X9_rashOf_75 : bk_X9_rashOf.lookup 75 = some [(.iinc 6 1, 3), (.goto (-54), 3)] := rfl
theorem lb_X9_rashOf_81 : bk_X9_rashOf.lookup 81 = some [(.iinc 5 1, 3), (.goto (-72), 3)] := rfl
theorem lb_X9_rashOf_87 : bk_X9_rashOf.lookup 87 = some [(.iload 4, 2)] := rfl
theorem lb_X9_rashOf_89 : bk_X9_rashOf.lookup 89 = some [(.ireturn, 1)] := rfl
def f_X9_rashOf_24 (a1 : Nat) (a2 : Nat) (a3 : Int32) (k12 : Int32 → Int32 → PM → Option (Int32 × PM)) : Nat → Int32 → Int32 → Int32 → PM → Option (Int32 × PM)
  | 0, _, _, _, _ => none
  | f + 1, x4, x5, x6, M =>
    if x5 ≤ x6 then
      k12 x4 (x5 + 1) M
    else
      if inB x5 15 = true then if inB x6 15 = true then 
      hr_bd (f_X4_strengthOf a1 (M.1 255 x5.toNatClampNeg) (M.1 255 x6.toNatClampNeg) M) (fun v4 M4 =>
      if v4 ≤ 0 then
        f_X9_rashOf_24 a1 a2 a3 k12 f x4 x5 (x6 + 1) M4
      else
        hr_bd (f_X9_markFading x5 M4) (fun v8 M8 =>
        hr_bd (f_X9_markFading x6 M8) (fun v10 M10 =>
        f_X9_rashOf_24 a1 a2 a3 k12 f (x4 + v4) x5 (x6 + 1) M10))) else none else none
theorem g_X9_rashOf_24 (a1 : Nat) (a2 : Nat) (a3 : Int32) (ka1 : hr_K a1 = 3) (ka2 : hr_K a2 = 5) (k12 : Int32 → Int32 → PM → Option (Int32 × PM)) (hk12 : ∀ (x4 : Int32) (x5 : Int32) (M : PM) (r : Int32 × PM), k12 x4 x5 M = some r → hr_G 116 12 [some (.ref 249), some (.ref a1), none, none, some (.int x4), some (.int x5), none, none] [] M (some (.int r.1), r.2)) : ∀ (f : Nat) (x4 : Int32) (x5 : Int32) (x6 : Int32) (M : PM) (r : Int32 × PM), f_X9_rashOf_24 a1 a2 a3 k12 f x4 x5 x6 M = some r → hr_G 116 24 [some (.ref 249), some (.ref a1), none, none, some (.int x4), some (.int x5), some (.int x6), none] [] M (some (.int r.1), r.2) := by
  intro f
  induction f with
  | zero => intro x4 x5 x6 M r h; cases h
  | succ f ih =>
    intro x4 x5 x6 M r h
    rw [f_X9_rashOf_24.eq_2] at h
    refine hr_Grun mf_X9_rashOf lb_X9_rashOf_24 (P := True) (pc' := if x5 ≤ x6 then 81 else 31) (ls' := [some (.ref 249), some (.ref a1), none, none, some (.int x4), some (.int x5), some (.int x6), none]) (st' := []) (M' := M) rfl rfl trivial ?_
    refine hr_Gif h (fun _ h => ?_) (fun _ h => ?_)
    · refine hr_Grun mf_X9_rashOf lb_X9_rashOf_81 (P := True) (pc' := 12) (ls' := [some (.ref 249), some (.ref a1), none, none, some (.int x4), some (.int (x5 + 1)), some (.int x6), none]) (st' := []) (M' := M) rfl rfl trivial ?_
      refine hr_Gle (ls := [some (.ref 249), some (.ref a1), none, none, some (.int x4), some (.int (x5 + 1)), none, none]) (hr_le_s (hr_le_s (hr_le_n (hr_le_n (hr_le_s (hr_le_s (hr_le_n (hr_le_n hr_le_0)))))))) ?_
      exact hk12 x4 (x5 + 1) M _ h
    · refine hr_Fg h (fun hg3_0 h => ?_)
      refine hr_Fg h (fun hg3_1 h => ?_)
      refine hr_Grun mf_X9_rashOf lb_X9_rashOf_31 (P := hr_K 249 = 8 ∧ (hr_K 255 = 12 ∧ vp_in x5 (hr_N 255)) ∧ hr_K 249 = 8 ∧ (hr_K 255 = 12 ∧ vp_in x6 (hr_N 255)) ∧ True) (pc' := 46) (ls' := [some (.ref 249), some (.ref a1), none, none, some (.int x4), some (.int x5), some (.int x6), none]) (st' := [.int (M.1 255 x6.toNatClampNeg), .int (M.1 255 x5.toNatClampNeg), .ref a1]) (M' := M) rfl rfl ⟨K_249, ⟨K_255, (inB_N N_255 hg3_0)⟩, K_249, ⟨K_255, (inB_N N_255 hg3_1)⟩, trivial⟩ ?_
      refine hr_Fb h (fun v4 M4 e4 h => ?_)
      refine hr_Gcv mf_X9_rashOf mf_X4_strengthOf lb_X9_rashOf_46 (b := a1) (as := [.int (M.1 255 x5.toNatClampNeg), .int (M.1 255 x6.toNatClampNeg)]) (rest := []) (st2 := [.int v4]) (v := some (.int v4)) (M1 := M4) rfl rfl rfl rfl rfl rfl ka1 (g_X4_strengthOf a1 (M.1 255 x5.toNatClampNeg) (M.1 255 x6.toNatClampNeg) _ _ e4) rfl rfl ?_
      refine hr_Grun mf_X9_rashOf lb_X9_rashOf_49 (P := True) (pc' := if v4 ≤ 0 then 75 else 56) (ls' := [some (.ref 249), some (.ref a1), none, none, some (.int x4), some (.int x5), some (.int x6), some (.int v4)]) (st' := []) (M' := M4) rfl rfl trivial ?_
      refine hr_Gif h (fun _ h => ?_) (fun _ h => ?_)
      · refine hr_Grun mf_X9_rashOf lb_X9_rashOf_75 (P := True) (pc' := 24) (ls' := [some (.ref 249), some (.ref a1), none, none, some (.int x4), some (.int x5), some (.int (x6 + 1)), some (.int v4)]) (st' := []) (M' := M4) rfl rfl trivial ?_
        refine hr_Gle (ls := [some (.ref 249), some (.ref a1), none, none, some (.int x4), some (.int x5), some (.int (x6 + 1)), none]) (hr_le_s (hr_le_s (hr_le_n (hr_le_n (hr_le_s (hr_le_s (hr_le_s (hr_le_n hr_le_0)))))))) ?_
        exact ih x4 x5 (x6 + 1) M4 _ h
      · refine hr_Grun mf_X9_rashOf lb_X9_rashOf_56 (P := True) (pc' := 66) (ls' := [some (.ref 249), some (.ref a1), none, none, some (.int (x4 + v4)), some (.int x5), some (.int x6), some (.int v4)]) (st' := [.int x5, .ref 249]) (M' := M4) rfl rfl trivial ?_
        refine hr_Fb h (fun v8 M8 e8 h => ?_)
        refine hr_Gcv mf_X9_rashOf mf_X9_markFading lb_X9_rashOf_66 (b := 249) (as := [.int x5]) (rest := []) (st2 := []) (v := none) (M1 := M8) rfl rfl rfl rfl rfl rfl K_249 (g_X9_markFading x5 _ _ e8) rfl rfl ?_
        refine hr_Grun mf_X9_rashOf lb_X9_rashOf_69 (P := True) (pc' := 72) (ls' := [some (.ref 249), some (.ref a1), none, none, some (.int (x4 + v4)), some (.int x5), some (.int x6), some (.int v4)]) (st' := [.int x6, .ref 249]) (M' := M8) rfl rfl trivial ?_
        refine hr_Fb h (fun v10 M10 e10 h => ?_)
        refine hr_Gcv mf_X9_rashOf mf_X9_markFading lb_X9_rashOf_72 (b := 249) (as := [.int x6]) (rest := []) (st2 := []) (v := none) (M1 := M10) rfl rfl rfl rfl rfl rfl K_249 (g_X9_markFading x6 _ _ e10) rfl rfl ?_
        refine hr_Grun mf_X9_rashOf lb_X9_rashOf_75 (P := True) (pc' := 24) (ls' := [some (.ref 249), some (.ref a1), none, none, some (.int (x4 + v4)), some (.int x5), some (.int (x6 + 1)), some (.int v4)]) (st' := []) (M' := M10) rfl rfl trivial ?_
        refine hr_Gle (ls := [some (.ref 249), some (.ref a1), none, none, some (.int (x4 + v4)), some (.int x5), some (.int (x6 + 1)), none]) (hr_le_s (hr_le_s (hr_le_n (hr_le_n (hr_le_s (hr_le_s (hr_le_s (hr_le_n hr_le_0)))))))) ?_
        exact ih (x4 + v4) x5 (x6 + 1) M10 _ h
def f_X9_rashOf_12 (a1 : Nat) (a2 : Nat) (a3 : Int32) : Nat → Int32 → Int32 → PM → Option (Int32 × PM)
  | 0, _, _, _ => none
  | f + 1, x4, x5, M =>
    if (M.1 249 9) ≤ x5 then
      some (x4, M)
    else
      f_X9_rashOf_24 a1 a2 a3 (fun x4 x5 M => f_X9_rashOf_12 a1 a2 a3 f x4 x5 M) FU x4 x5 0 M
theorem g_X9_rashOf_12 (a1 : Nat) (a2 : Nat) (a3 : Int32) (ka1 : hr_K a1 = 3) (ka2 : hr_K a2 = 5) : ∀ (f : Nat) (x4 : Int32) (x5 : Int32) (M : PM) (r : Int32 × PM), f_X9_rashOf_12 a1 a2 a3 f x4 x5 M = some r → hr_G 116 12 [some (.ref 249), some (.ref a1), none, none, some (.int x4), some (.int x5), none, none] [] M (some (.int r.1), r.2) := by
  intro f
  induction f with
  | zero => intro x4 x5 M r h; cases h
  | succ f ih =>
    intro x4 x5 M r h
    rw [f_X9_rashOf_12.eq_2] at h
    refine hr_Grun mf_X9_rashOf lb_X9_rashOf_12 (P := hr_K 249 = 8 ∧ True) (pc' := if (M.1 249 9) ≤ x5 then 87 else 21) (ls' := [some (.ref 249), some (.ref a1), none, none, some (.int x4), some (.int x5), none, none]) (st' := []) (M' := M) rfl rfl ⟨K_249, trivial⟩ ?_
    refine hr_Gif h (fun _ h => ?_) (fun _ h => ?_)
    · refine hr_Grun mf_X9_rashOf lb_X9_rashOf_87 (P := True) (pc' := 89) (ls' := [some (.ref 249), some (.ref a1), none, none, some (.int x4), some (.int x5), none, none]) (st' := [.int x4]) (M' := M) rfl rfl trivial ?_
      cases h
      exact hr_Gret mf_X9_rashOf lb_X9_rashOf_89 rfl rfl trivial
    · refine hr_Grun mf_X9_rashOf lb_X9_rashOf_21 (P := True) (pc' := 24) (ls' := [some (.ref 249), some (.ref a1), none, none, some (.int x4), some (.int x5), some (.int 0), none]) (st' := []) (M' := M) rfl rfl trivial ?_
      exact g_X9_rashOf_24 a1 a2 a3 ka1 ka2 (fun x4 x5 M => f_X9_rashOf_12 a1 a2 a3 f x4 x5 M) (fun x4 x5 M r h => ih x4 x5 M r h) FU x4 x5 0 M _ h
def f_X9_rashOf (a1 : Nat) (a2 : Nat) (a3 : Int32) (M : PM) : Option (Int32 × PM) :=
  if hr_K a1 = 3 then if hr_K a2 = 5 then hr_bd (f_X9_gatherThings a2 a3 M) (fun v2 M2 =>
  f_X9_rashOf_12 a1 a2 a3 FU 0 0 M2) else none else none
theorem g_X9_rashOf (a1 : Nat) (a2 : Nat) (a3 : Int32) : ∀ (M : PM) (r : Int32 × PM), f_X9_rashOf a1 a2 a3 M = some r → hr_G 116 0 [some (.ref 249), some (.ref a1), some (.ref a2), some (.int a3), none, none, none, none] [] M (some (.int r.1), r.2) := by
  intro M r h
  unfold f_X9_rashOf at h
  refine hr_Fg h (fun ka1 h => ?_)
  refine hr_Fg h (fun ka2 h => ?_)
  refine hr_Grun mf_X9_rashOf lb_X9_rashOf_0 (P := True) (pc' := 3) (ls' := [some (.ref 249), some (.ref a1), some (.ref a2), some (.int a3), none, none, none, none]) (st' := [.int a3, .ref a2, .ref 249]) (M' := M) rfl rfl trivial ?_
  refine hr_Fb h (fun v2 M2 e2 h => ?_)
  refine hr_Gcv mf_X9_rashOf mf_X9_gatherThings lb_X9_rashOf_3 (b := 249) (as := [.ref a2, .int a3]) (rest := []) (st2 := []) (v := none) (M1 := M2) rfl rfl rfl rfl rfl rfl K_249 (g_X9_gatherThings a2 a3 _ _ e2) rfl rfl ?_
  refine hr_Grun mf_X9_rashOf lb_X9_rashOf_6 (P := True) (pc' := 12) (ls' := [some (.ref 249), some (.ref a1), some (.ref a2), some (.int a3), some (.int 0), some (.int 0), none, none]) (st' := []) (M' := M2) rfl rfl trivial ?_
  refine hr_Gle (ls := [some (.ref 249), some (.ref a1), none, none, some (.int 0), some (.int 0), none, none]) (hr_le_s (hr_le_s (hr_le_n (hr_le_n (hr_le_s (hr_le_s (hr_le_n (hr_le_n hr_le_0)))))))) ?_
  exact g_X9_rashOf_12 a1 a2 a3 ka1 ka2 FU 0 0 M2 _ h
theorem mf_X9_passHour : hr_mf 115 9 3 none 6 2 bk_X9_passHour := ⟨rfl, rfl, rfl, rfl, rfl, rfl⟩
theorem lb_X9_passHour_0 : bk_X9_passHour.lookup 0 = some [(.aload_n 0, 1), (.iconst 0, 1), (.putfield 83, 3), (.iconst 0, 1), (.istore_n 3, 1)] := rfl
theorem lb_X9_passHour_7 : bk_X9_passHour.lookup 7 = some [(.iload_n 3, 1), (.iconst 4, 1), (.if_icmp .ge 98, 3)] := rfl
theorem lb_X9_passHour_12 : bk_X9_passHour.lookup 12 = some [(.aload_n 0, 1), (.aload_n 1, 1), (.aload_n 2, 1), (.iload_n 3, 1)] := rfl
theorem lb_X9_passHour_16 : bk_X9_passHour.lookup 16 = some [(.invokevirtual 86, 3)] := rfl
theorem lb_X9_passHour_19 : bk_X9_passHour.lookup 19 = some [(.istore 4, 2), (.aload_n 0, 1), (.dup, 1), (.getfield 50, 3), (.iload 4, 2), (.iadd, 1), (.putfield 50, 3), (.iload 4, 2), (.aload_n 2, 1), (.getfield 90, 3), (.if_icmp .le 24, 3)] := rfl
theorem lb_X9_passHour_41 : bk_X9_passHour.lookup 41 = some [(.aload_n 0, 1), (.getfield 53, 3), (.iconst (-1), 1), (.if_icmp .ne 16, 3)] := rfl
theorem lb_X9_passHour_49 : bk_X9_passHour.lookup 49 = some [(.aload_n 0, 1), (.aload_n 0, 1), (.getfield 47, 3), (.putfield 53, 3), (.aload_n 0, 1), (.iload_n 3, 1), (.putfield 56, 3)] := rfl
theorem lb_X9_passHour_62 : bk_X9_passHour.lookup 62 = some [(.iconst 0, 1), (.istore 5, 2)] := rfl
theorem lb_X9_passHour_65 : bk_X9_passHour.lookup 65 = some [(.iload 5, 2), (.bipush 6, 2), (.if_icmp .ge 32, 3)] := rfl
theorem lb_X9_passHour_72 : bk_X9_passHour.lookup 72 = some [(.aload_n 0, 1), (.getfield 18, 3), (.iload 5, 2), (.iaload, 1), (.iload_n 3, 1), (.if_icmp .ne 15, 3)] := rfl
theorem lb_X9_passHour_83 : bk_X9_passHour.lookup 83 = some [(.aload_n 0, 1), (.getfield 24, 3), (.iload 5, 2), (.dup2, 1), (.iaload, 1), (.iload 4, 2), (.iadd, 1), (.iastore, 1)] := rfl
theorem lb_X9_passHour_95 : bk_X9_passHour.lookup 95 = some [(.iinc 5 1, 3), (.goto (-33), 3)] := rfl
theorem lb_X9_passHour_101 : bk_X9_passHour.lookup 101 = some [(.iinc 3 1, 3), (.goto (-97), 3)] := rfl
theorem lb_X9_passHour_107 : bk_X9_passHour.lookup 107 = some [(.iconst 0, 1), (.istore_n 3, 1)] := rfl
theorem lb_X9_passHour_109 : bk_X9_passHour.lookup 109 = some [(.iload_n 3, 1), (.aload_n 2, 1), (.getfield 37, 3), (.if_icmp .ge 30, 3)] := rfl
theorem lb_X9_passHour_117 : bk_X9_passHour.lookup 117 = some [(.aload_n 0, 1), (.getfield 83, 3), (.iload_n 3, 1)] := rfl
theorem lb_X9_passHour_122 : bk_X9_passHour.lookup 122 = some [(.invokestatic 93, 3)] := rfl
theorem lb_X9_passHour_125 : bk_X9_passHour.lookup 125 = some [(.ifCond .eq 13, 3)] := rfl
theorem lb_X9_passHour_128 : bk_X9_passHour.lookup 128 = some [(.aload_n 0, 1), (.getfield 15, 3), (.iload_n 3, 1), (.dup2, 1), (.iaload, 1), (.iconst 1, 1), (.isub, 1), (.iastore, 1)] := rfl
theorem lb_X9_passHour_138 : bk_X9_passHour.lookup 138 = some [(.iinc 3 1, 3), (.goto (-32), 3)] := rfl
theorem lb_X9_passHour_144 : bk_X9_passHour.lookup 144 = some [(.aload_n 0, 1), (.dup, 1), (.getfield 47, 3), (.iconst 1, 1), (.iadd, 1), (.putfield 47, 3)] := rfl
theorem lb_X9_passHour_154 : bk_X9_passHour.lookup 154 = some [(.return_, 1)] := rfl
def f_X9_passHour_109 (a1 : Nat) (a2 : Nat) : Nat → Int32 → PM → Option (Unit × PM)
  | 0, _, _ => none
  | f + 1, x3, M =>
    if (M.1 a2 0) ≤ x3 then
      some ((), hr_si M 249 0 ((M.1 249 0) + 1))
    else
      hr_bd (f_X10_holdsBit (M.1 249 12) x3 M) (fun v4 M4 =>
      if v4 = 0 then
        f_X9_passHour_109 a1 a2 f (x3 + 1) M4
      else
        if inB x3 9 = true then if inB x3 9 = true then 
        f_X9_passHour_109 a1 a2 f (x3 + 1) (hr_si M4 251 x3.toNatClampNeg ((M4.1 251 x3.toNatClampNeg) - 1)) else none else none)
theorem g_X9_passHour_109 (a1 : Nat) (a2 : Nat) (ka1 : hr_K a1 = 3) (ka2 : hr_K a2 = 5) : ∀ (f : Nat) (x3 : Int32) (M : PM) (r : Unit × PM), f_X9_passHour_109 a1 a2 f x3 M = some r → hr_G 115 109 [some (.ref 249), none, some (.ref a2), some (.int x3), none, none] [] M (none, r.2) := by
  intro f
  induction f with
  | zero => intro x3 M r h; cases h
  | succ f ih =>
    intro x3 M r h
    rw [f_X9_passHour_109.eq_2] at h
    refine hr_Grun mf_X9_passHour lb_X9_passHour_109 (P := hr_K a2 = 5 ∧ True) (pc' := if (M.1 a2 0) ≤ x3 then 144 else 117) (ls' := [some (.ref 249), none, some (.ref a2), some (.int x3), none, none]) (st' := []) (M' := M) rfl rfl ⟨ka2, trivial⟩ ?_
    refine hr_Gif h (fun _ h => ?_) (fun _ h => ?_)
    · refine hr_Grun mf_X9_passHour lb_X9_passHour_144 (P := hr_K 249 = 8 ∧ (hr_K 249 = 8 ∧ 249 < hr_n) ∧ True) (pc' := 154) (ls' := [some (.ref 249), none, some (.ref a2), some (.int x3), none, none]) (st' := []) (M' := hr_si M 249 0 ((M.1 249 0) + 1)) rfl rfl ⟨K_249, ⟨K_249, L_249⟩, trivial⟩ ?_
      cases h
      exact hr_Gret mf_X9_passHour lb_X9_passHour_154 rfl rfl trivial
    · refine hr_Grun mf_X9_passHour lb_X9_passHour_117 (P := hr_K 249 = 8 ∧ True) (pc' := 122) (ls' := [some (.ref 249), none, some (.ref a2), some (.int x3), none, none]) (st' := [.int x3, .int (M.1 249 12)]) (M' := M) rfl rfl ⟨K_249, trivial⟩ ?_
      refine hr_Fb h (fun v4 M4 e4 h => ?_)
      refine hr_Gcs mf_X9_passHour mf_X10_holdsBit lb_X9_passHour_122 (as := [.int (M.1 249 12), .int x3]) (rest := []) (st2 := [.int v4]) (v := some (.int v4)) (M1 := M4) rfl rfl rfl rfl rfl rfl (g_X10_holdsBit (M.1 249 12) x3 _ _ e4) rfl rfl ?_
      refine hr_Grun mf_X9_passHour lb_X9_passHour_125 (P := True) (pc' := if v4 = 0 then 138 else 128) (ls' := [some (.ref 249), none, some (.ref a2), some (.int x3), none, none]) (st' := []) (M' := M4) rfl rfl trivial ?_
      refine hr_Gif h (fun _ h => ?_) (fun _ h => ?_)
      · refine hr_Grun mf_X9_passHour lb_X9_passHour_138 (P := True) (pc' := 109) (ls' := [some (.ref 249), none, some (.ref a2), some (.int (x3 + 1)), none, none]) (st' := []) (M' := M4) rfl rfl trivial ?_
        exact ih (x3 + 1) M4 _ h
      · refine hr_Fg h (fun hg7_0 h => ?_)
        refine hr_Fg h (fun hg7_1 h => ?_)
        refine hr_Grun mf_X9_passHour lb_X9_passHour_128 (P := hr_K 249 = 8 ∧ (hr_K 251 = 12 ∧ vp_in x3 (hr_N 251)) ∧ ((hr_K 251 = 12 ∧ 251 < hr_n) ∧ vp_in x3 (hr_N 251)) ∧ True) (pc' := 138) (ls' := [some (.ref 249), none, some (.ref a2), some (.int x3), none, none]) (st' := []) (M' := hr_si M4 251 x3.toNatClampNeg ((M4.1 251 x3.toNatClampNeg) - 1)) rfl rfl ⟨K_249, ⟨K_251, (inB_N N_251 hg7_0)⟩, ⟨⟨K_251, L_251⟩, (inB_N N_251 hg7_1)⟩, trivial⟩ ?_
        refine hr_Grun mf_X9_passHour lb_X9_passHour_138 (P := True) (pc' := 109) (ls' := [some (.ref 249), none, some (.ref a2), some (.int (x3 + 1)), none, none]) (st' := []) (M' := hr_si M4 251 x3.toNatClampNeg ((M4.1 251 x3.toNatClampNeg) - 1)) rfl rfl trivial ?_
        exact ih (x3 + 1) (hr_si M4 251 x3.toNatClampNeg ((M4.1 251 x3.toNatClampNeg) - 1)) _ h
def f_X9_passHour_65 (a1 : Nat) (a2 : Nat) (k7 : Int32 → PM → Option (Unit × PM)) : Nat → Int32 → Int32 → Int32 → PM → Option (Unit × PM)
  | 0, _, _, _, _ => none
  | f + 1, x3, x4, x5, M =>
    if 6 ≤ x5 then
      k7 (x3 + 1) M
    else
      if inB x5 6 = true then if (M.1 252 x5.toNatClampNeg) = x3 then
        if inB x5 6 = true then if inB x5 6 = true then 
        f_X9_passHour_65 a1 a2 k7 f x3 x4 (x5 + 1) (hr_si M 254 x5.toNatClampNeg ((M.1 254 x5.toNatClampNeg) + x4)) else none else none
      else
        f_X9_passHour_65 a1 a2 k7 f x3 x4 (x5 + 1) M
      else none
theorem g_X9_passHour_65 (a1 : Nat) (a2 : Nat) (ka1 : hr_K a1 = 3) (ka2 : hr_K a2 = 5) (k7 : Int32 → PM → Option (Unit × PM)) (hk7 : ∀ (x3 : Int32) (M : PM) (r : Unit × PM), k7 x3 M = some r → hr_G 115 7 [some (.ref 249), some (.ref a1), some (.ref a2), some (.int x3), none, none] [] M (none, r.2)) : ∀ (f : Nat) (x3 : Int32) (x4 : Int32) (x5 : Int32) (M : PM) (r : Unit × PM), f_X9_passHour_65 a1 a2 k7 f x3 x4 x5 M = some r → hr_G 115 65 [some (.ref 249), some (.ref a1), some (.ref a2), some (.int x3), some (.int x4), some (.int x5)] [] M (none, r.2) := by
  intro f
  induction f with
  | zero => intro x3 x4 x5 M r h; cases h
  | succ f ih =>
    intro x3 x4 x5 M r h
    rw [f_X9_passHour_65.eq_2] at h
    refine hr_Grun mf_X9_passHour lb_X9_passHour_65 (P := True) (pc' := if 6 ≤ x5 then 101 else 72) (ls' := [some (.ref 249), some (.ref a1), some (.ref a2), some (.int x3), some (.int x4), some (.int x5)]) (st' := []) (M' := M) rfl rfl trivial ?_
    refine hr_Gif h (fun _ h => ?_) (fun _ h => ?_)
    · refine hr_Grun mf_X9_passHour lb_X9_passHour_101 (P := True) (pc' := 7) (ls' := [some (.ref 249), some (.ref a1), some (.ref a2), some (.int (x3 + 1)), some (.int x4), some (.int x5)]) (st' := []) (M' := M) rfl rfl trivial ?_
      refine hr_Gle (ls := [some (.ref 249), some (.ref a1), some (.ref a2), some (.int (x3 + 1)), none, none]) (hr_le_s (hr_le_s (hr_le_s (hr_le_s (hr_le_n (hr_le_n hr_le_0)))))) ?_
      exact hk7 (x3 + 1) M _ h
    · refine hr_Fg h (fun hg3_0 h => ?_)
      refine hr_Grun mf_X9_passHour lb_X9_passHour_72 (P := hr_K 249 = 8 ∧ (hr_K 252 = 12 ∧ vp_in x5 (hr_N 252)) ∧ True) (pc' := if (M.1 252 x5.toNatClampNeg) = x3 then 83 else 95) (ls' := [some (.ref 249), some (.ref a1), some (.ref a2), some (.int x3), some (.int x4), some (.int x5)]) (st' := []) (M' := M) rfl rfl ⟨K_249, ⟨K_252, (inB_N N_252 hg3_0)⟩, trivial⟩ ?_
      refine hr_Gif h (fun _ h => ?_) (fun _ h => ?_)
      · refine hr_Fg h (fun hg4_0 h => ?_)
        refine hr_Fg h (fun hg4_1 h => ?_)
        refine hr_Grun mf_X9_passHour lb_X9_passHour_83 (P := hr_K 249 = 8 ∧ (hr_K 254 = 12 ∧ vp_in x5 (hr_N 254)) ∧ ((hr_K 254 = 12 ∧ 254 < hr_n) ∧ vp_in x5 (hr_N 254)) ∧ True) (pc' := 95) (ls' := [some (.ref 249), some (.ref a1), some (.ref a2), some (.int x3), some (.int x4), some (.int x5)]) (st' := []) (M' := hr_si M 254 x5.toNatClampNeg ((M.1 254 x5.toNatClampNeg) + x4)) rfl rfl ⟨K_249, ⟨K_254, (inB_N N_254 hg4_0)⟩, ⟨⟨K_254, L_254⟩, (inB_N N_254 hg4_1)⟩, trivial⟩ ?_
        refine hr_Grun mf_X9_passHour lb_X9_passHour_95 (P := True) (pc' := 65) (ls' := [some (.ref 249), some (.ref a1), some (.ref a2), some (.int x3), some (.int x4), some (.int (x5 + 1))]) (st' := []) (M' := hr_si M 254 x5.toNatClampNeg ((M.1 254 x5.toNatClampNeg) + x4)) rfl rfl trivial ?_
        exact ih x3 x4 (x5 + 1) (hr_si M 254 x5.toNatClampNeg ((M.1 254 x5.toNatClampNeg) + x4)) _ h
      · refine hr_Grun mf_X9_passHour lb_X9_passHour_95 (P := True) (pc' := 65) (ls' := [some (.ref 249), some (.ref a1), some (.ref a2), some (.int x3), some (.int x4), some (.int (x5 + 1))]) (st' := []) (M' := M) rfl rfl trivial ?_
        exact ih x3 x4 (x5 + 1) M _ h
def f_X9_passHour_7 (a1 : Nat) (a2 : Nat) : Nat → Int32 → PM → Option (Unit × PM)
  | 0, _, _ => none
  | f + 1, x3, M =>
    if 4 ≤ x3 then
      f_X9_passHour_109 a1 a2 FU 0 M
    else
      hr_bd (f_X9_rashOf a1 a2 x3 M) (fun v4 M4 =>
      if v4 ≤ ((hr_si M4 249 1 ((M4.1 249 1) + v4)).1 a2 1) then
        f_X9_passHour_65 a1 a2 (fun x3 M => f_X9_passHour_7 a1 a2 f x3 M) FU x3 v4 0 (hr_si M4 249 1 ((M4.1 249 1) + v4))
      else
        if ((hr_si M4 249 1 ((M4.1 249 1) + v4)).1 249 2) = (-1) then
          f_X9_passHour_65 a1 a2 (fun x3 M => f_X9_passHour_7 a1 a2 f x3 M) FU x3 v4 0 (hr_si (hr_si (hr_si M4 249 1 ((M4.1 249 1) + v4)) 249 2 ((hr_si M4 249 1 ((M4.1 249 1) + v4)).1 249 0)) 249 3 x3)
        else
          f_X9_passHour_65 a1 a2 (fun x3 M => f_X9_passHour_7 a1 a2 f x3 M) FU x3 v4 0 (hr_si M4 249 1 ((M4.1 249 1) + v4)))
theorem g_X9_passHour_7 (a1 : Nat) (a2 : Nat) (ka1 : hr_K a1 = 3) (ka2 : hr_K a2 = 5) : ∀ (f : Nat) (x3 : Int32) (M : PM) (r : Unit × PM), f_X9_passHour_7 a1 a2 f x3 M = some r → hr_G 115 7 [some (.ref 249), some (.ref a1), some (.ref a2), some (.int x3), none, none] [] M (none, r.2) := by
  intro f
  induction f with
  | zero => intro x3 M r h; cases h
  | succ f ih =>
    intro x3 M r h
    rw [f_X9_passHour_7.eq_2] at h
    refine hr_Grun mf_X9_passHour lb_X9_passHour_7 (P := True) (pc' := if 4 ≤ x3 then 107 else 12) (ls' := [some (.ref 249), some (.ref a1), some (.ref a2), some (.int x3), none, none]) (st' := []) (M' := M) rfl rfl trivial ?_
    refine hr_Gif h (fun _ h => ?_) (fun _ h => ?_)
    · refine hr_Grun mf_X9_passHour lb_X9_passHour_107 (P := True) (pc' := 109) (ls' := [some (.ref 249), some (.ref a1), some (.ref a2), some (.int 0), none, none]) (st' := []) (M' := M) rfl rfl trivial ?_
      refine hr_Gle (ls := [some (.ref 249), none, some (.ref a2), some (.int 0), none, none]) (hr_le_s (hr_le_n (hr_le_s (hr_le_s (hr_le_n (hr_le_n hr_le_0)))))) ?_
      exact g_X9_passHour_109 a1 a2 ka1 ka2 FU 0 M _ h
    · refine hr_Grun mf_X9_passHour lb_X9_passHour_12 (P := True) (pc' := 16) (ls' := [some (.ref 249), some (.ref a1), some (.ref a2), some (.int x3), none, none]) (st' := [.int x3, .ref a2, .ref a1, .ref 249]) (M' := M) rfl rfl trivial ?_
      refine hr_Fb h (fun v4 M4 e4 h => ?_)
      refine hr_Gcv mf_X9_passHour mf_X9_rashOf lb_X9_passHour_16 (b := 249) (as := [.ref a1, .ref a2, .int x3]) (rest := []) (st2 := [.int v4]) (v := some (.int v4)) (M1 := M4) rfl rfl rfl rfl rfl rfl K_249 (g_X9_rashOf a1 a2 x3 _ _ e4) rfl rfl ?_
      refine hr_Grun mf_X9_passHour lb_X9_passHour_19 (P := hr_K 249 = 8 ∧ (hr_K 249 = 8 ∧ 249 < hr_n) ∧ hr_K a2 = 5 ∧ True) (pc' := if v4 ≤ ((hr_si M4 249 1 ((M4.1 249 1) + v4)).1 a2 1) then 62 else 41) (ls' := [some (.ref 249), some (.ref a1), some (.ref a2), some (.int x3), some (.int v4), none]) (st' := []) (M' := hr_si M4 249 1 ((M4.1 249 1) + v4)) rfl rfl ⟨K_249, ⟨K_249, L_249⟩, ka2, trivial⟩ ?_
      refine hr_Gif h (fun _ h => ?_) (fun _ h => ?_)
      · refine hr_Grun mf_X9_passHour lb_X9_passHour_62 (P := True) (pc' := 65) (ls' := [some (.ref 249), some (.ref a1), some (.ref a2), some (.int x3), some (.int v4), some (.int 0)]) (st' := []) (M' := hr_si M4 249 1 ((M4.1 249 1) + v4)) rfl rfl trivial ?_
        exact g_X9_passHour_65 a1 a2 ka1 ka2 (fun x3 M => f_X9_passHour_7 a1 a2 f x3 M) (fun x3 M r h => ih x3 M r h) FU x3 v4 0 (hr_si M4 249 1 ((M4.1 249 1) + v4)) _ h
      · refine hr_Grun mf_X9_passHour lb_X9_passHour_41 (P := hr_K 249 = 8 ∧ True) (pc' := if ((hr_si M4 249 1 ((M4.1 249 1) + v4)).1 249 2) = (-1) then 49 else 62) (ls' := [some (.ref 249), some (.ref a1), some (.ref a2), some (.int x3), some (.int v4), none]) (st' := []) (M' := hr_si M4 249 1 ((M4.1 249 1) + v4)) rfl rfl ⟨K_249, trivial⟩ ?_
        refine hr_Gif h (fun _ h => ?_) (fun _ h => ?_)
        · refine hr_Grun mf_X9_passHour lb_X9_passHour_49 (P := hr_K 249 = 8 ∧ (hr_K 249 = 8 ∧ 249 < hr_n) ∧ (hr_K 249 = 8 ∧ 249 < hr_n) ∧ True) (pc' := 62) (ls' := [some (.ref 249), some (.ref a1), some (.ref a2), some (.int x3), some (.int v4), none]) (st' := []) (M' := hr_si (hr_si (hr_si M4 249 1 ((M4.1 249 1) + v4)) 249 2 ((hr_si M4 249 1 ((M4.1 249 1) + v4)).1 249 0)) 249 3 x3) rfl rfl ⟨K_249, ⟨K_249, L_249⟩, ⟨K_249, L_249⟩, trivial⟩ ?_
          refine hr_Grun mf_X9_passHour lb_X9_passHour_62 (P := True) (pc' := 65) (ls' := [some (.ref 249), some (.ref a1), some (.ref a2), some (.int x3), some (.int v4), some (.int 0)]) (st' := []) (M' := hr_si (hr_si (hr_si M4 249 1 ((M4.1 249 1) + v4)) 249 2 ((hr_si M4 249 1 ((M4.1 249 1) + v4)).1 249 0)) 249 3 x3) rfl rfl trivial ?_
          exact g_X9_passHour_65 a1 a2 ka1 ka2 (fun x3 M => f_X9_passHour_7 a1 a2 f x3 M) (fun x3 M r h => ih x3 M r h) FU x3 v4 0 (hr_si (hr_si (hr_si M4 249 1 ((M4.1 249 1) + v4)) 249 2 ((hr_si M4 249 1 ((M4.1 249 1) + v4)).1 249 0)) 249 3 x3) _ h
        · refine hr_Grun mf_X9_passHour lb_X9_passHour_62 (P := True) (pc' := 65) (ls' := [some (.ref 249), some (.ref a1), some (.ref a2), some (.int x3), some (.int v4), some (.int 0)]) (st' := []) (M' := hr_si M4 249 1 ((M4.1 249 1) + v4)) rfl rfl trivial ?_
          exact g_X9_passHour_65 a1 a2 ka1 ka2 (fun x3 M => f_X9_passHour_7 a1 a2 f x3 M) (fun x3 M r h => ih x3 M r h) FU x3 v4 0 (hr_si M4 249 1 ((M4.1 249 1) + v4)) _ h
def f_X9_passHour (a1 : Nat) (a2 : Nat) (M : PM) : Option (Unit × PM) :=
  if hr_K a1 = 3 then if hr_K a2 = 5 then f_X9_passHour_7 a1 a2 FU 0 (hr_si M 249 12 0) else none else none
theorem g_X9_passHour (a1 : Nat) (a2 : Nat) : ∀ (M : PM) (r : Unit × PM), f_X9_passHour a1 a2 M = some r → hr_G 115 0 [some (.ref 249), some (.ref a1), some (.ref a2), none, none, none] [] M (none, r.2) := by
  intro M r h
  unfold f_X9_passHour at h
  refine hr_Fg h (fun ka1 h => ?_)
  refine hr_Fg h (fun ka2 h => ?_)
  refine hr_Grun mf_X9_passHour lb_X9_passHour_0 (P := (hr_K 249 = 8 ∧ 249 < hr_n) ∧ True) (pc' := 7) (ls' := [some (.ref 249), some (.ref a1), some (.ref a2), some (.int 0), none, none]) (st' := []) (M' := hr_si M 249 12 0) rfl rfl ⟨⟨K_249, L_249⟩, trivial⟩ ?_
  exact g_X9_passHour_7 a1 a2 ka1 ka2 FU 0 (hr_si M 249 12 0) _ h
theorem mf_X9_act : hr_mf 113 9 4 (some .boolean) 7 4 bk_X9_act := ⟨rfl, rfl, rfl, rfl, rfl, rfl⟩
theorem lb_X9_act_0 : bk_X9_act.lookup 0 = some [(.aload_n 3, 1), (.getfield 66, 3), (.iload 4, 2), (.iaload, 1), (.istore 5, 2), (.aload_n 3, 1), (.getfield 63, 3), (.iload 4, 2), (.iaload, 1), (.istore 6, 2), (.bipush 20, 2), (.aload_n 3, 1), (.getfield 69, 3), (.iload 4, 2), (.iaload, 1), (.iadd, 1), (.tableswitch 142 20 24 #[36, 66, 95, 117, 130], 36)] := rfl
theorem lb_X9_act_64 : bk_X9_act.lookup 64 = some [(.aload_n 2, 1), (.iload 5, 2)] := rfl
theorem lb_X9_act_67 : bk_X9_act.lookup 67 = some [(.invokevirtual 59, 3)] := rfl
theorem lb_X9_act_70 : bk_X9_act.lookup 70 = some [(.ifCond .eq 22, 3)] := rfl
theorem lb_X9_act_73 : bk_X9_act.lookup 73 = some [(.aload_n 0, 1), (.getfield 9, 3), (.iload 5, 2), (.iconst 1, 1), (.iload 6, 2)] := rfl
theorem lb_X9_act_82 : bk_X9_act.lookup 82 = some [(.invokestatic 72, 3)] := rfl
theorem lb_X9_act_85 : bk_X9_act.lookup 85 = some [(.ifCond .eq 7, 3)] := rfl
theorem lb_X9_act_88 : bk_X9_act.lookup 88 = some [(.iconst 1, 1), (.goto 4, 3)] := rfl
theorem lb_X9_act_92 : bk_X9_act.lookup 92 = some [(.iconst 0, 1)] := rfl
theorem lb_X9_act_93 : bk_X9_act.lookup 93 = some [(.ireturn, 1)] := rfl
theorem lb_X9_act_94 : bk_X9_act.lookup 94 = some [(.aload_n 2, 1), (.iload 5, 2)] := rfl
theorem lb_X9_act_97 : bk_X9_act.lookup 97 = some [(.invokevirtual 59, 3)] := rfl
theorem lb_X9_act_100 : bk_X9_act.lookup 100 = some [(.ifCond .eq 21, 3)] := rfl
theorem lb_X9_act_103 : bk_X9_act.lookup 103 = some [(.aload_n 0, 1), (.getfield 9, 3), (.iload 5, 2), (.iconst 0, 1), (.iconst (-1), 1)] := rfl
theorem lb_X9_act_111 : bk_X9_act.lookup 111 = some [(.invokestatic 72, 3)] := rfl
theorem lb_X9_act_114 : bk_X9_act.lookup 114 = some [(.ifCond .eq 7, 3)] := rfl
theorem lb_X9_act_117 : bk_X9_act.lookup 117 = some [(.iconst 1, 1), (.goto 4, 3)] := rfl
theorem lb_X9_act_121 : bk_X9_act.lookup 121 = some [(.iconst 0, 1)] := rfl
theorem lb_X9_act_122 : bk_X9_act.lookup 122 = some [(.ireturn, 1)] := rfl
theorem lb_X9_act_123 : bk_X9_act.lookup 123 = some [(.aload_n 1, 1), (.iload 6, 2)] := rfl
theorem lb_X9_act_126 : bk_X9_act.lookup 126 = some [(.invokevirtual 76, 3)] := rfl
theorem lb_X9_act_129 : bk_X9_act.lookup 129 = some [(.ifCond .ne 5, 3)] := rfl
theorem lb_X9_act_132 : bk_X9_act.lookup 132 = some [(.iconst 0, 1)] := rfl
theorem lb_X9_act_133 : bk_X9_act.lookup 133 = some [(.ireturn, 1)] := rfl
theorem lb_X9_act_134 : bk_X9_act.lookup 134 = some [(.aload_n 0, 1), (.getfield 21, 3), (.iload 5, 2), (.iload 6, 2), (.iastore, 1), (.iconst 1, 1)] := rfl
theorem lb_X9_act_144 : bk_X9_act.lookup 144 = some [(.ireturn, 1)] := rfl
theorem lb_X9_act_145 : bk_X9_act.lookup 145 = some [(.aload_n 0, 1), (.getfield 18, 3), (.iload 5, 2), (.iconst 1, 1), (.iload 6, 2)] := rfl
theorem lb_X9_act_154 : bk_X9_act.lookup 154 = some [(.invokestatic 72, 3)] := rfl
theorem lb_X9_act_157 : bk_X9_act.lookup 157 = some [(.ireturn, 1)] := rfl
theorem lb_X9_act_158 : bk_X9_act.lookup 158 = some [(.aload_n 0, 1), (.getfield 18, 3), (.iload 5, 2), (.iconst 0, 1), (.iconst (-1), 1)] := rfl
theorem lb_X9_act_166 : bk_X9_act.lookup 166 = some [(.invokestatic 72, 3)] := rfl
theorem lb_X9_act_169 : bk_X9_act.lookup 169 = some [(.ireturn, 1)] := rfl
theorem lb_X9_act_170 : bk_X9_act.lookup 170 = some [(.aload_n 0, 1), (.aload_n 1, 1), (.aload_n 2, 1)] := rfl
theorem lb_X9_act_173 : bk_X9_act.lookup 173 = some [(.invokevirtual 79, 3)] := rfl
theorem lb_X9_act_176 : bk_X9_act.lookup 176 = some [(.iconst 1, 1)] := rfl
theorem lb_X9_act_177 : bk_X9_act.lookup 177 = some [(.ireturn, 1)] := rfl
def f_X9_act (a1 : Nat) (a2 : Nat) (a3 : Nat) (a4 : Int32) (M : PM) : Option (Int32 × PM) :=
  if hr_K a1 = 3 then if hr_K a2 = 5 then if hr_K a3 = 5 then if inB a4 40 = true then if inB a4 40 = true then if inB a4 40 = true then if (20 + (M.1 (a3 + 1) a4.toNatClampNeg)) = 20 then
    hr_bd (f_X6_has a2 (M.1 (a3 + 2) a4.toNatClampNeg) M) (fun v3 M3 =>
    if v3 = 0 then
      some (0, M3)
    else
      hr_bd (f_X9_move 250 (M.1 (a3 + 2) a4.toNatClampNeg) 1 (M.1 (a3 + 3) a4.toNatClampNeg) M3) (fun v7 M7 =>
      if v7 = 0 then
        some (0, M7)
      else
        some (1, M7)))
  else if (20 + (M.1 (a3 + 1) a4.toNatClampNeg)) = 21 then
    hr_bd (f_X6_has a2 (M.1 (a3 + 2) a4.toNatClampNeg) M) (fun v12 M12 =>
    if v12 = 0 then
      some (0, M12)
    else
      hr_bd (f_X9_move 250 (M.1 (a3 + 2) a4.toNatClampNeg) 0 (-1) M12) (fun v16 M16 =>
      if v16 = 0 then
        some (0, M16)
      else
        some (1, M16)))
  else if (20 + (M.1 (a3 + 1) a4.toNatClampNeg)) = 22 then
    hr_bd (f_X4_has a1 (M.1 (a3 + 3) a4.toNatClampNeg) M) (fun v21 M21 =>
    if v21 = 0 then
      some (0, M21)
    else
      if inB (M.1 (a3 + 2) a4.toNatClampNeg) 6 = true then 
      some (1, hr_si M21 253 (M.1 (a3 + 2) a4.toNatClampNeg).toNatClampNeg (M.1 (a3 + 3) a4.toNatClampNeg)) else none)
  else if (20 + (M.1 (a3 + 1) a4.toNatClampNeg)) = 23 then
    hr_bd (f_X9_move 252 (M.1 (a3 + 2) a4.toNatClampNeg) 1 (M.1 (a3 + 3) a4.toNatClampNeg) M) (fun v26 M26 =>
    if v26 = 0 ∨ v26 = 1 then some (v26, M26) else none)
  else if (20 + (M.1 (a3 + 1) a4.toNatClampNeg)) = 24 then
    hr_bd (f_X9_move 252 (M.1 (a3 + 2) a4.toNatClampNeg) 0 (-1) M) (fun v28 M28 =>
    if v28 = 0 ∨ v28 = 1 then some (v28, M28) else none)
  else 
    hr_bd (f_X9_passHour a1 a2 M) (fun v30 M30 =>
    some (1, M30))
  else none else none else none else none else none else none
theorem g_X9_act (a1 : Nat) (a2 : Nat) (a3 : Nat) (a4 : Int32) : ∀ (M : PM) (r : Int32 × PM), f_X9_act a1 a2 a3 a4 M = some r → hr_G 113 0 [some (.ref 249), some (.ref a1), some (.ref a2), some (.ref a3), some (.int a4), none, none] [] M (some (.int r.1), r.2) := by
  intro M r h
  unfold f_X9_act at h
  refine hr_Fg h (fun ka1 h => ?_)
  refine hr_Fg h (fun ka2 h => ?_)
  refine hr_Fg h (fun ka3 h => ?_)
  refine hr_Fg h (fun hg1_0 h => ?_)
  refine hr_Fg h (fun hg1_1 h => ?_)
  refine hr_Fg h (fun hg1_2 h => ?_)
  refine hr_Grun mf_X9_act lb_X9_act_0 (P := hr_K a3 = 5 ∧ (hr_K (a3 + 2) = 12 ∧ vp_in a4 (hr_N (a3 + 2))) ∧ hr_K a3 = 5 ∧ (hr_K (a3 + 3) = 12 ∧ vp_in a4 (hr_N (a3 + 3))) ∧ hr_K a3 = 5 ∧ (hr_K (a3 + 1) = 12 ∧ vp_in a4 (hr_N (a3 + 1))) ∧ True) (pc' := if (20 + (M.1 (a3 + 1) a4.toNatClampNeg)) = 20 then 64 else if (20 + (M.1 (a3 + 1) a4.toNatClampNeg)) = 21 then 94 else if (20 + (M.1 (a3 + 1) a4.toNatClampNeg)) = 22 then 123 else if (20 + (M.1 (a3 + 1) a4.toNatClampNeg)) = 23 then 145 else if (20 + (M.1 (a3 + 1) a4.toNatClampNeg)) = 24 then 158 else 170) (ls' := [some (.ref 249), some (.ref a1), some (.ref a2), some (.ref a3), some (.int a4), some (.int (M.1 (a3 + 2) a4.toNatClampNeg)), some (.int (M.1 (a3 + 3) a4.toNatClampNeg))]) (st' := []) (M' := M) rfl rfl ⟨ka3, ⟨(kf_5_4 ka3).1, (inB_N (kf_5_4 ka3).2.1 hg1_0)⟩, ka3, ⟨(kf_5_5 ka3).1, (inB_N (kf_5_5 ka3).2.1 hg1_1)⟩, ka3, ⟨(kf_5_3 ka3).1, (inB_N (kf_5_3 ka3).2.1 hg1_2)⟩, trivial⟩ ?_
  refine hr_Gif h (fun _ h => ?_) (fun _ h => ?_)
  · refine hr_Grun mf_X9_act lb_X9_act_64 (P := True) (pc' := 67) (ls' := [some (.ref 249), some (.ref a1), some (.ref a2), some (.ref a3), some (.int a4), some (.int (M.1 (a3 + 2) a4.toNatClampNeg)), some (.int (M.1 (a3 + 3) a4.toNatClampNeg))]) (st' := [.int (M.1 (a3 + 2) a4.toNatClampNeg), .ref a2]) (M' := M) rfl rfl trivial ?_
    refine hr_Fb h (fun v3 M3 e3 h => ?_)
    refine hr_Gcv mf_X9_act mf_X6_has lb_X9_act_67 (b := a2) (as := [.int (M.1 (a3 + 2) a4.toNatClampNeg)]) (rest := []) (st2 := [.int v3]) (v := some (.int v3)) (M1 := M3) rfl rfl rfl rfl rfl rfl ka2 (g_X6_has a2 (M.1 (a3 + 2) a4.toNatClampNeg) _ _ e3) rfl rfl ?_
    refine hr_Grun mf_X9_act lb_X9_act_70 (P := True) (pc' := if v3 = 0 then 92 else 73) (ls' := [some (.ref 249), some (.ref a1), some (.ref a2), some (.ref a3), some (.int a4), some (.int (M.1 (a3 + 2) a4.toNatClampNeg)), some (.int (M.1 (a3 + 3) a4.toNatClampNeg))]) (st' := []) (M' := M3) rfl rfl trivial ?_
    refine hr_Gif h (fun _ h => ?_) (fun _ h => ?_)
    · refine hr_Grun mf_X9_act lb_X9_act_92 (P := True) (pc' := 93) (ls' := [some (.ref 249), some (.ref a1), some (.ref a2), some (.ref a3), some (.int a4), some (.int (M.1 (a3 + 2) a4.toNatClampNeg)), some (.int (M.1 (a3 + 3) a4.toNatClampNeg))]) (st' := [.int 0]) (M' := M3) rfl rfl trivial ?_
      cases h
      exact hr_Gret mf_X9_act lb_X9_act_93 rfl rfl (Or.inl rfl)
    · refine hr_Grun mf_X9_act lb_X9_act_73 (P := hr_K 249 = 8 ∧ True) (pc' := 82) (ls' := [some (.ref 249), some (.ref a1), some (.ref a2), some (.ref a3), some (.int a4), some (.int (M.1 (a3 + 2) a4.toNatClampNeg)), some (.int (M.1 (a3 + 3) a4.toNatClampNeg))]) (st' := [.int (M.1 (a3 + 3) a4.toNatClampNeg), .int 1, .int (M.1 (a3 + 2) a4.toNatClampNeg), .ref 250]) (M' := M3) rfl rfl ⟨K_249, trivial⟩ ?_
      refine hr_Fb h (fun v7 M7 e7 h => ?_)
      refine hr_Gcs mf_X9_act mf_X9_move lb_X9_act_82 (as := [.ref 250, .int (M.1 (a3 + 2) a4.toNatClampNeg), .int 1, .int (M.1 (a3 + 3) a4.toNatClampNeg)]) (rest := []) (st2 := [.int v7]) (v := some (.int v7)) (M1 := M7) rfl rfl rfl rfl rfl rfl (g_X9_move 250 (M.1 (a3 + 2) a4.toNatClampNeg) 1 (M.1 (a3 + 3) a4.toNatClampNeg) _ _ e7) rfl rfl ?_
      refine hr_Grun mf_X9_act lb_X9_act_85 (P := True) (pc' := if v7 = 0 then 92 else 88) (ls' := [some (.ref 249), some (.ref a1), some (.ref a2), some (.ref a3), some (.int a4), some (.int (M.1 (a3 + 2) a4.toNatClampNeg)), some (.int (M.1 (a3 + 3) a4.toNatClampNeg))]) (st' := []) (M' := M7) rfl rfl trivial ?_
      refine hr_Gif h (fun _ h => ?_) (fun _ h => ?_)
      · refine hr_Grun mf_X9_act lb_X9_act_92 (P := True) (pc' := 93) (ls' := [some (.ref 249), some (.ref a1), some (.ref a2), some (.ref a3), some (.int a4), some (.int (M.1 (a3 + 2) a4.toNatClampNeg)), some (.int (M.1 (a3 + 3) a4.toNatClampNeg))]) (st' := [.int 0]) (M' := M7) rfl rfl trivial ?_
        cases h
        exact hr_Gret mf_X9_act lb_X9_act_93 rfl rfl (Or.inl rfl)
      · refine hr_Grun mf_X9_act lb_X9_act_88 (P := True) (pc' := 93) (ls' := [some (.ref 249), some (.ref a1), some (.ref a2), some (.ref a3), some (.int a4), some (.int (M.1 (a3 + 2) a4.toNatClampNeg)), some (.int (M.1 (a3 + 3) a4.toNatClampNeg))]) (st' := [.int 1]) (M' := M7) rfl rfl trivial ?_
        cases h
        exact hr_Gret mf_X9_act lb_X9_act_93 rfl rfl (Or.inr rfl)
  refine hr_Gif h (fun _ h => ?_) (fun _ h => ?_)
  · refine hr_Grun mf_X9_act lb_X9_act_94 (P := True) (pc' := 97) (ls' := [some (.ref 249), some (.ref a1), some (.ref a2), some (.ref a3), some (.int a4), some (.int (M.1 (a3 + 2) a4.toNatClampNeg)), some (.int (M.1 (a3 + 3) a4.toNatClampNeg))]) (st' := [.int (M.1 (a3 + 2) a4.toNatClampNeg), .ref a2]) (M' := M) rfl rfl trivial ?_
    refine hr_Fb h (fun v12 M12 e12 h => ?_)
    refine hr_Gcv mf_X9_act mf_X6_has lb_X9_act_97 (b := a2) (as := [.int (M.1 (a3 + 2) a4.toNatClampNeg)]) (rest := []) (st2 := [.int v12]) (v := some (.int v12)) (M1 := M12) rfl rfl rfl rfl rfl rfl ka2 (g_X6_has a2 (M.1 (a3 + 2) a4.toNatClampNeg) _ _ e12) rfl rfl ?_
    refine hr_Grun mf_X9_act lb_X9_act_100 (P := True) (pc' := if v12 = 0 then 121 else 103) (ls' := [some (.ref 249), some (.ref a1), some (.ref a2), some (.ref a3), some (.int a4), some (.int (M.1 (a3 + 2) a4.toNatClampNeg)), some (.int (M.1 (a3 + 3) a4.toNatClampNeg))]) (st' := []) (M' := M12) rfl rfl trivial ?_
    refine hr_Gif h (fun _ h => ?_) (fun _ h => ?_)
    · refine hr_Grun mf_X9_act lb_X9_act_121 (P := True) (pc' := 122) (ls' := [some (.ref 249), some (.ref a1), some (.ref a2), some (.ref a3), some (.int a4), some (.int (M.1 (a3 + 2) a4.toNatClampNeg)), some (.int (M.1 (a3 + 3) a4.toNatClampNeg))]) (st' := [.int 0]) (M' := M12) rfl rfl trivial ?_
      cases h
      exact hr_Gret mf_X9_act lb_X9_act_122 rfl rfl (Or.inl rfl)
    · refine hr_Grun mf_X9_act lb_X9_act_103 (P := hr_K 249 = 8 ∧ True) (pc' := 111) (ls' := [some (.ref 249), some (.ref a1), some (.ref a2), some (.ref a3), some (.int a4), some (.int (M.1 (a3 + 2) a4.toNatClampNeg)), some (.int (M.1 (a3 + 3) a4.toNatClampNeg))]) (st' := [.int (-1), .int 0, .int (M.1 (a3 + 2) a4.toNatClampNeg), .ref 250]) (M' := M12) rfl rfl ⟨K_249, trivial⟩ ?_
      refine hr_Fb h (fun v16 M16 e16 h => ?_)
      refine hr_Gcs mf_X9_act mf_X9_move lb_X9_act_111 (as := [.ref 250, .int (M.1 (a3 + 2) a4.toNatClampNeg), .int 0, .int (-1)]) (rest := []) (st2 := [.int v16]) (v := some (.int v16)) (M1 := M16) rfl rfl rfl rfl rfl rfl (g_X9_move 250 (M.1 (a3 + 2) a4.toNatClampNeg) 0 (-1) _ _ e16) rfl rfl ?_
      refine hr_Grun mf_X9_act lb_X9_act_114 (P := True) (pc' := if v16 = 0 then 121 else 117) (ls' := [some (.ref 249), some (.ref a1), some (.ref a2), some (.ref a3), some (.int a4), some (.int (M.1 (a3 + 2) a4.toNatClampNeg)), some (.int (M.1 (a3 + 3) a4.toNatClampNeg))]) (st' := []) (M' := M16) rfl rfl trivial ?_
      refine hr_Gif h (fun _ h => ?_) (fun _ h => ?_)
      · refine hr_Grun mf_X9_act lb_X9_act_121 (P := True) (pc' := 122) (ls' := [some (.ref 249), some (.ref a1), some (.ref a2), some (.ref a3), some (.int a4), some (.int (M.1 (a3 + 2) a4.toNatClampNeg)), some (.int (M.1 (a3 + 3) a4.toNatClampNeg))]) (st' := [.int 0]) (M' := M16) rfl rfl trivial ?_
        cases h
        exact hr_Gret mf_X9_act lb_X9_act_122 rfl rfl (Or.inl rfl)
      · refine hr_Grun mf_X9_act lb_X9_act_117 (P := True) (pc' := 122) (ls' := [some (.ref 249), some (.ref a1), some (.ref a2), some (.ref a3), some (.int a4), some (.int (M.1 (a3 + 2) a4.toNatClampNeg)), some (.int (M.1 (a3 + 3) a4.toNatClampNeg))]) (st' := [.int 1]) (M' := M16) rfl rfl trivial ?_
        cases h
        exact hr_Gret mf_X9_act lb_X9_act_122 rfl rfl (Or.inr rfl)
  refine hr_Gif h (fun _ h => ?_) (fun _ h => ?_)
  · refine hr_Grun mf_X9_act lb_X9_act_123 (P := True) (pc' := 126) (ls' := [some (.ref 249), some (.ref a1), some (.ref a2), some (.ref a3), some (.int a4), some (.int (M.1 (a3 + 2) a4.toNatClampNeg)), some (.int (M.1 (a3 + 3) a4.toNatClampNeg))]) (st' := [.int (M.1 (a3 + 3) a4.toNatClampNeg), .ref a1]) (M' := M) rfl rfl trivial ?_
    refine hr_Fb h (fun v21 M21 e21 h => ?_)
    refine hr_Gcv mf_X9_act mf_X4_has lb_X9_act_126 (b := a1) (as := [.int (M.1 (a3 + 3) a4.toNatClampNeg)]) (rest := []) (st2 := [.int v21]) (v := some (.int v21)) (M1 := M21) rfl rfl rfl rfl rfl rfl ka1 (g_X4_has a1 (M.1 (a3 + 3) a4.toNatClampNeg) _ _ e21) rfl rfl ?_
    refine hr_Grun mf_X9_act lb_X9_act_129 (P := True) (pc' := if v21 = 0 then 132 else 134) (ls' := [some (.ref 249), some (.ref a1), some (.ref a2), some (.ref a3), some (.int a4), some (.int (M.1 (a3 + 2) a4.toNatClampNeg)), some (.int (M.1 (a3 + 3) a4.toNatClampNeg))]) (st' := []) (M' := M21) rfl rfl trivial ?_
    refine hr_Gif h (fun _ h => ?_) (fun _ h => ?_)
    · refine hr_Grun mf_X9_act lb_X9_act_132 (P := True) (pc' := 133) (ls' := [some (.ref 249), some (.ref a1), some (.ref a2), some (.ref a3), some (.int a4), some (.int (M.1 (a3 + 2) a4.toNatClampNeg)), some (.int (M.1 (a3 + 3) a4.toNatClampNeg))]) (st' := [.int 0]) (M' := M21) rfl rfl trivial ?_
      cases h
      exact hr_Gret mf_X9_act lb_X9_act_133 rfl rfl (Or.inl rfl)
    · refine hr_Fg h (fun hg24_0 h => ?_)
      refine hr_Grun mf_X9_act lb_X9_act_134 (P := hr_K 249 = 8 ∧ ((hr_K 253 = 12 ∧ 253 < hr_n) ∧ vp_in (M.1 (a3 + 2) a4.toNatClampNeg) (hr_N 253)) ∧ True) (pc' := 144) (ls' := [some (.ref 249), some (.ref a1), some (.ref a2), some (.ref a3), some (.int a4), some (.int (M.1 (a3 + 2) a4.toNatClampNeg)), some (.int (M.1 (a3 + 3) a4.toNatClampNeg))]) (st' := [.int 1]) (M' := hr_si M21 253 (M.1 (a3 + 2) a4.toNatClampNeg).toNatClampNeg (M.1 (a3 + 3) a4.toNatClampNeg)) rfl rfl ⟨K_249, ⟨⟨K_253, L_253⟩, (inB_N N_253 hg24_0)⟩, trivial⟩ ?_
      cases h
      exact hr_Gret mf_X9_act lb_X9_act_144 rfl rfl (Or.inr rfl)
  refine hr_Gif h (fun _ h => ?_) (fun _ h => ?_)
  · refine hr_Grun mf_X9_act lb_X9_act_145 (P := hr_K 249 = 8 ∧ True) (pc' := 154) (ls' := [some (.ref 249), some (.ref a1), some (.ref a2), some (.ref a3), some (.int a4), some (.int (M.1 (a3 + 2) a4.toNatClampNeg)), some (.int (M.1 (a3 + 3) a4.toNatClampNeg))]) (st' := [.int (M.1 (a3 + 3) a4.toNatClampNeg), .int 1, .int (M.1 (a3 + 2) a4.toNatClampNeg), .ref 252]) (M' := M) rfl rfl ⟨K_249, trivial⟩ ?_
    refine hr_Fb h (fun v26 M26 e26 h => ?_)
    refine hr_Gcs mf_X9_act mf_X9_move lb_X9_act_154 (as := [.ref 252, .int (M.1 (a3 + 2) a4.toNatClampNeg), .int 1, .int (M.1 (a3 + 3) a4.toNatClampNeg)]) (rest := []) (st2 := [.int v26]) (v := some (.int v26)) (M1 := M26) rfl rfl rfl rfl rfl rfl (g_X9_move 252 (M.1 (a3 + 2) a4.toNatClampNeg) 1 (M.1 (a3 + 3) a4.toNatClampNeg) _ _ e26) rfl rfl ?_
    refine hr_Fg h (fun hz h => ?_)
    cases h
    exact hr_Gret mf_X9_act lb_X9_act_157 rfl rfl hz
  refine hr_Gif h (fun _ h => ?_) (fun _ h => ?_)
  · refine hr_Grun mf_X9_act lb_X9_act_158 (P := hr_K 249 = 8 ∧ True) (pc' := 166) (ls' := [some (.ref 249), some (.ref a1), some (.ref a2), some (.ref a3), some (.int a4), some (.int (M.1 (a3 + 2) a4.toNatClampNeg)), some (.int (M.1 (a3 + 3) a4.toNatClampNeg))]) (st' := [.int (-1), .int 0, .int (M.1 (a3 + 2) a4.toNatClampNeg), .ref 252]) (M' := M) rfl rfl ⟨K_249, trivial⟩ ?_
    refine hr_Fb h (fun v28 M28 e28 h => ?_)
    refine hr_Gcs mf_X9_act mf_X9_move lb_X9_act_166 (as := [.ref 252, .int (M.1 (a3 + 2) a4.toNatClampNeg), .int 0, .int (-1)]) (rest := []) (st2 := [.int v28]) (v := some (.int v28)) (M1 := M28) rfl rfl rfl rfl rfl rfl (g_X9_move 252 (M.1 (a3 + 2) a4.toNatClampNeg) 0 (-1) _ _ e28) rfl rfl ?_
    refine hr_Fg h (fun hz h => ?_)
    cases h
    exact hr_Gret mf_X9_act lb_X9_act_169 rfl rfl hz
  · refine hr_Grun mf_X9_act lb_X9_act_170 (P := True) (pc' := 173) (ls' := [some (.ref 249), some (.ref a1), some (.ref a2), some (.ref a3), some (.int a4), some (.int (M.1 (a3 + 2) a4.toNatClampNeg)), some (.int (M.1 (a3 + 3) a4.toNatClampNeg))]) (st' := [.ref a2, .ref a1, .ref 249]) (M' := M) rfl rfl trivial ?_
    refine hr_Fb h (fun v30 M30 e30 h => ?_)
    refine hr_Gcv mf_X9_act mf_X9_passHour lb_X9_act_173 (b := 249) (as := [.ref a1, .ref a2]) (rest := []) (st2 := []) (v := none) (M1 := M30) rfl rfl rfl rfl rfl rfl K_249 (g_X9_passHour a1 a2 _ _ e30) rfl rfl ?_
    refine hr_Grun mf_X9_act lb_X9_act_176 (P := True) (pc' := 177) (ls' := [some (.ref 249), some (.ref a1), some (.ref a2), some (.ref a3), some (.int a4), some (.int (M.1 (a3 + 2) a4.toNatClampNeg)), some (.int (M.1 (a3 + 3) a4.toNatClampNeg))]) (st' := [.int 1]) (M' := M30) rfl rfl trivial ?_
    cases h
    exact hr_Gret mf_X9_act lb_X9_act_177 rfl rfl (Or.inr rfl)
theorem mf_X9_go : hr_mf 111 9 5 (some .int) 7 4 bk_X9_go := ⟨rfl, rfl, rfl, rfl, rfl, rfl⟩
theorem lb_X9_go_0 : bk_X9_go.lookup 0 = some [(.aload_n 0, 1), (.aload_n 2, 1)] := rfl
theorem lb_X9_go_2 : bk_X9_go.lookup 2 = some [(.invokevirtual 33, 3)] := rfl
theorem lb_X9_go_5 : bk_X9_go.lookup 5 = some [(.iconst 0, 1), (.istore 5, 2), (.iconst 0, 1), (.istore 6, 2)] := rfl
theorem lb_X9_go_11 : bk_X9_go.lookup 11 = some [(.iload 6, 2), (.iload 4, 2), (.if_icmp .ge 36, 3)] := rfl
theorem lb_X9_go_18 : bk_X9_go.lookup 18 = some [(.iload 6, 2), (.aload_n 3, 1), (.getfield 37, 3), (.if_icmp .ge 27, 3)] := rfl
theorem lb_X9_go_27 : bk_X9_go.lookup 27 = some [(.aload_n 0, 1), (.aload_n 1, 1), (.aload_n 2, 1), (.aload_n 3, 1), (.iload 6, 2)] := rfl
theorem lb_X9_go_33 : bk_X9_go.lookup 33 = some [(.invokevirtual 43, 3)] := rfl
theorem lb_X9_go_36 : bk_X9_go.lookup 36 = some [(.ifCond .ne 6, 3)] := rfl
theorem lb_X9_go_39 : bk_X9_go.lookup 39 = some [(.goto 12, 3)] := rfl
theorem lb_X9_go_42 : bk_X9_go.lookup 42 = some [(.iinc 5 1, 3), (.iinc 6 1, 3), (.goto (-37), 3)] := rfl
theorem lb_X9_go_51 : bk_X9_go.lookup 51 = some [(.iload 5, 2)] := rfl
theorem lb_X9_go_53 : bk_X9_go.lookup 53 = some [(.ireturn, 1)] := rfl
def f_X9_go_11 (a1 : Nat) (a2 : Nat) (a3 : Nat) (a4 : Int32) : Nat → Int32 → Int32 → PM → Option (Int32 × PM)
  | 0, _, _, _ => none
  | f + 1, x5, x6, M =>
    if a4 ≤ x6 then
      some (x5, M)
    else
      if (M.1 a3 0) ≤ x6 then
        some (x5, M)
      else
        hr_bd (f_X9_act a1 a2 a3 x6 M) (fun v6 M6 =>
        if v6 = 0 then
          some (x5, M6)
        else
          f_X9_go_11 a1 a2 a3 a4 f (x5 + 1) (x6 + 1) M6)
theorem g_X9_go_11 (a1 : Nat) (a2 : Nat) (a3 : Nat) (a4 : Int32) (ka1 : hr_K a1 = 3) (ka2 : hr_K a2 = 5) (ka3 : hr_K a3 = 5) : ∀ (f : Nat) (x5 : Int32) (x6 : Int32) (M : PM) (r : Int32 × PM), f_X9_go_11 a1 a2 a3 a4 f x5 x6 M = some r → hr_G 111 11 [some (.ref 249), some (.ref a1), some (.ref a2), some (.ref a3), some (.int a4), some (.int x5), some (.int x6)] [] M (some (.int r.1), r.2) := by
  intro f
  induction f with
  | zero => intro x5 x6 M r h; cases h
  | succ f ih =>
    intro x5 x6 M r h
    rw [f_X9_go_11.eq_2] at h
    refine hr_Grun mf_X9_go lb_X9_go_11 (P := True) (pc' := if a4 ≤ x6 then 51 else 18) (ls' := [some (.ref 249), some (.ref a1), some (.ref a2), some (.ref a3), some (.int a4), some (.int x5), some (.int x6)]) (st' := []) (M' := M) rfl rfl trivial ?_
    refine hr_Gif h (fun _ h => ?_) (fun _ h => ?_)
    · refine hr_Grun mf_X9_go lb_X9_go_51 (P := True) (pc' := 53) (ls' := [some (.ref 249), some (.ref a1), some (.ref a2), some (.ref a3), some (.int a4), some (.int x5), some (.int x6)]) (st' := [.int x5]) (M' := M) rfl rfl trivial ?_
      cases h
      exact hr_Gret mf_X9_go lb_X9_go_53 rfl rfl trivial
    · refine hr_Grun mf_X9_go lb_X9_go_18 (P := hr_K a3 = 5 ∧ True) (pc' := if (M.1 a3 0) ≤ x6 then 51 else 27) (ls' := [some (.ref 249), some (.ref a1), some (.ref a2), some (.ref a3), some (.int a4), some (.int x5), some (.int x6)]) (st' := []) (M' := M) rfl rfl ⟨ka3, trivial⟩ ?_
      refine hr_Gif h (fun _ h => ?_) (fun _ h => ?_)
      · refine hr_Grun mf_X9_go lb_X9_go_51 (P := True) (pc' := 53) (ls' := [some (.ref 249), some (.ref a1), some (.ref a2), some (.ref a3), some (.int a4), some (.int x5), some (.int x6)]) (st' := [.int x5]) (M' := M) rfl rfl trivial ?_
        cases h
        exact hr_Gret mf_X9_go lb_X9_go_53 rfl rfl trivial
      · refine hr_Grun mf_X9_go lb_X9_go_27 (P := True) (pc' := 33) (ls' := [some (.ref 249), some (.ref a1), some (.ref a2), some (.ref a3), some (.int a4), some (.int x5), some (.int x6)]) (st' := [.int x6, .ref a3, .ref a2, .ref a1, .ref 249]) (M' := M) rfl rfl trivial ?_
        refine hr_Fb h (fun v6 M6 e6 h => ?_)
        refine hr_Gcv mf_X9_go mf_X9_act lb_X9_go_33 (b := 249) (as := [.ref a1, .ref a2, .ref a3, .int x6]) (rest := []) (st2 := [.int v6]) (v := some (.int v6)) (M1 := M6) rfl rfl rfl rfl rfl rfl K_249 (g_X9_act a1 a2 a3 x6 _ _ e6) rfl rfl ?_
        refine hr_Grun mf_X9_go lb_X9_go_36 (P := True) (pc' := if v6 = 0 then 39 else 42) (ls' := [some (.ref 249), some (.ref a1), some (.ref a2), some (.ref a3), some (.int a4), some (.int x5), some (.int x6)]) (st' := []) (M' := M6) rfl rfl trivial ?_
        refine hr_Gif h (fun _ h => ?_) (fun _ h => ?_)
        · refine hr_Grun mf_X9_go lb_X9_go_39 (P := True) (pc' := 51) (ls' := [some (.ref 249), some (.ref a1), some (.ref a2), some (.ref a3), some (.int a4), some (.int x5), some (.int x6)]) (st' := []) (M' := M6) rfl rfl trivial ?_
          refine hr_Grun mf_X9_go lb_X9_go_51 (P := True) (pc' := 53) (ls' := [some (.ref 249), some (.ref a1), some (.ref a2), some (.ref a3), some (.int a4), some (.int x5), some (.int x6)]) (st' := [.int x5]) (M' := M6) rfl rfl trivial ?_
          cases h
          exact hr_Gret mf_X9_go lb_X9_go_53 rfl rfl trivial
        · refine hr_Grun mf_X9_go lb_X9_go_42 (P := True) (pc' := 11) (ls' := [some (.ref 249), some (.ref a1), some (.ref a2), some (.ref a3), some (.int a4), some (.int (x5 + 1)), some (.int (x6 + 1))]) (st' := []) (M' := M6) rfl rfl trivial ?_
          exact ih (x5 + 1) (x6 + 1) M6 _ h
def f_X9_go (a1 : Nat) (a2 : Nat) (a3 : Nat) (a4 : Int32) (M : PM) : Option (Int32 × PM) :=
  if hr_K a1 = 3 then if hr_K a2 = 5 then if hr_K a3 = 5 then hr_bd (f_X9_begin a2 M) (fun v2 M2 =>
  f_X9_go_11 a1 a2 a3 a4 FU 0 0 M2) else none else none else none
theorem g_X9_go (a1 : Nat) (a2 : Nat) (a3 : Nat) (a4 : Int32) : ∀ (M : PM) (r : Int32 × PM), f_X9_go a1 a2 a3 a4 M = some r → hr_G 111 0 [some (.ref 249), some (.ref a1), some (.ref a2), some (.ref a3), some (.int a4), none, none] [] M (some (.int r.1), r.2) := by
  intro M r h
  unfold f_X9_go at h
  refine hr_Fg h (fun ka1 h => ?_)
  refine hr_Fg h (fun ka2 h => ?_)
  refine hr_Fg h (fun ka3 h => ?_)
  refine hr_Grun mf_X9_go lb_X9_go_0 (P := True) (pc' := 2) (ls' := [some (.ref 249), some (.ref a1), some (.ref a2), some (.ref a3), some (.int a4), none, none]) (st' := [.ref a2, .ref 249]) (M' := M) rfl rfl trivial ?_
  refine hr_Fb h (fun v2 M2 e2 h => ?_)
  refine hr_Gcv mf_X9_go mf_X9_begin lb_X9_go_2 (b := 249) (as := [.ref a2]) (rest := []) (st2 := []) (v := none) (M1 := M2) rfl rfl rfl rfl rfl rfl K_249 (g_X9_begin a2 _ _ e2) rfl rfl ?_
  refine hr_Grun mf_X9_go lb_X9_go_5 (P := True) (pc' := 11) (ls' := [some (.ref 249), some (.ref a1), some (.ref a2), some (.ref a3), some (.int a4), some (.int 0), some (.int 0)]) (st' := []) (M' := M2) rfl rfl trivial ?_
  exact g_X9_go_11 a1 a2 a3 a4 ka1 ka2 ka3 FU 0 0 M2 _ h
theorem mf_X9_answerOf : hr_mf 121 9 3 (some .int) 5 4 bk_X9_answerOf := ⟨rfl, rfl, rfl, rfl, rfl, rfl⟩
theorem lb_X9_answerOf_0 : bk_X9_answerOf.lookup 0 = some [(.iload_n 3, 1), (.tableswitch 163 1 6 #[39, 61, 83, 103, 123, 143], 39)] := rfl
theorem lb_X9_answerOf_40 : bk_X9_answerOf.lookup 40 = some [(.aload_n 2, 1), (.iload 4, 2)] := rfl
theorem lb_X9_answerOf_43 : bk_X9_answerOf.lookup 43 = some [(.invokevirtual 59, 3)] := rfl
theorem lb_X9_answerOf_46 : bk_X9_answerOf.lookup 46 = some [(.ifCond .eq 13, 3)] := rfl
theorem lb_X9_answerOf_49 : bk_X9_answerOf.lookup 49 = some [(.aload_n 0, 1), (.getfield 9, 3), (.iload 4, 2), (.iaload, 1), (.goto 5, 3)] := rfl
theorem lb_X9_answerOf_59 : bk_X9_answerOf.lookup 59 = some [(.bipush (-2), 2)] := rfl
theorem lb_X9_answerOf_61 : bk_X9_answerOf.lookup 61 = some [(.ireturn, 1)] := rfl
theorem lb_X9_answerOf_62 : bk_X9_answerOf.lookup 62 = some [(.aload_n 2, 1), (.iload 4, 2)] := rfl
theorem lb_X9_answerOf_65 : bk_X9_answerOf.lookup 65 = some [(.invokevirtual 59, 3)] := rfl
theorem lb_X9_answerOf_68 : bk_X9_answerOf.lookup 68 = some [(.ifCond .eq 13, 3)] := rfl
theorem lb_X9_answerOf_71 : bk_X9_answerOf.lookup 71 = some [(.aload_n 0, 1), (.getfield 15, 3), (.iload 4, 2), (.iaload, 1), (.goto 5, 3)] := rfl
theorem lb_X9_answerOf_81 : bk_X9_answerOf.lookup 81 = some [(.bipush (-2), 2)] := rfl
theorem lb_X9_answerOf_83 : bk_X9_answerOf.lookup 83 = some [(.ireturn, 1)] := rfl
theorem lb_X9_answerOf_84 : bk_X9_answerOf.lookup 84 = some [(.iload 4, 2), (.bipush 6, 2), (.if_icmp .ge 13, 3)] := rfl
theorem lb_X9_answerOf_91 : bk_X9_answerOf.lookup 91 = some [(.aload_n 0, 1), (.getfield 18, 3), (.iload 4, 2), (.iaload, 1), (.goto 5, 3)] := rfl
theorem lb_X9_answerOf_101 : bk_X9_answerOf.lookup 101 = some [(.bipush (-2), 2)] := rfl
theorem lb_X9_answerOf_103 : bk_X9_answerOf.lookup 103 = some [(.ireturn, 1)] := rfl
theorem lb_X9_answerOf_104 : bk_X9_answerOf.lookup 104 = some [(.iload 4, 2), (.bipush 6, 2), (.if_icmp .ge 13, 3)] := rfl
theorem lb_X9_answerOf_111 : bk_X9_answerOf.lookup 111 = some [(.aload_n 0, 1), (.getfield 21, 3), (.iload 4, 2), (.iaload, 1), (.goto 5, 3)] := rfl
theorem lb_X9_answerOf_121 : bk_X9_answerOf.lookup 121 = some [(.bipush (-2), 2)] := rfl
theorem lb_X9_answerOf_123 : bk_X9_answerOf.lookup 123 = some [(.ireturn, 1)] := rfl
theorem lb_X9_answerOf_124 : bk_X9_answerOf.lookup 124 = some [(.iload 4, 2), (.bipush 6, 2), (.if_icmp .ge 13, 3)] := rfl
theorem lb_X9_answerOf_131 : bk_X9_answerOf.lookup 131 = some [(.aload_n 0, 1), (.getfield 24, 3), (.iload 4, 2), (.iaload, 1), (.goto 5, 3)] := rfl
theorem lb_X9_answerOf_141 : bk_X9_answerOf.lookup 141 = some [(.bipush (-2), 2)] := rfl
theorem lb_X9_answerOf_143 : bk_X9_answerOf.lookup 143 = some [(.ireturn, 1)] := rfl
theorem lb_X9_answerOf_144 : bk_X9_answerOf.lookup 144 = some [(.iload 4, 2), (.iconst 4, 1), (.if_icmp .ge 14, 3)] := rfl
theorem lb_X9_answerOf_150 : bk_X9_answerOf.lookup 150 = some [(.aload_n 0, 1), (.aload_n 1, 1), (.aload_n 2, 1), (.iload 4, 2)] := rfl
theorem lb_X9_answerOf_155 : bk_X9_answerOf.lookup 155 = some [(.invokevirtual 86, 3)] := rfl
theorem lb_X9_answerOf_158 : bk_X9_answerOf.lookup 158 = some [(.goto 5, 3)] := rfl
theorem lb_X9_answerOf_161 : bk_X9_answerOf.lookup 161 = some [(.bipush (-2), 2)] := rfl
theorem lb_X9_answerOf_163 : bk_X9_answerOf.lookup 163 = some [(.ireturn, 1)] := rfl
theorem lb_X9_answerOf_164 : bk_X9_answerOf.lookup 164 = some [(.bipush (-2), 2)] := rfl
theorem lb_X9_answerOf_166 : bk_X9_answerOf.lookup 166 = some [(.ireturn, 1)] := rfl
def f_X9_answerOf (a1 : Nat) (a2 : Nat) (a3 : Int32) (a4 : Int32) (M : PM) : Option (Int32 × PM) :=
  if hr_K a1 = 3 then if hr_K a2 = 5 then if a3 = 1 then
    hr_bd (f_X6_has a2 a4 M) (fun v3 M3 =>
    if v3 = 0 then
      some ((-2), M3)
    else
      if inB a4 9 = true then 
      some ((M3.1 250 a4.toNatClampNeg), M3) else none)
  else if a3 = 2 then
    hr_bd (f_X6_has a2 a4 M) (fun v8 M8 =>
    if v8 = 0 then
      some ((-2), M8)
    else
      if inB a4 9 = true then 
      some ((M8.1 251 a4.toNatClampNeg), M8) else none)
  else if a3 = 3 then
    if 6 ≤ a4 then
      some ((-2), M)
    else
      if inB a4 6 = true then 
      some ((M.1 252 a4.toNatClampNeg), M) else none
  else if a3 = 4 then
    if 6 ≤ a4 then
      some ((-2), M)
    else
      if inB a4 6 = true then 
      some ((M.1 253 a4.toNatClampNeg), M) else none
  else if a3 = 5 then
    if 6 ≤ a4 then
      some ((-2), M)
    else
      if inB a4 6 = true then 
      some ((M.1 254 a4.toNatClampNeg), M) else none
  else if a3 = 6 then
    if 4 ≤ a4 then
      some ((-2), M)
    else
      hr_bd (f_X9_rashOf a1 a2 a4 M) (fun v24 M24 =>
      some (v24, M24))
  else 
    some ((-2), M) else none else none
theorem g_X9_answerOf (a1 : Nat) (a2 : Nat) (a3 : Int32) (a4 : Int32) : ∀ (M : PM) (r : Int32 × PM), f_X9_answerOf a1 a2 a3 a4 M = some r → hr_G 121 0 [some (.ref 249), some (.ref a1), some (.ref a2), some (.int a3), some (.int a4)] [] M (some (.int r.1), r.2) := by
  intro M r h
  unfold f_X9_answerOf at h
  refine hr_Fg h (fun ka1 h => ?_)
  refine hr_Fg h (fun ka2 h => ?_)
  refine hr_Grun mf_X9_answerOf lb_X9_answerOf_0 (P := True) (pc' := if a3 = 1 then 40 else if a3 = 2 then 62 else if a3 = 3 then 84 else if a3 = 4 then 104 else if a3 = 5 then 124 else if a3 = 6 then 144 else 164) (ls' := [some (.ref 249), some (.ref a1), some (.ref a2), some (.int a3), some (.int a4)]) (st' := []) (M' := M) rfl rfl trivial ?_
  refine hr_Gif h (fun _ h => ?_) (fun _ h => ?_)
  · refine hr_Grun mf_X9_answerOf lb_X9_answerOf_40 (P := True) (pc' := 43) (ls' := [some (.ref 249), some (.ref a1), some (.ref a2), some (.int a3), some (.int a4)]) (st' := [.int a4, .ref a2]) (M' := M) rfl rfl trivial ?_
    refine hr_Fb h (fun v3 M3 e3 h => ?_)
    refine hr_Gcv mf_X9_answerOf mf_X6_has lb_X9_answerOf_43 (b := a2) (as := [.int a4]) (rest := []) (st2 := [.int v3]) (v := some (.int v3)) (M1 := M3) rfl rfl rfl rfl rfl rfl ka2 (g_X6_has a2 a4 _ _ e3) rfl rfl ?_
    refine hr_Grun mf_X9_answerOf lb_X9_answerOf_46 (P := True) (pc' := if v3 = 0 then 59 else 49) (ls' := [some (.ref 249), some (.ref a1), some (.ref a2), some (.int a3), some (.int a4)]) (st' := []) (M' := M3) rfl rfl trivial ?_
    refine hr_Gif h (fun _ h => ?_) (fun _ h => ?_)
    · refine hr_Grun mf_X9_answerOf lb_X9_answerOf_59 (P := True) (pc' := 61) (ls' := [some (.ref 249), some (.ref a1), some (.ref a2), some (.int a3), some (.int a4)]) (st' := [.int (-2)]) (M' := M3) rfl rfl trivial ?_
      cases h
      exact hr_Gret mf_X9_answerOf lb_X9_answerOf_61 rfl rfl trivial
    · refine hr_Fg h (fun hg6_0 h => ?_)
      refine hr_Grun mf_X9_answerOf lb_X9_answerOf_49 (P := hr_K 249 = 8 ∧ (hr_K 250 = 12 ∧ vp_in a4 (hr_N 250)) ∧ True) (pc' := 61) (ls' := [some (.ref 249), some (.ref a1), some (.ref a2), some (.int a3), some (.int a4)]) (st' := [.int (M3.1 250 a4.toNatClampNeg)]) (M' := M3) rfl rfl ⟨K_249, ⟨K_250, (inB_N N_250 hg6_0)⟩, trivial⟩ ?_
      cases h
      exact hr_Gret mf_X9_answerOf lb_X9_answerOf_61 rfl rfl trivial
  refine hr_Gif h (fun _ h => ?_) (fun _ h => ?_)
  · refine hr_Grun mf_X9_answerOf lb_X9_answerOf_62 (P := True) (pc' := 65) (ls' := [some (.ref 249), some (.ref a1), some (.ref a2), some (.int a3), some (.int a4)]) (st' := [.int a4, .ref a2]) (M' := M) rfl rfl trivial ?_
    refine hr_Fb h (fun v8 M8 e8 h => ?_)
    refine hr_Gcv mf_X9_answerOf mf_X6_has lb_X9_answerOf_65 (b := a2) (as := [.int a4]) (rest := []) (st2 := [.int v8]) (v := some (.int v8)) (M1 := M8) rfl rfl rfl rfl rfl rfl ka2 (g_X6_has a2 a4 _ _ e8) rfl rfl ?_
    refine hr_Grun mf_X9_answerOf lb_X9_answerOf_68 (P := True) (pc' := if v8 = 0 then 81 else 71) (ls' := [some (.ref 249), some (.ref a1), some (.ref a2), some (.int a3), some (.int a4)]) (st' := []) (M' := M8) rfl rfl trivial ?_
    refine hr_Gif h (fun _ h => ?_) (fun _ h => ?_)
    · refine hr_Grun mf_X9_answerOf lb_X9_answerOf_81 (P := True) (pc' := 83) (ls' := [some (.ref 249), some (.ref a1), some (.ref a2), some (.int a3), some (.int a4)]) (st' := [.int (-2)]) (M' := M8) rfl rfl trivial ?_
      cases h
      exact hr_Gret mf_X9_answerOf lb_X9_answerOf_83 rfl rfl trivial
    · refine hr_Fg h (fun hg11_0 h => ?_)
      refine hr_Grun mf_X9_answerOf lb_X9_answerOf_71 (P := hr_K 249 = 8 ∧ (hr_K 251 = 12 ∧ vp_in a4 (hr_N 251)) ∧ True) (pc' := 83) (ls' := [some (.ref 249), some (.ref a1), some (.ref a2), some (.int a3), some (.int a4)]) (st' := [.int (M8.1 251 a4.toNatClampNeg)]) (M' := M8) rfl rfl ⟨K_249, ⟨K_251, (inB_N N_251 hg11_0)⟩, trivial⟩ ?_
      cases h
      exact hr_Gret mf_X9_answerOf lb_X9_answerOf_83 rfl rfl trivial
  refine hr_Gif h (fun _ h => ?_) (fun _ h => ?_)
  · refine hr_Grun mf_X9_answerOf lb_X9_answerOf_84 (P := True) (pc' := if 6 ≤ a4 then 101 else 91) (ls' := [some (.ref 249), some (.ref a1), some (.ref a2), some (.int a3), some (.int a4)]) (st' := []) (M' := M) rfl rfl trivial ?_
    refine hr_Gif h (fun _ h => ?_) (fun _ h => ?_)
    · refine hr_Grun mf_X9_answerOf lb_X9_answerOf_101 (P := True) (pc' := 103) (ls' := [some (.ref 249), some (.ref a1), some (.ref a2), some (.int a3), some (.int a4)]) (st' := [.int (-2)]) (M' := M) rfl rfl trivial ?_
      cases h
      exact hr_Gret mf_X9_answerOf lb_X9_answerOf_103 rfl rfl trivial
    · refine hr_Fg h (fun hg14_0 h => ?_)
      refine hr_Grun mf_X9_answerOf lb_X9_answerOf_91 (P := hr_K 249 = 8 ∧ (hr_K 252 = 12 ∧ vp_in a4 (hr_N 252)) ∧ True) (pc' := 103) (ls' := [some (.ref 249), some (.ref a1), some (.ref a2), some (.int a3), some (.int a4)]) (st' := [.int (M.1 252 a4.toNatClampNeg)]) (M' := M) rfl rfl ⟨K_249, ⟨K_252, (inB_N N_252 hg14_0)⟩, trivial⟩ ?_
      cases h
      exact hr_Gret mf_X9_answerOf lb_X9_answerOf_103 rfl rfl trivial
  refine hr_Gif h (fun _ h => ?_) (fun _ h => ?_)
  · refine hr_Grun mf_X9_answerOf lb_X9_answerOf_104 (P := True) (pc' := if 6 ≤ a4 then 121 else 111) (ls' := [some (.ref 249), some (.ref a1), some (.ref a2), some (.int a3), some (.int a4)]) (st' := []) (M' := M) rfl rfl trivial ?_
    refine hr_Gif h (fun _ h => ?_) (fun _ h => ?_)
    · refine hr_Grun mf_X9_answerOf lb_X9_answerOf_121 (P := True) (pc' := 123) (ls' := [some (.ref 249), some (.ref a1), some (.ref a2), some (.int a3), some (.int a4)]) (st' := [.int (-2)]) (M' := M) rfl rfl trivial ?_
      cases h
      exact hr_Gret mf_X9_answerOf lb_X9_answerOf_123 rfl rfl trivial
    · refine hr_Fg h (fun hg17_0 h => ?_)
      refine hr_Grun mf_X9_answerOf lb_X9_answerOf_111 (P := hr_K 249 = 8 ∧ (hr_K 253 = 12 ∧ vp_in a4 (hr_N 253)) ∧ True) (pc' := 123) (ls' := [some (.ref 249), some (.ref a1), some (.ref a2), some (.int a3), some (.int a4)]) (st' := [.int (M.1 253 a4.toNatClampNeg)]) (M' := M) rfl rfl ⟨K_249, ⟨K_253, (inB_N N_253 hg17_0)⟩, trivial⟩ ?_
      cases h
      exact hr_Gret mf_X9_answerOf lb_X9_answerOf_123 rfl rfl trivial
  refine hr_Gif h (fun _ h => ?_) (fun _ h => ?_)
  · refine hr_Grun mf_X9_answerOf lb_X9_answerOf_124 (P := True) (pc' := if 6 ≤ a4 then 141 else 131) (ls' := [some (.ref 249), some (.ref a1), some (.ref a2), some (.int a3), some (.int a4)]) (st' := []) (M' := M) rfl rfl trivial ?_
    refine hr_Gif h (fun _ h => ?_) (fun _ h => ?_)
    · refine hr_Grun mf_X9_answerOf lb_X9_answerOf_141 (P := True) (pc' := 143) (ls' := [some (.ref 249), some (.ref a1), some (.ref a2), some (.int a3), some (.int a4)]) (st' := [.int (-2)]) (M' := M) rfl rfl trivial ?_
      cases h
      exact hr_Gret mf_X9_answerOf lb_X9_answerOf_143 rfl rfl trivial
    · refine hr_Fg h (fun hg20_0 h => ?_)
      refine hr_Grun mf_X9_answerOf lb_X9_answerOf_131 (P := hr_K 249 = 8 ∧ (hr_K 254 = 12 ∧ vp_in a4 (hr_N 254)) ∧ True) (pc' := 143) (ls' := [some (.ref 249), some (.ref a1), some (.ref a2), some (.int a3), some (.int a4)]) (st' := [.int (M.1 254 a4.toNatClampNeg)]) (M' := M) rfl rfl ⟨K_249, ⟨K_254, (inB_N N_254 hg20_0)⟩, trivial⟩ ?_
      cases h
      exact hr_Gret mf_X9_answerOf lb_X9_answerOf_143 rfl rfl trivial
  refine hr_Gif h (fun _ h => ?_) (fun _ h => ?_)
  · refine hr_Grun mf_X9_answerOf lb_X9_answerOf_144 (P := True) (pc' := if 4 ≤ a4 then 161 else 150) (ls' := [some (.ref 249), some (.ref a1), some (.ref a2), some (.int a3), some (.int a4)]) (st' := []) (M' := M) rfl rfl trivial ?_
    refine hr_Gif h (fun _ h => ?_) (fun _ h => ?_)
    · refine hr_Grun mf_X9_answerOf lb_X9_answerOf_161 (P := True) (pc' := 163) (ls' := [some (.ref 249), some (.ref a1), some (.ref a2), some (.int a3), some (.int a4)]) (st' := [.int (-2)]) (M' := M) rfl rfl trivial ?_
      cases h
      exact hr_Gret mf_X9_answerOf lb_X9_answerOf_163 rfl rfl trivial
    · refine hr_Grun mf_X9_answerOf lb_X9_answerOf_150 (P := True) (pc' := 155) (ls' := [some (.ref 249), some (.ref a1), some (.ref a2), some (.int a3), some (.int a4)]) (st' := [.int a4, .ref a2, .ref a1, .ref 249]) (M' := M) rfl rfl trivial ?_
      refine hr_Fb h (fun v24 M24 e24 h => ?_)
      refine hr_Gcv mf_X9_answerOf mf_X9_rashOf lb_X9_answerOf_155 (b := 249) (as := [.ref a1, .ref a2, .int a4]) (rest := []) (st2 := [.int v24]) (v := some (.int v24)) (M1 := M24) rfl rfl rfl rfl rfl rfl K_249 (g_X9_rashOf a1 a2 a4 _ _ e24) rfl rfl ?_
      refine hr_Grun mf_X9_answerOf lb_X9_answerOf_158 (P := True) (pc' := 163) (ls' := [some (.ref 249), some (.ref a1), some (.ref a2), some (.int a3), some (.int a4)]) (st' := [.int v24]) (M' := M24) rfl rfl trivial ?_
      cases h
      exact hr_Gret mf_X9_answerOf lb_X9_answerOf_163 rfl rfl trivial
  · refine hr_Grun mf_X9_answerOf lb_X9_answerOf_164 (P := True) (pc' := 166) (ls' := [some (.ref 249), some (.ref a1), some (.ref a2), some (.int a3), some (.int a4)]) (st' := [.int (-2)]) (M' := M) rfl rfl trivial ?_
    cases h
    exact hr_Gret mf_X9_answerOf lb_X9_answerOf_166 rfl rfl trivial
theorem mf_X9_answer : hr_mf 120 9 4 (some .int) 4 3 bk_X9_answer := ⟨rfl, rfl, rfl, rfl, rfl, rfl⟩
theorem lb_X9_answer_0 : bk_X9_answer.lookup 0 = some [(.iload_n 3, 1), (.tableswitch 51 0 3 #[31, 36, 41, 46], 31)] := rfl
theorem lb_X9_answer_32 : bk_X9_answer.lookup 32 = some [(.aload_n 0, 1), (.getfield 47, 3)] := rfl
theorem lb_X9_answer_36 : bk_X9_answer.lookup 36 = some [(.ireturn, 1)] := rfl
theorem lb_X9_answer_37 : bk_X9_answer.lookup 37 = some [(.aload_n 0, 1), (.getfield 50, 3)] := rfl
theorem lb_X9_answer_41 : bk_X9_answer.lookup 41 = some [(.ireturn, 1)] := rfl
theorem lb_X9_answer_42 : bk_X9_answer.lookup 42 = some [(.aload_n 0, 1), (.getfield 53, 3)] := rfl
theorem lb_X9_answer_46 : bk_X9_answer.lookup 46 = some [(.ireturn, 1)] := rfl
theorem lb_X9_answer_47 : bk_X9_answer.lookup 47 = some [(.aload_n 0, 1), (.getfield 56, 3)] := rfl
theorem lb_X9_answer_51 : bk_X9_answer.lookup 51 = some [(.ireturn, 1)] := rfl
theorem lb_X9_answer_52 : bk_X9_answer.lookup 52 = some [(.iload_n 3, 1), (.bipush 10, 2), (.if_icmp .ge 8, 3)] := rfl
theorem lb_X9_answer_58 : bk_X9_answer.lookup 58 = some [(.bipush (-2), 2), (.goto 17, 3)] := rfl
theorem lb_X9_answer_63 : bk_X9_answer.lookup 63 = some [(.aload_n 0, 1), (.aload_n 1, 1), (.aload_n 2, 1), (.iload_n 3, 1), (.bipush 10, 2), (.idiv, 1), (.iload_n 3, 1), (.bipush 10, 2), (.irem, 1)] := rfl
theorem lb_X9_answer_74 : bk_X9_answer.lookup 74 = some [(.invokevirtual 116, 3)] := rfl
theorem lb_X9_answer_77 : bk_X9_answer.lookup 77 = some [(.ireturn, 1)] := rfl
def f_X9_answer (a1 : Nat) (a2 : Nat) (a3 : Int32) (M : PM) : Option (Int32 × PM) :=
  if hr_K a1 = 3 then if hr_K a2 = 5 then if a3 = 0 then
    some ((M.1 249 0), M)
  else if a3 = 1 then
    some ((M.1 249 1), M)
  else if a3 = 2 then
    some ((M.1 249 2), M)
  else if a3 = 3 then
    some ((M.1 249 3), M)
  else 
    if 10 ≤ a3 then
      hr_bd (f_X9_answerOf a1 a2 (a3 / 10) (jr a3 10) M) (fun v8 M8 =>
      some (v8, M8))
    else
      some ((-2), M) else none else none
theorem g_X9_answer (a1 : Nat) (a2 : Nat) (a3 : Int32) : ∀ (M : PM) (r : Int32 × PM), f_X9_answer a1 a2 a3 M = some r → hr_G 120 0 [some (.ref 249), some (.ref a1), some (.ref a2), some (.int a3)] [] M (some (.int r.1), r.2) := by
  intro M r h
  unfold f_X9_answer at h
  refine hr_Fg h (fun ka1 h => ?_)
  refine hr_Fg h (fun ka2 h => ?_)
  refine hr_Grun mf_X9_answer lb_X9_answer_0 (P := True) (pc' := if a3 = 0 then 32 else if a3 = 1 then 37 else if a3 = 2 then 42 else if a3 = 3 then 47 else 52) (ls' := [some (.ref 249), some (.ref a1), some (.ref a2), some (.int a3)]) (st' := []) (M' := M) rfl rfl trivial ?_
  refine hr_Gif h (fun _ h => ?_) (fun _ h => ?_)
  · refine hr_Grun mf_X9_answer lb_X9_answer_32 (P := hr_K 249 = 8 ∧ True) (pc' := 36) (ls' := [some (.ref 249), some (.ref a1), some (.ref a2), some (.int a3)]) (st' := [.int (M.1 249 0)]) (M' := M) rfl rfl ⟨K_249, trivial⟩ ?_
    cases h
    exact hr_Gret mf_X9_answer lb_X9_answer_36 rfl rfl trivial
  refine hr_Gif h (fun _ h => ?_) (fun _ h => ?_)
  · refine hr_Grun mf_X9_answer lb_X9_answer_37 (P := hr_K 249 = 8 ∧ True) (pc' := 41) (ls' := [some (.ref 249), some (.ref a1), some (.ref a2), some (.int a3)]) (st' := [.int (M.1 249 1)]) (M' := M) rfl rfl ⟨K_249, trivial⟩ ?_
    cases h
    exact hr_Gret mf_X9_answer lb_X9_answer_41 rfl rfl trivial
  refine hr_Gif h (fun _ h => ?_) (fun _ h => ?_)
  · refine hr_Grun mf_X9_answer lb_X9_answer_42 (P := hr_K 249 = 8 ∧ True) (pc' := 46) (ls' := [some (.ref 249), some (.ref a1), some (.ref a2), some (.int a3)]) (st' := [.int (M.1 249 2)]) (M' := M) rfl rfl ⟨K_249, trivial⟩ ?_
    cases h
    exact hr_Gret mf_X9_answer lb_X9_answer_46 rfl rfl trivial
  refine hr_Gif h (fun _ h => ?_) (fun _ h => ?_)
  · refine hr_Grun mf_X9_answer lb_X9_answer_47 (P := hr_K 249 = 8 ∧ True) (pc' := 51) (ls' := [some (.ref 249), some (.ref a1), some (.ref a2), some (.int a3)]) (st' := [.int (M.1 249 3)]) (M' := M) rfl rfl ⟨K_249, trivial⟩ ?_
    cases h
    exact hr_Gret mf_X9_answer lb_X9_answer_51 rfl rfl trivial
  · refine hr_Grun mf_X9_answer lb_X9_answer_52 (P := True) (pc' := if 10 ≤ a3 then 63 else 58) (ls' := [some (.ref 249), some (.ref a1), some (.ref a2), some (.int a3)]) (st' := []) (M' := M) rfl rfl trivial ?_
    refine hr_Gif h (fun _ h => ?_) (fun _ h => ?_)
    · refine hr_Grun mf_X9_answer lb_X9_answer_63 (P := ¬ (10 : Int32) = 0 ∧ ¬ (10 : Int32) = 0 ∧ True) (pc' := 74) (ls' := [some (.ref 249), some (.ref a1), some (.ref a2), some (.int a3)]) (st' := [.int (jr a3 10), .int (a3 / 10), .ref a2, .ref a1, .ref 249]) (M' := M) rfl rfl ⟨(by decide), (by decide), trivial⟩ ?_
      refine hr_Fb h (fun v8 M8 e8 h => ?_)
      refine hr_Gcv mf_X9_answer mf_X9_answerOf lb_X9_answer_74 (b := 249) (as := [.ref a1, .ref a2, .int (a3 / 10), .int (jr a3 10)]) (rest := []) (st2 := [.int v8]) (v := some (.int v8)) (M1 := M8) rfl rfl rfl rfl rfl rfl K_249 (g_X9_answerOf a1 a2 (a3 / 10) (jr a3 10) _ _ e8) rfl rfl ?_
      cases h
      exact hr_Gret mf_X9_answer lb_X9_answer_77 rfl rfl trivial
    · refine hr_Grun mf_X9_answer lb_X9_answer_58 (P := True) (pc' := 77) (ls' := [some (.ref 249), some (.ref a1), some (.ref a2), some (.int a3)]) (st' := [.int (-2)]) (M' := M) rfl rfl trivial ?_
      cases h
      exact hr_Gret mf_X9_answer lb_X9_answer_77 rfl rfl trivial
