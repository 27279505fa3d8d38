/-! printed by wip/whole/gen/gen20.py: methods as functions of the pure memory -/
theorem mf_X11_areaOf : hr_mf 224 11 0 (some .int) 2 1 bk_X11_areaOf := ⟨rfl, rfl, rfl, rfl, rfl, rfl⟩
theorem lb_X11_areaOf_0 : bk_X11_areaOf.lookup 0 = some [(.aload_n 0, 1), (.getfield 29, 3), (.bipush 20, 2), (.aload_n 0, 1), (.getfield 341, 3), (.imul, 1), (.iconst 3, 1), (.iadd, 1), (.iconst 2, 1), (.iload_n 1, 1), (.imul, 1), (.iadd, 1), (.iaload, 1)] := rfl
theorem lb_X11_areaOf_18 : bk_X11_areaOf.lookup 18 = some [(.ireturn, 1)] := rfl
def f_X11_areaOf (a1 : Int32) (M : PM) : Option (Int32 × PM) :=
  if inB (((20 * (M.1 275 28)) + 3) + (2 * a1)) 160 = true then 
  some ((M.1 282 (((20 * (M.1 275 28)) + 3) + (2 * a1)).toNatClampNeg), M) else none
theorem g_X11_areaOf (a1 : Int32) : ∀ (M : PM) (r : Int32 × PM), f_X11_areaOf a1 M = some r → hr_G 224 0 [some (.ref 275), some (.int a1)] [] M (some (.int r.1), r.2) := by
  intro M r h
  unfold f_X11_areaOf at h
  refine hr_Fg h (fun hg1_0 h => ?_)
  refine hr_Grun mf_X11_areaOf lb_X11_areaOf_0 (P := hr_K 275 = 10 ∧ hr_K 275 = 10 ∧ (hr_K 282 = 12 ∧ vp_in (((20 * (M.1 275 28)) + 3) + (2 * a1)) (hr_N 282)) ∧ True) (pc' := 18) (ls' := [some (.ref 275), some (.int a1)]) (st' := [.int (M.1 282 (((20 * (M.1 275 28)) + 3) + (2 * a1)).toNatClampNeg)]) (M' := M) rfl rfl ⟨K_275, K_275, ⟨K_282, (inB_N N_282 hg1_0)⟩, trivial⟩ ?_
  cases h
  exact hr_Gret mf_X11_areaOf lb_X11_areaOf_18 rfl rfl trivial
theorem mf_X11_hasGallery : hr_mf 225 11 2 (some .boolean) 2 1 bk_X11_hasGallery := ⟨rfl, rfl, rfl, rfl, rfl, rfl⟩
theorem lb_X11_hasGallery_0 : bk_X11_hasGallery.lookup 0 = some [(.aload_n 0, 1), (.iload_n 1, 1), (.putfield 341, 3), (.aload_n 0, 1), (.iconst 1, 1), (.iload_n 1, 1)] := rfl
theorem lb_X11_hasGallery_8 : bk_X11_hasGallery.lookup 8 = some [(.invokevirtual 269, 3)] := rfl
theorem lb_X11_hasGallery_11 : bk_X11_hasGallery.lookup 11 = some [(.ireturn, 1)] := rfl
def f_X11_hasGallery (a1 : Int32) (M : PM) : Option (Int32 × PM) :=
  hr_bd (f_X11_is 1 a1 (hr_si M 275 28 a1)) (fun v2 M2 =>
  if v2 = 0 ∨ v2 = 1 then some (v2, M2) else none)
theorem g_X11_hasGallery (a1 : Int32) : ∀ (M : PM) (r : Int32 × PM), f_X11_hasGallery a1 M = some r → hr_G 225 0 [some (.ref 275), some (.int a1)] [] M (some (.int r.1), r.2) := by
  intro M r h
  unfold f_X11_hasGallery at h
  refine hr_Grun mf_X11_hasGallery lb_X11_hasGallery_0 (P := (hr_K 275 = 10 ∧ 275 < hr_n) ∧ True) (pc' := 8) (ls' := [some (.ref 275), some (.int a1)]) (st' := [.int a1, .int 1, .ref 275]) (M' := hr_si M 275 28 a1) rfl rfl ⟨⟨K_275, L_275⟩, trivial⟩ ?_
  refine hr_Fb h (fun v2 M2 e2 h => ?_)
  refine hr_Gcv mf_X11_hasGallery mf_X11_is lb_X11_hasGallery_8 (b := 275) (as := [.int 1, .int a1]) (rest := []) (st2 := [.int v2]) (v := some (.int v2)) (M1 := M2) rfl rfl rfl rfl rfl rfl K_275 (g_X11_is 1 a1 _ _ e2) rfl rfl ?_
  refine hr_Fg h (fun hz h => ?_)
  cases h
  exact hr_Gret mf_X11_hasGallery lb_X11_hasGallery_11 rfl rfl hz
theorem mf_X11_gallery : hr_mf 226 11 3 (some .int) 4 2 bk_X11_gallery := ⟨rfl, rfl, rfl, rfl, rfl, rfl⟩
theorem lb_X11_gallery_0 : bk_X11_gallery.lookup 0 = some [(.aload_n 0, 1), (.iconst 0, 1), (.putfield 100, 3), (.aload_n 0, 1), (.iload_n 1, 1)] := rfl
theorem lb_X11_gallery_7 : bk_X11_gallery.lookup 7 = some [(.invokevirtual 344, 3)] := rfl
theorem lb_X11_gallery_10 : bk_X11_gallery.lookup 10 = some [(.ifCond .ne 5, 3)] := rfl
theorem lb_X11_gallery_13 : bk_X11_gallery.lookup 13 = some [(.iconst (-1), 1)] := rfl
theorem lb_X11_gallery_14 : bk_X11_gallery.lookup 14 = some [(.ireturn, 1)] := rfl
theorem lb_X11_gallery_15 : bk_X11_gallery.lookup 15 = some [(.aload_n 0, 1)] := rfl
theorem lb_X11_gallery_16 : bk_X11_gallery.lookup 16 = some [(.invokevirtual 347, 3)] := rfl
theorem lb_X11_gallery_19 : bk_X11_gallery.lookup 19 = some [(.istore_n 3, 1), (.iload_n 2, 1), (.ifCond .ne 7, 3)] := rfl
theorem lb_X11_gallery_24 : bk_X11_gallery.lookup 24 = some [(.iload_n 3, 1), (.goto 64, 3)] := rfl
theorem lb_X11_gallery_28 : bk_X11_gallery.lookup 28 = some [(.iload_n 2, 1), (.iconst 1, 1), (.if_icmp .ne 10, 3)] := rfl
theorem lb_X11_gallery_33 : bk_X11_gallery.lookup 33 = some [(.aload_n 0, 1)] := rfl
theorem lb_X11_gallery_34 : bk_X11_gallery.lookup 34 = some [(.invokevirtual 350, 3)] := rfl
theorem lb_X11_gallery_37 : bk_X11_gallery.lookup 37 = some [(.goto 52, 3)] := rfl
theorem lb_X11_gallery_40 : bk_X11_gallery.lookup 40 = some [(.iload_n 2, 1), (.bipush 10, 2), (.bipush 9, 2), (.iload_n 3, 1), (.iadd, 1)] := rfl
theorem lb_X11_gallery_47 : bk_X11_gallery.lookup 47 = some [(.invokestatic 112, 3)] := rfl
theorem lb_X11_gallery_50 : bk_X11_gallery.lookup 50 = some [(.ifCond .eq 14, 3)] := rfl
theorem lb_X11_gallery_53 : bk_X11_gallery.lookup 53 = some [(.aload_n 0, 1), (.iload_n 2, 1), (.bipush 10, 2), (.isub, 1)] := rfl
theorem lb_X11_gallery_58 : bk_X11_gallery.lookup 58 = some [(.invokevirtual 353, 3)] := rfl
theorem lb_X11_gallery_61 : bk_X11_gallery.lookup 61 = some [(.goto 28, 3)] := rfl
theorem lb_X11_gallery_64 : bk_X11_gallery.lookup 64 = some [(.iload_n 2, 1), (.bipush 20, 2), (.bipush 19, 2), (.iload_n 3, 1), (.iadd, 1)] := rfl
theorem lb_X11_gallery_71 : bk_X11_gallery.lookup 71 = some [(.invokestatic 112, 3)] := rfl
theorem lb_X11_gallery_74 : bk_X11_gallery.lookup 74 = some [(.ifCond .eq 14, 3)] := rfl
theorem lb_X11_gallery_77 : bk_X11_gallery.lookup 77 = some [(.aload_n 0, 1), (.iload_n 2, 1), (.bipush 20, 2), (.isub, 1)] := rfl
theorem lb_X11_gallery_82 : bk_X11_gallery.lookup 82 = some [(.invokevirtual 356, 3)] := rfl
theorem lb_X11_gallery_85 : bk_X11_gallery.lookup 85 = some [(.goto 4, 3)] := rfl
theorem lb_X11_gallery_88 : bk_X11_gallery.lookup 88 = some [(.iconst (-1), 1)] := rfl
theorem lb_X11_gallery_89 : bk_X11_gallery.lookup 89 = some [(.ireturn, 1)] := rfl
def f_X11_gallery (a1 : Int32) (a2 : Int32) (M : PM) : Option (Int32 × PM) :=
  hr_bd (f_X11_hasGallery a1 (hr_si M 275 0 0)) (fun v2 M2 =>
  if v2 = 0 then
    some ((-1), M2)
  else
    hr_bd (f_X11_pictures M2) (fun v6 M6 =>
    if a2 = 0 then
      some (v6, M6)
    else
      if a2 = 1 then
        hr_bd (f_X11_limit M6) (fun v11 M11 =>
        some (v11, M11))
      else
        hr_bd (f_X11_in a2 10 (9 + v6) M6) (fun v14 M14 =>
        if v14 = 0 then
          hr_bd (f_X11_in a2 20 (19 + v6) M14) (fun v17 M17 =>
          if v17 = 0 then
            some ((-1), M17)
          else
            hr_bd (f_X11_areaOf (a2 - 20) M17) (fun v21 M21 =>
            some (v21, M21)))
        else
          hr_bd (f_X11_hueOf (a2 - 10) M14) (fun v24 M24 =>
          some (v24, M24)))))
theorem g_X11_gallery (a1 : Int32) (a2 : Int32) : ∀ (M : PM) (r : Int32 × PM), f_X11_gallery a1 a2 M = some r → hr_G 226 0 [some (.ref 275), some (.int a1), some (.int a2), none] [] M (some (.int r.1), r.2) := by
  intro M r h
  unfold f_X11_gallery at h
  refine hr_Grun mf_X11_gallery lb_X11_gallery_0 (P := (hr_K 275 = 10 ∧ 275 < hr_n) ∧ True) (pc' := 7) (ls' := [some (.ref 275), some (.int a1), some (.int a2), none]) (st' := [.int a1, .ref 275]) (M' := hr_si M 275 0 0) rfl rfl ⟨⟨K_275, L_275⟩, trivial⟩ ?_
  refine hr_Fb h (fun v2 M2 e2 h => ?_)
  refine hr_Gcv mf_X11_gallery mf_X11_hasGallery lb_X11_gallery_7 (b := 275) (as := [.int a1]) (rest := []) (st2 := [.int v2]) (v := some (.int v2)) (M1 := M2) rfl rfl rfl rfl rfl rfl K_275 (g_X11_hasGallery a1 _ _ e2) rfl rfl ?_
  refine hr_Grun mf_X11_gallery lb_X11_gallery_10 (P := True) (pc' := if v2 = 0 then 13 else 15) (ls' := [some (.ref 275), some (.int a1), some (.int a2), none]) (st' := []) (M' := M2) rfl rfl trivial ?_
  refine hr_Gif h (fun _ h => ?_) (fun _ h => ?_)
  · refine hr_Grun mf_X11_gallery lb_X11_gallery_13 (P := True) (pc' := 14) (ls' := [some (.ref 275), some (.int a1), some (.int a2), none]) (st' := [.int (-1)]) (M' := M2) rfl rfl trivial ?_
    cases h
    exact hr_Gret mf_X11_gallery lb_X11_gallery_14 rfl rfl trivial
  · refine hr_Grun mf_X11_gallery lb_X11_gallery_15 (P := True) (pc' := 16) (ls' := [some (.ref 275), some (.int a1), some (.int a2), none]) (st' := [.ref 275]) (M' := M2) rfl rfl trivial ?_
    refine hr_Fb h (fun v6 M6 e6 h => ?_)
    refine hr_Gcv mf_X11_gallery mf_X11_pictures lb_X11_gallery_16 (b := 275) (as := []) (rest := []) (st2 := [.int v6]) (v := some (.int v6)) (M1 := M6) rfl rfl rfl rfl rfl rfl K_275 (g_X11_pictures  _ _ e6) rfl rfl ?_
    refine hr_Grun mf_X11_gallery lb_X11_gallery_19 (P := True) (pc' := if a2 = 0 then 24 else 28) (ls' := [some (.ref 275), some (.int a1), some (.int a2), some (.int v6)]) (st' := []) (M' := M6) rfl rfl trivial ?_
    refine hr_Gif h (fun _ h => ?_) (fun _ h => ?_)
    · refine hr_Grun mf_X11_gallery lb_X11_gallery_24 (P := True) (pc' := 89) (ls' := [some (.ref 275), some (.int a1), some (.int a2), some (.int v6)]) (st' := [.int v6]) (M' := M6) rfl rfl trivial ?_
      cases h
      exact hr_Gret mf_X11_gallery lb_X11_gallery_89 rfl rfl trivial
    · refine hr_Grun mf_X11_gallery lb_X11_gallery_28 (P := True) (pc' := if a2 = 1 then 33 else 40) (ls' := [some (.ref 275), some (.int a1), some (.int a2), some (.int v6)]) (st' := []) (M' := M6) rfl rfl trivial ?_
      refine hr_Gif h (fun _ h => ?_) (fun _ h => ?_)
      · refine hr_Grun mf_X11_gallery lb_X11_gallery_33 (P := True) (pc' := 34) (ls' := [some (.ref 275), some (.int a1), some (.int a2), some (.int v6)]) (st' := [.ref 275]) (M' := M6) rfl rfl trivial ?_
        refine hr_Fb h (fun v11 M11 e11 h => ?_)
        refine hr_Gcv mf_X11_gallery mf_X11_limit lb_X11_gallery_34 (b := 275) (as := []) (rest := []) (st2 := [.int v11]) (v := some (.int v11)) (M1 := M11) rfl rfl rfl rfl rfl rfl K_275 (g_X11_limit  _ _ e11) rfl rfl ?_
        refine hr_Grun mf_X11_gallery lb_X11_gallery_37 (P := True) (pc' := 89) (ls' := [some (.ref 275), some (.int a1), some (.int a2), some (.int v6)]) (st' := [.int v11]) (M' := M11) rfl rfl trivial ?_
        cases h
        exact hr_Gret mf_X11_gallery lb_X11_gallery_89 rfl rfl trivial
      · refine hr_Grun mf_X11_gallery lb_X11_gallery_40 (P := True) (pc' := 47) (ls' := [some (.ref 275), some (.int a1), some (.int a2), some (.int v6)]) (st' := [.int (9 + v6), .int 10, .int a2]) (M' := M6) rfl rfl trivial ?_
        refine hr_Fb h (fun v14 M14 e14 h => ?_)
        refine hr_Gcs mf_X11_gallery mf_X11_in lb_X11_gallery_47 (as := [.int a2, .int 10, .int (9 + v6)]) (rest := []) (st2 := [.int v14]) (v := some (.int v14)) (M1 := M14) rfl rfl rfl rfl rfl rfl (g_X11_in a2 10 (9 + v6) _ _ e14) rfl rfl ?_
        refine hr_Grun mf_X11_gallery lb_X11_gallery_50 (P := True) (pc' := if v14 = 0 then 64 else 53) (ls' := [some (.ref 275), some (.int a1), some (.int a2), some (.int v6)]) (st' := []) (M' := M14) rfl rfl trivial ?_
        refine hr_Gif h (fun _ h => ?_) (fun _ h => ?_)
        · refine hr_Grun mf_X11_gallery lb_X11_gallery_64 (P := True) (pc' := 71) (ls' := [some (.ref 275), some (.int a1), some (.int a2), some (.int v6)]) (st' := [.int (19 + v6), .int 20, .int a2]) (M' := M14) rfl rfl trivial ?_
          refine hr_Fb h (fun v17 M17 e17 h => ?_)
          refine hr_Gcs mf_X11_gallery mf_X11_in lb_X11_gallery_71 (as := [.int a2, .int 20, .int (19 + v6)]) (rest := []) (st2 := [.int v17]) (v := some (.int v17)) (M1 := M17) rfl rfl rfl rfl rfl rfl (g_X11_in a2 20 (19 + v6) _ _ e17) rfl rfl ?_
          refine hr_Grun mf_X11_gallery lb_X11_gallery_74 (P := True) (pc' := if v17 = 0 then 88 else 77) (ls' := [some (.ref 275), some (.int a1), some (.int a2), some (.int v6)]) (st' := []) (M' := M17) rfl rfl trivial ?_
          refine hr_Gif h (fun _ h => ?_) (fun _ h => ?_)
          · refine hr_Grun mf_X11_gallery lb_X11_gallery_88 (P := True) (pc' := 89) (ls' := [some (.ref 275), some (.int a1), some (.int a2), some (.int v6)]) (st' := [.int (-1)]) (M' := M17) rfl rfl trivial ?_
            cases h
            exact hr_Gret mf_X11_gallery lb_X11_gallery_89 rfl rfl trivial
          · refine hr_Grun mf_X11_gallery lb_X11_gallery_77 (P := True) (pc' := 82) (ls' := [some (.ref 275), some (.int a1), some (.int a2), some (.int v6)]) (st' := [.int (a2 - 20), .ref 275]) (M' := M17) rfl rfl trivial ?_
            refine hr_Fb h (fun v21 M21 e21 h => ?_)
            refine hr_Gcv mf_X11_gallery mf_X11_areaOf lb_X11_gallery_82 (b := 275) (as := [.int (a2 - 20)]) (rest := []) (st2 := [.int v21]) (v := some (.int v21)) (M1 := M21) rfl rfl rfl rfl rfl rfl K_275 (g_X11_areaOf (a2 - 20) _ _ e21) rfl rfl ?_
            refine hr_Grun mf_X11_gallery lb_X11_gallery_85 (P := True) (pc' := 89) (ls' := [some (.ref 275), some (.int a1), some (.int a2), some (.int v6)]) (st' := [.int v21]) (M' := M21) rfl rfl trivial ?_
            cases h
            exact hr_Gret mf_X11_gallery lb_X11_gallery_89 rfl rfl trivial
        · refine hr_Grun mf_X11_gallery lb_X11_gallery_53 (P := True) (pc' := 58) (ls' := [some (.ref 275), some (.int a1), some (.int a2), some (.int v6)]) (st' := [.int (a2 - 10), .ref 275]) (M' := M14) rfl rfl trivial ?_
          refine hr_Fb h (fun v24 M24 e24 h => ?_)
          refine hr_Gcv mf_X11_gallery mf_X11_hueOf lb_X11_gallery_58 (b := 275) (as := [.int (a2 - 10)]) (rest := []) (st2 := [.int v24]) (v := some (.int v24)) (M1 := M24) rfl rfl rfl rfl rfl rfl K_275 (g_X11_hueOf (a2 - 10) _ _ e24) rfl rfl ?_
          refine hr_Grun mf_X11_gallery lb_X11_gallery_61 (P := True) (pc' := 89) (ls' := [some (.ref 275), some (.int a1), some (.int a2), some (.int v6)]) (st' := [.int v24]) (M' := M24) rfl rfl trivial ?_
          cases h
          exact hr_Gret mf_X11_gallery lb_X11_gallery_89 rfl rfl trivial
theorem mf_X11_layGallery : hr_mf 227 11 4 (some .boolean) 4 2 bk_X11_layGallery := ⟨rfl, rfl, rfl, rfl, rfl, rfl⟩
theorem lb_X11_layGallery_0 : bk_X11_layGallery.lookup 0 = some [(.aload_n 0, 1), (.iload_n 2, 1)] := rfl
theorem lb_X11_layGallery_2 : bk_X11_layGallery.lookup 2 = some [(.invokevirtual 344, 3)] := rfl
theorem lb_X11_layGallery_5 : bk_X11_layGallery.lookup 5 = some [(.ifCond .eq 11, 3)] := rfl
theorem lb_X11_layGallery_8 : bk_X11_layGallery.lookup 8 = some [(.aload_n 0, 1), (.iload_n 1, 1)] := rfl
theorem lb_X11_layGallery_10 : bk_X11_layGallery.lookup 10 = some [(.invokevirtual 326, 3)] := rfl
theorem lb_X11_layGallery_13 : bk_X11_layGallery.lookup 13 = some [(.ifCond .ne 5, 3)] := rfl
theorem lb_X11_layGallery_16 : bk_X11_layGallery.lookup 16 = some [(.iconst 0, 1)] := rfl
theorem lb_X11_layGallery_17 : bk_X11_layGallery.lookup 17 = some [(.ireturn, 1)] := rfl
theorem lb_X11_layGallery_18 : bk_X11_layGallery.lookup 18 = some [(.iconst 0, 1), (.istore_n 3, 1)] := rfl
theorem lb_X11_layGallery_20 : bk_X11_layGallery.lookup 20 = some [(.iload_n 3, 1), (.aload_n 0, 1)] := rfl
theorem lb_X11_layGallery_22 : bk_X11_layGallery.lookup 22 = some [(.invokevirtual 347, 3)] := rfl
theorem lb_X11_layGallery_25 : bk_X11_layGallery.lookup 25 = some [(.if_icmp .ge 23, 3)] := rfl
theorem lb_X11_layGallery_28 : bk_X11_layGallery.lookup 28 = some [(.aload_n 0, 1), (.aload_n 0, 1), (.iload_n 3, 1)] := rfl
theorem lb_X11_layGallery_31 : bk_X11_layGallery.lookup 31 = some [(.invokevirtual 353, 3)] := rfl
theorem lb_X11_layGallery_34 : bk_X11_layGallery.lookup 34 = some [(.invokevirtual 329, 3)] := rfl
theorem lb_X11_layGallery_37 : bk_X11_layGallery.lookup 37 = some [(.ifCond .ne 5, 3)] := rfl
theorem lb_X11_layGallery_40 : bk_X11_layGallery.lookup 40 = some [(.iconst 0, 1)] := rfl
theorem lb_X11_layGallery_41 : bk_X11_layGallery.lookup 41 = some [(.ireturn, 1)] := rfl
theorem lb_X11_layGallery_42 : bk_X11_layGallery.lookup 42 = some [(.iinc 3 1, 3), (.goto (-25), 3)] := rfl
theorem lb_X11_layGallery_48 : bk_X11_layGallery.lookup 48 = some [(.iconst 1, 1)] := rfl
theorem lb_X11_layGallery_49 : bk_X11_layGallery.lookup 49 = some [(.ireturn, 1)] := rfl
def f_X11_layGallery_20 (a1 : Int32) (a2 : Int32) : Nat → Int32 → PM → Option (Int32 × PM)
  | 0, _, _ => none
  | f + 1, x3, M =>
    hr_bd (f_X11_pictures M) (fun v2 M2 =>
    if v2 ≤ x3 then
      some (1, M2)
    else
      hr_bd (f_X11_hueOf x3 M2) (fun v6 M6 =>
      hr_bd (f_X11_isHue v6 M6) (fun v7 M7 =>
      if v7 = 0 then
        some (0, M7)
      else
        f_X11_layGallery_20 a1 a2 f (x3 + 1) M7)))
theorem g_X11_layGallery_20 (a1 : Int32) (a2 : Int32)  : ∀ (f : Nat) (x3 : Int32) (M : PM) (r : Int32 × PM), f_X11_layGallery_20 a1 a2 f x3 M = some r → hr_G 227 20 [some (.ref 275), none, none, some (.int x3)] [] M (some (.int r.1), r.2) := by
  intro f
  induction f with
  | zero => intro x3 M r h; cases h
  | succ f ih =>
    intro x3 M r h
    rw [f_X11_layGallery_20.eq_2] at h
    refine hr_Grun mf_X11_layGallery lb_X11_layGallery_20 (P := True) (pc' := 22) (ls' := [some (.ref 275), none, none, some (.int x3)]) (st' := [.ref 275, .int x3]) (M' := M) rfl rfl trivial ?_
    refine hr_Fb h (fun v2 M2 e2 h => ?_)
    refine hr_Gcv mf_X11_layGallery mf_X11_pictures lb_X11_layGallery_22 (b := 275) (as := []) (rest := [.int x3]) (st2 := [.int v2, .int x3]) (v := some (.int v2)) (M1 := M2) rfl rfl rfl rfl rfl rfl K_275 (g_X11_pictures  _ _ e2) rfl rfl ?_
    refine hr_Grun mf_X11_layGallery lb_X11_layGallery_25 (P := True) (pc' := if v2 ≤ x3 then 48 else 28) (ls' := [some (.ref 275), none, none, some (.int x3)]) (st' := []) (M' := M2) rfl rfl trivial ?_
    refine hr_Gif h (fun _ h => ?_) (fun _ h => ?_)
    · refine hr_Grun mf_X11_layGallery lb_X11_layGallery_48 (P := True) (pc' := 49) (ls' := [some (.ref 275), none, none, some (.int x3)]) (st' := [.int 1]) (M' := M2) rfl rfl trivial ?_
      cases h
      exact hr_Gret mf_X11_layGallery lb_X11_layGallery_49 rfl rfl (Or.inr rfl)
    · refine hr_Grun mf_X11_layGallery lb_X11_layGallery_28 (P := True) (pc' := 31) (ls' := [some (.ref 275), none, none, some (.int x3)]) (st' := [.int x3, .ref 275, .ref 275]) (M' := M2) rfl rfl trivial ?_
      refine hr_Fb h (fun v6 M6 e6 h => ?_)
      refine hr_Gcv mf_X11_layGallery mf_X11_hueOf lb_X11_layGallery_31 (b := 275) (as := [.int x3]) (rest := [.ref 275]) (st2 := [.int v6, .ref 275]) (v := some (.int v6)) (M1 := M6) rfl rfl rfl rfl rfl rfl K_275 (g_X11_hueOf x3 _ _ e6) rfl rfl ?_
      refine hr_Fb h (fun v7 M7 e7 h => ?_)
      refine hr_Gcv mf_X11_layGallery mf_X11_isHue lb_X11_layGallery_34 (b := 275) (as := [.int v6]) (rest := []) (st2 := [.int v7]) (v := some (.int v7)) (M1 := M7) rfl rfl rfl rfl rfl rfl K_275 (g_X11_isHue v6 _ _ e7) rfl rfl ?_
      refine hr_Grun mf_X11_layGallery lb_X11_layGallery_37 (P := True) (pc' := if v7 = 0 then 40 else 42) (ls' := [some (.ref 275), none, none, some (.int x3)]) (st' := []) (M' := M7) rfl rfl trivial ?_
      refine hr_Gif h (fun _ h => ?_) (fun _ h => ?_)
      · refine hr_Grun mf_X11_layGallery lb_X11_layGallery_40 (P := True) (pc' := 41) (ls' := [some (.ref 275), none, none, some (.int x3)]) (st' := [.int 0]) (M' := M7) rfl rfl trivial ?_
        cases h
        exact hr_Gret mf_X11_layGallery lb_X11_layGallery_41 rfl rfl (Or.inl rfl)
      · refine hr_Grun mf_X11_layGallery lb_X11_layGallery_42 (P := True) (pc' := 20) (ls' := [some (.ref 275), none, none, some (.int (x3 + 1))]) (st' := []) (M' := M7) rfl rfl trivial ?_
        exact ih (x3 + 1) M7 _ h
def f_X11_layGallery (a1 : Int32) (a2 : Int32) (M : PM) : Option (Int32 × PM) :=
  hr_bd (f_X11_hasGallery a2 M) (fun v2 M2 =>
  if v2 = 0 then
    some (0, M2)
  else
    hr_bd (f_X11_hand a1 M2) (fun v6 M6 =>
    if v6 = 0 then
      some (0, M6)
    else
      f_X11_layGallery_20 a1 a2 FU 0 M6))
theorem g_X11_layGallery (a1 : Int32) (a2 : Int32) : ∀ (M : PM) (r : Int32 × PM), f_X11_layGallery a1 a2 M = some r → hr_G 227 0 [some (.ref 275), some (.int a1), some (.int a2), none] [] M (some (.int r.1), r.2) := by
  intro M r h
  unfold f_X11_layGallery at h
  refine hr_Grun mf_X11_layGallery lb_X11_layGallery_0 (P := True) (pc' := 2) (ls' := [some (.ref 275), some (.int a1), some (.int a2), none]) (st' := [.int a2, .ref 275]) (M' := M) rfl rfl trivial ?_
  refine hr_Fb h (fun v2 M2 e2 h => ?_)
  refine hr_Gcv mf_X11_layGallery mf_X11_hasGallery lb_X11_layGallery_2 (b := 275) (as := [.int a2]) (rest := []) (st2 := [.int v2]) (v := some (.int v2)) (M1 := M2) rfl rfl rfl rfl rfl rfl K_275 (g_X11_hasGallery a2 _ _ e2) rfl rfl ?_
  refine hr_Grun mf_X11_layGallery lb_X11_layGallery_5 (P := True) (pc' := if v2 = 0 then 16 else 8) (ls' := [some (.ref 275), some (.int a1), some (.int a2), none]) (st' := []) (M' := M2) rfl rfl trivial ?_
  refine hr_Gif h (fun _ h => ?_) (fun _ h => ?_)
  · refine hr_Grun mf_X11_layGallery lb_X11_layGallery_16 (P := True) (pc' := 17) (ls' := [some (.ref 275), some (.int a1), some (.int a2), none]) (st' := [.int 0]) (M' := M2) rfl rfl trivial ?_
    cases h
    exact hr_Gret mf_X11_layGallery lb_X11_layGallery_17 rfl rfl (Or.inl rfl)
  · refine hr_Grun mf_X11_layGallery lb_X11_layGallery_8 (P := True) (pc' := 10) (ls' := [some (.ref 275), some (.int a1), some (.int a2), none]) (st' := [.int a1, .ref 275]) (M' := M2) rfl rfl trivial ?_
    refine hr_Fb h (fun v6 M6 e6 h => ?_)
    refine hr_Gcv mf_X11_layGallery mf_X11_hand lb_X11_layGallery_10 (b := 275) (as := [.int a1]) (rest := []) (st2 := [.int v6]) (v := some (.int v6)) (M1 := M6) rfl rfl rfl rfl rfl rfl K_275 (g_X11_hand a1 _ _ e6) rfl rfl ?_
    refine hr_Grun mf_X11_layGallery lb_X11_layGallery_13 (P := True) (pc' := if v6 = 0 then 16 else 18) (ls' := [some (.ref 275), some (.int a1), some (.int a2), none]) (st' := []) (M' := M6) rfl rfl trivial ?_
    refine hr_Gif h (fun _ h => ?_) (fun _ h => ?_)
    · refine hr_Grun mf_X11_layGallery lb_X11_layGallery_16 (P := True) (pc' := 17) (ls' := [some (.ref 275), some (.int a1), some (.int a2), none]) (st' := [.int 0]) (M' := M6) rfl rfl trivial ?_
      cases h
      exact hr_Gret mf_X11_layGallery lb_X11_layGallery_17 rfl rfl (Or.inl rfl)
    · refine hr_Grun mf_X11_layGallery lb_X11_layGallery_18 (P := True) (pc' := 20) (ls' := [some (.ref 275), some (.int a1), some (.int a2), some (.int 0)]) (st' := []) (M' := M6) rfl rfl trivial ?_
      refine hr_Gle (ls := [some (.ref 275), none, none, some (.int 0)]) (hr_le_s (hr_le_n (hr_le_n (hr_le_s hr_le_0)))) ?_
      exact g_X11_layGallery_20 a1 a2 FU 0 M6 _ h
theorem mf_X11_deeds : hr_mf 228 11 0 (some .int) 1 0 bk_X11_deeds := ⟨rfl, rfl, rfl, rfl, rfl, rfl⟩
theorem lb_X11_deeds_0 : bk_X11_deeds.lookup 0 = some [(.aload_n 0, 1), (.getfield 32, 3), (.bipush 121, 2), (.aload_n 0, 1), (.getfield 359, 3), (.imul, 1), (.iaload, 1)] := rfl
theorem lb_X11_deeds_12 : bk_X11_deeds.lookup 12 = some [(.ireturn, 1)] := rfl
def f_X11_deeds (M : PM) : Option (Int32 × PM) :=
  if inB (121 * (M.1 275 29)) 968 = true then 
  some ((M.1 283 (121 * (M.1 275 29)).toNatClampNeg), M) else none
theorem g_X11_deeds  : ∀ (M : PM) (r : Int32 × PM), f_X11_deeds M = some r → hr_G 228 0 [some (.ref 275)] [] M (some (.int r.1), r.2) := by
  intro M r h
  unfold f_X11_deeds at h
  refine hr_Fg h (fun hg1_0 h => ?_)
  refine hr_Grun mf_X11_deeds lb_X11_deeds_0 (P := hr_K 275 = 10 ∧ hr_K 275 = 10 ∧ (hr_K 283 = 12 ∧ vp_in (121 * (M.1 275 29)) (hr_N 283)) ∧ True) (pc' := 12) (ls' := [some (.ref 275)]) (st' := [.int (M.1 283 (121 * (M.1 275 29)).toNatClampNeg)]) (M' := M) rfl rfl ⟨K_275, K_275, ⟨K_283, (inB_N N_283 hg1_0)⟩, trivial⟩ ?_
  cases h
  exact hr_Gret mf_X11_deeds lb_X11_deeds_12 rfl rfl trivial
theorem mf_X11_deedOf : hr_mf 229 11 0 (some .int) 3 2 bk_X11_deedOf := ⟨rfl, rfl, rfl, rfl, rfl, rfl⟩
theorem lb_X11_deedOf_0 : bk_X11_deedOf.lookup 0 = some [(.aload_n 0, 1), (.getfield 32, 3), (.bipush 121, 2), (.aload_n 0, 1), (.getfield 359, 3), (.imul, 1), (.iconst 1, 1), (.iadd, 1), (.iconst 3, 1), (.iload_n 1, 1), (.imul, 1), (.iadd, 1), (.iload_n 2, 1), (.iadd, 1), (.iaload, 1)] := rfl
theorem lb_X11_deedOf_20 : bk_X11_deedOf.lookup 20 = some [(.ireturn, 1)] := rfl
def f_X11_deedOf (a1 : Int32) (a2 : Int32) (M : PM) : Option (Int32 × PM) :=
  if inB ((((121 * (M.1 275 29)) + 1) + (3 * a1)) + a2) 968 = true then 
  some ((M.1 283 ((((121 * (M.1 275 29)) + 1) + (3 * a1)) + a2).toNatClampNeg), M) else none
theorem g_X11_deedOf (a1 : Int32) (a2 : Int32) : ∀ (M : PM) (r : Int32 × PM), f_X11_deedOf a1 a2 M = some r → hr_G 229 0 [some (.ref 275), some (.int a1), some (.int a2)] [] M (some (.int r.1), r.2) := by
  intro M r h
  unfold f_X11_deedOf at h
  refine hr_Fg h (fun hg1_0 h => ?_)
  refine hr_Grun mf_X11_deedOf lb_X11_deedOf_0 (P := hr_K 275 = 10 ∧ hr_K 275 = 10 ∧ (hr_K 283 = 12 ∧ vp_in ((((121 * (M.1 275 29)) + 1) + (3 * a1)) + a2) (hr_N 283)) ∧ True) (pc' := 20) (ls' := [some (.ref 275), some (.int a1), some (.int a2)]) (st' := [.int (M.1 283 ((((121 * (M.1 275 29)) + 1) + (3 * a1)) + a2).toNatClampNeg)]) (M' := M) rfl rfl ⟨K_275, K_275, ⟨K_283, (inB_N N_283 hg1_0)⟩, trivial⟩ ?_
  cases h
  exact hr_Gret mf_X11_deedOf lb_X11_deedOf_20 rfl rfl trivial
theorem mf_X11_hasDay : hr_mf 230 11 2 (some .boolean) 2 1 bk_X11_hasDay := ⟨rfl, rfl, rfl, rfl, rfl, rfl⟩
theorem lb_X11_hasDay_0 : bk_X11_hasDay.lookup 0 = some [(.aload_n 0, 1), (.iload_n 1, 1), (.putfield 359, 3), (.aload_n 0, 1), (.iconst 2, 1), (.iload_n 1, 1)] := rfl
theorem lb_X11_hasDay_8 : bk_X11_hasDay.lookup 8 = some [(.invokevirtual 269, 3)] := rfl
theorem lb_X11_hasDay_11 : bk_X11_hasDay.lookup 11 = some [(.ireturn, 1)] := rfl
def f_X11_hasDay (a1 : Int32) (M : PM) : Option (Int32 × PM) :=
  hr_bd (f_X11_is 2 a1 (hr_si M 275 29 a1)) (fun v2 M2 =>
  if v2 = 0 ∨ v2 = 1 then some (v2, M2) else none)
theorem g_X11_hasDay (a1 : Int32) : ∀ (M : PM) (r : Int32 × PM), f_X11_hasDay a1 M = some r → hr_G 230 0 [some (.ref 275), some (.int a1)] [] M (some (.int r.1), r.2) := by
  intro M r h
  unfold f_X11_hasDay at h
  refine hr_Grun mf_X11_hasDay lb_X11_hasDay_0 (P := (hr_K 275 = 10 ∧ 275 < hr_n) ∧ True) (pc' := 8) (ls' := [some (.ref 275), some (.int a1)]) (st' := [.int a1, .int 2, .ref 275]) (M' := hr_si M 275 29 a1) rfl rfl ⟨⟨K_275, L_275⟩, trivial⟩ ?_
  refine hr_Fb h (fun v2 M2 e2 h => ?_)
  refine hr_Gcv mf_X11_hasDay mf_X11_is lb_X11_hasDay_8 (b := 275) (as := [.int 2, .int a1]) (rest := []) (st2 := [.int v2]) (v := some (.int v2)) (M1 := M2) rfl rfl rfl rfl rfl rfl K_275 (g_X11_is 2 a1 _ _ e2) rfl rfl ?_
  refine hr_Fg h (fun hz h => ?_)
  cases h
  exact hr_Gret mf_X11_hasDay lb_X11_hasDay_11 rfl rfl hz
theorem mf_X11_deed : hr_mf 231 11 3 (some .int) 4 3 bk_X11_deed := ⟨rfl, rfl, rfl, rfl, rfl, rfl⟩
theorem lb_X11_deed_0 : bk_X11_deed.lookup 0 = some [(.aload_n 0, 1), (.iconst 0, 1), (.putfield 100, 3), (.aload_n 0, 1), (.iload_n 1, 1)] := rfl
theorem lb_X11_deed_7 : bk_X11_deed.lookup 7 = some [(.invokevirtual 362, 3)] := rfl
theorem lb_X11_deed_10 : bk_X11_deed.lookup 10 = some [(.ifCond .ne 6, 3)] := rfl
theorem lb_X11_deed_13 : bk_X11_deed.lookup 13 = some [(.bipush (-2), 2)] := rfl
theorem lb_X11_deed_15 : bk_X11_deed.lookup 15 = some [(.ireturn, 1)] := rfl
theorem lb_X11_deed_16 : bk_X11_deed.lookup 16 = some [(.iload_n 2, 1), (.iconst (-1), 1), (.if_icmp .ne 17, 3)] := rfl
theorem lb_X11_deed_21 : bk_X11_deed.lookup 21 = some [(.iload_n 3, 1), (.ifCond .ne 10, 3)] := rfl
theorem lb_X11_deed_25 : bk_X11_deed.lookup 25 = some [(.aload_n 0, 1)] := rfl
theorem lb_X11_deed_26 : bk_X11_deed.lookup 26 = some [(.invokevirtual 365, 3)] := rfl
theorem lb_X11_deed_29 : bk_X11_deed.lookup 29 = some [(.goto 5, 3)] := rfl
theorem lb_X11_deed_32 : bk_X11_deed.lookup 32 = some [(.bipush (-2), 2)] := rfl
theorem lb_X11_deed_34 : bk_X11_deed.lookup 34 = some [(.ireturn, 1)] := rfl
theorem lb_X11_deed_35 : bk_X11_deed.lookup 35 = some [(.iload_n 2, 1), (.iconst 0, 1), (.aload_n 0, 1)] := rfl
theorem lb_X11_deed_38 : bk_X11_deed.lookup 38 = some [(.invokevirtual 365, 3)] := rfl
theorem lb_X11_deed_41 : bk_X11_deed.lookup 41 = some [(.iconst 1, 1), (.isub, 1)] := rfl
theorem lb_X11_deed_43 : bk_X11_deed.lookup 43 = some [(.invokestatic 112, 3)] := rfl
theorem lb_X11_deed_46 : bk_X11_deed.lookup 46 = some [(.ifCond .eq 21, 3)] := rfl
theorem lb_X11_deed_49 : bk_X11_deed.lookup 49 = some [(.iload_n 3, 1), (.iconst 0, 1), (.iconst 2, 1)] := rfl
theorem lb_X11_deed_52 : bk_X11_deed.lookup 52 = some [(.invokestatic 112, 3)] := rfl
theorem lb_X11_deed_55 : bk_X11_deed.lookup 55 = some [(.ifCond .eq 12, 3)] := rfl
theorem lb_X11_deed_58 : bk_X11_deed.lookup 58 = some [(.aload_n 0, 1), (.iload_n 2, 1), (.iload_n 3, 1)] := rfl
theorem lb_X11_deed_61 : bk_X11_deed.lookup 61 = some [(.invokevirtual 368, 3)] := rfl
theorem lb_X11_deed_64 : bk_X11_deed.lookup 64 = some [(.goto 5, 3)] := rfl
theorem lb_X11_deed_67 : bk_X11_deed.lookup 67 = some [(.bipush (-2), 2)] := rfl
theorem lb_X11_deed_69 : bk_X11_deed.lookup 69 = some [(.ireturn, 1)] := rfl
def f_X11_deed (a1 : Int32) (a2 : Int32) (a3 : Int32) (M : PM) : Option (Int32 × PM) :=
  hr_bd (f_X11_hasDay a1 (hr_si M 275 0 0)) (fun v2 M2 =>
  if v2 = 0 then
    some ((-2), M2)
  else
    if a2 = (-1) then
      if a3 = 0 then
        hr_bd (f_X11_deeds M2) (fun v8 M8 =>
        some (v8, M8))
      else
        some ((-2), M2)
    else
      hr_bd (f_X11_deeds M2) (fun v12 M12 =>
      hr_bd (f_X11_in a2 0 (v12 - 1) M12) (fun v14 M14 =>
      if v14 = 0 then
        some ((-2), M14)
      else
        hr_bd (f_X11_in a3 0 2 M14) (fun v18 M18 =>
        if v18 = 0 then
          some ((-2), M18)
        else
          hr_bd (f_X11_deedOf a2 a3 M18) (fun v22 M22 =>
          some (v22, M22))))))
theorem g_X11_deed (a1 : Int32) (a2 : Int32) (a3 : Int32) : ∀ (M : PM) (r : Int32 × PM), f_X11_deed a1 a2 a3 M = some r → hr_G 231 0 [some (.ref 275), some (.int a1), some (.int a2), some (.int a3)] [] M (some (.int r.1), r.2) := by
  intro M r h
  unfold f_X11_deed at h
  refine hr_Grun mf_X11_deed lb_X11_deed_0 (P := (hr_K 275 = 10 ∧ 275 < hr_n) ∧ True) (pc' := 7) (ls' := [some (.ref 275), some (.int a1), some (.int a2), some (.int a3)]) (st' := [.int a1, .ref 275]) (M' := hr_si M 275 0 0) rfl rfl ⟨⟨K_275, L_275⟩, trivial⟩ ?_
  refine hr_Fb h (fun v2 M2 e2 h => ?_)
  refine hr_Gcv mf_X11_deed mf_X11_hasDay lb_X11_deed_7 (b := 275) (as := [.int a1]) (rest := []) (st2 := [.int v2]) (v := some (.int v2)) (M1 := M2) rfl rfl rfl rfl rfl rfl K_275 (g_X11_hasDay a1 _ _ e2) rfl rfl ?_
  refine hr_Grun mf_X11_deed lb_X11_deed_10 (P := True) (pc' := if v2 = 0 then 13 else 16) (ls' := [some (.ref 275), some (.int a1), some (.int a2), some (.int a3)]) (st' := []) (M' := M2) rfl rfl trivial ?_
  refine hr_Gif h (fun _ h => ?_) (fun _ h => ?_)
  · refine hr_Grun mf_X11_deed lb_X11_deed_13 (P := True) (pc' := 15) (ls' := [some (.ref 275), some (.int a1), some (.int a2), some (.int a3)]) (st' := [.int (-2)]) (M' := M2) rfl rfl trivial ?_
    cases h
    exact hr_Gret mf_X11_deed lb_X11_deed_15 rfl rfl trivial
  · refine hr_Grun mf_X11_deed lb_X11_deed_16 (P := True) (pc' := if a2 = (-1) then 21 else 35) (ls' := [some (.ref 275), some (.int a1), some (.int a2), some (.int a3)]) (st' := []) (M' := M2) rfl rfl trivial ?_
    refine hr_Gif h (fun _ h => ?_) (fun _ h => ?_)
    · refine hr_Grun mf_X11_deed lb_X11_deed_21 (P := True) (pc' := if a3 = 0 then 25 else 32) (ls' := [some (.ref 275), some (.int a1), some (.int a2), some (.int a3)]) (st' := []) (M' := M2) rfl rfl trivial ?_
      refine hr_Gif h (fun _ h => ?_) (fun _ h => ?_)
      · refine hr_Grun mf_X11_deed lb_X11_deed_25 (P := True) (pc' := 26) (ls' := [some (.ref 275), some (.int a1), some (.int a2), some (.int a3)]) (st' := [.ref 275]) (M' := M2) rfl rfl trivial ?_
        refine hr_Fb h (fun v8 M8 e8 h => ?_)
        refine hr_Gcv mf_X11_deed mf_X11_deeds lb_X11_deed_26 (b := 275) (as := []) (rest := []) (st2 := [.int v8]) (v := some (.int v8)) (M1 := M8) rfl rfl rfl rfl rfl rfl K_275 (g_X11_deeds  _ _ e8) rfl rfl ?_
        refine hr_Grun mf_X11_deed lb_X11_deed_29 (P := True) (pc' := 34) (ls' := [some (.ref 275), some (.int a1), some (.int a2), some (.int a3)]) (st' := [.int v8]) (M' := M8) rfl rfl trivial ?_
        cases h
        exact hr_Gret mf_X11_deed lb_X11_deed_34 rfl rfl trivial
      · refine hr_Grun mf_X11_deed lb_X11_deed_32 (P := True) (pc' := 34) (ls' := [some (.ref 275), some (.int a1), some (.int a2), some (.int a3)]) (st' := [.int (-2)]) (M' := M2) rfl rfl trivial ?_
        cases h
        exact hr_Gret mf_X11_deed lb_X11_deed_34 rfl rfl trivial
    · refine hr_Grun mf_X11_deed lb_X11_deed_35 (P := True) (pc' := 38) (ls' := [some (.ref 275), some (.int a1), some (.int a2), some (.int a3)]) (st' := [.ref 275, .int 0, .int a2]) (M' := M2) rfl rfl trivial ?_
      refine hr_Fb h (fun v12 M12 e12 h => ?_)
      refine hr_Gcv mf_X11_deed mf_X11_deeds lb_X11_deed_38 (b := 275) (as := []) (rest := [.int 0, .int a2]) (st2 := [.int v12, .int 0, .int a2]) (v := some (.int v12)) (M1 := M12) rfl rfl rfl rfl rfl rfl K_275 (g_X11_deeds  _ _ e12) rfl rfl ?_
      refine hr_Grun mf_X11_deed lb_X11_deed_41 (P := True) (pc' := 43) (ls' := [some (.ref 275), some (.int a1), some (.int a2), some (.int a3)]) (st' := [.int (v12 - 1), .int 0, .int a2]) (M' := M12) rfl rfl trivial ?_
      refine hr_Fb h (fun v14 M14 e14 h => ?_)
      refine hr_Gcs mf_X11_deed mf_X11_in lb_X11_deed_43 (as := [.int a2, .int 0, .int (v12 - 1)]) (rest := []) (st2 := [.int v14]) (v := some (.int v14)) (M1 := M14) rfl rfl rfl rfl rfl rfl (g_X11_in a2 0 (v12 - 1) _ _ e14) rfl rfl ?_
      refine hr_Grun mf_X11_deed lb_X11_deed_46 (P := True) (pc' := if v14 = 0 then 67 else 49) (ls' := [some (.ref 275), some (.int a1), some (.int a2), some (.int a3)]) (st' := []) (M' := M14) rfl rfl trivial ?_
      refine hr_Gif h (fun _ h => ?_) (fun _ h => ?_)
      · refine hr_Grun mf_X11_deed lb_X11_deed_67 (P := True) (pc' := 69) (ls' := [some (.ref 275), some (.int a1), some (.int a2), some (.int a3)]) (st' := [.int (-2)]) (M' := M14) rfl rfl trivial ?_
        cases h
        exact hr_Gret mf_X11_deed lb_X11_deed_69 rfl rfl trivial
      · refine hr_Grun mf_X11_deed lb_X11_deed_49 (P := True) (pc' := 52) (ls' := [some (.ref 275), some (.int a1), some (.int a2), some (.int a3)]) (st' := [.int 2, .int 0, .int a3]) (M' := M14) rfl rfl trivial ?_
        refine hr_Fb h (fun v18 M18 e18 h => ?_)
        refine hr_Gcs mf_X11_deed mf_X11_in lb_X11_deed_52 (as := [.int a3, .int 0, .int 2]) (rest := []) (st2 := [.int v18]) (v := some (.int v18)) (M1 := M18) rfl rfl rfl rfl rfl rfl (g_X11_in a3 0 2 _ _ e18) rfl rfl ?_
        refine hr_Grun mf_X11_deed lb_X11_deed_55 (P := True) (pc' := if v18 = 0 then 67 else 58) (ls' := [some (.ref 275), some (.int a1), some (.int a2), some (.int a3)]) (st' := []) (M' := M18) rfl rfl trivial ?_
        refine hr_Gif h (fun _ h => ?_) (fun _ h => ?_)
        · refine hr_Grun mf_X11_deed lb_X11_deed_67 (P := True) (pc' := 69) (ls' := [some (.ref 275), some (.int a1), some (.int a2), some (.int a3)]) (st' := [.int (-2)]) (M' := M18) rfl rfl trivial ?_
          cases h
          exact hr_Gret mf_X11_deed lb_X11_deed_69 rfl rfl trivial
        · refine hr_Grun mf_X11_deed lb_X11_deed_58 (P := True) (pc' := 61) (ls' := [some (.ref 275), some (.int a1), some (.int a2), some (.int a3)]) (st' := [.int a3, .int a2, .ref 275]) (M' := M18) rfl rfl trivial ?_
          refine hr_Fb h (fun v22 M22 e22 h => ?_)
          refine hr_Gcv mf_X11_deed mf_X11_deedOf lb_X11_deed_61 (b := 275) (as := [.int a2, .int a3]) (rest := []) (st2 := [.int v22]) (v := some (.int v22)) (M1 := M22) rfl rfl rfl rfl rfl rfl K_275 (g_X11_deedOf a2 a3 _ _ e22) rfl rfl ?_
          refine hr_Grun mf_X11_deed lb_X11_deed_64 (P := True) (pc' := 69) (ls' := [some (.ref 275), some (.int a1), some (.int a2), some (.int a3)]) (st' := [.int v22]) (M' := M22) rfl rfl trivial ?_
          cases h
          exact hr_Gret mf_X11_deed lb_X11_deed_69 rfl rfl trivial
theorem mf_X11_begin : hr_mf 232 11 1 none 2 0 bk_X11_begin := ⟨rfl, rfl, rfl, rfl, rfl, rfl⟩
theorem lb_X11_begin_0 : bk_X11_begin.lookup 0 = some [(.iconst 0, 1), (.istore_n 1, 1)] := rfl
theorem lb_X11_begin_2 : bk_X11_begin.lookup 2 = some [(.iload_n 1, 1), (.bipush 9, 2), (.if_icmp .ge 27, 3)] := rfl
theorem lb_X11_begin_8 : bk_X11_begin.lookup 8 = some [(.aload_n 0, 1), (.getfield 53, 3), (.iload_n 1, 1), (.iconst (-1), 1), (.iastore, 1), (.aload_n 0, 1), (.getfield 56, 3), (.iload_n 1, 1), (.aload_n 0, 1), (.iload_n 1, 1)] := rfl
theorem lb_X11_begin_22 : bk_X11_begin.lookup 22 = some [(.invokevirtual 356, 3)] := rfl
theorem lb_X11_begin_25 : bk_X11_begin.lookup 25 = some [(.iastore, 1), (.iinc 1 1, 3), (.goto (-27), 3)] := rfl
theorem lb_X11_begin_32 : bk_X11_begin.lookup 32 = some [(.iconst 0, 1), (.istore_n 1, 1)] := rfl
theorem lb_X11_begin_34 : bk_X11_begin.lookup 34 = some [(.iload_n 1, 1), (.bipush 6, 2), (.if_icmp .ge 30, 3)] := rfl
theorem lb_X11_begin_40 : bk_X11_begin.lookup 40 = some [(.aload_n 0, 1), (.getfield 59, 3), (.iload_n 1, 1), (.iconst (-1), 1), (.iastore, 1), (.aload_n 0, 1), (.getfield 62, 3), (.iload_n 1, 1), (.iconst (-1), 1), (.iastore, 1), (.aload_n 0, 1), (.getfield 65, 3), (.iload_n 1, 1), (.iconst 0, 1), (.iastore, 1), (.iinc 1 1, 3), (.goto (-30), 3)] := rfl
theorem lb_X11_begin_67 : bk_X11_begin.lookup 67 = some [(.aload_n 0, 1), (.iconst 0, 1), (.putfield 371, 3), (.aload_n 0, 1), (.iconst 0, 1), (.putfield 374, 3), (.aload_n 0, 1), (.iconst (-1), 1), (.putfield 377, 3), (.aload_n 0, 1), (.iconst (-1), 1), (.putfield 380, 3)] := rfl
theorem lb_X11_begin_87 : bk_X11_begin.lookup 87 = some [(.return_, 1)] := rfl
def f_X11_begin_34  : Nat → Int32 → PM → Option (Unit × PM)
  | 0, _, _ => none
  | f + 1, x1, M =>
    if 6 ≤ x1 then
      some ((), hr_si (hr_si (hr_si (hr_si M 275 35 0) 275 36 0) 275 37 (-1)) 275 38 (-1))
    else
      if inB x1 6 = true then if inB x1 6 = true then if inB x1 6 = true then 
      f_X11_begin_34 f (x1 + 1) (hr_si (hr_si (hr_si M 292 x1.toNatClampNeg (-1)) 293 x1.toNatClampNeg (-1)) 294 x1.toNatClampNeg 0) else none else none else none
theorem g_X11_begin_34   : ∀ (f : Nat) (x1 : Int32) (M : PM) (r : Unit × PM), f_X11_begin_34 f x1 M = some r → hr_G 232 34 [some (.ref 275), some (.int x1)] [] M (none, r.2) := by
  intro f
  induction f with
  | zero => intro x1 M r h; cases h
  | succ f ih =>
    intro x1 M r h
    rw [f_X11_begin_34.eq_2] at h
    refine hr_Grun mf_X11_begin lb_X11_begin_34 (P := True) (pc' := if 6 ≤ x1 then 67 else 40) (ls' := [some (.ref 275), some (.int x1)]) (st' := []) (M' := M) rfl rfl trivial ?_
    refine hr_Gif h (fun _ h => ?_) (fun _ h => ?_)
    · refine hr_Grun mf_X11_begin lb_X11_begin_67 (P := (hr_K 275 = 10 ∧ 275 < hr_n) ∧ (hr_K 275 = 10 ∧ 275 < hr_n) ∧ (hr_K 275 = 10 ∧ 275 < hr_n) ∧ (hr_K 275 = 10 ∧ 275 < hr_n) ∧ True) (pc' := 87) (ls' := [some (.ref 275), some (.int x1)]) (st' := []) (M' := hr_si (hr_si (hr_si (hr_si M 275 35 0) 275 36 0) 275 37 (-1)) 275 38 (-1)) rfl rfl ⟨⟨K_275, L_275⟩, ⟨K_275, L_275⟩, ⟨K_275, L_275⟩, ⟨K_275, L_275⟩, trivial⟩ ?_
      cases h
      exact hr_Gret mf_X11_begin lb_X11_begin_87 rfl rfl trivial
    · refine hr_Fg h (fun hg3_0 h => ?_)
      refine hr_Fg h (fun hg3_1 h => ?_)
      refine hr_Fg h (fun hg3_2 h => ?_)
      refine hr_Grun mf_X11_begin lb_X11_begin_40 (P := hr_K 275 = 10 ∧ ((hr_K 292 = 12 ∧ 292 < hr_n) ∧ vp_in x1 (hr_N 292)) ∧ hr_K 275 = 10 ∧ ((hr_K 293 = 12 ∧ 293 < hr_n) ∧ vp_in x1 (hr_N 293)) ∧ hr_K 275 = 10 ∧ ((hr_K 294 = 12 ∧ 294 < hr_n) ∧ vp_in x1 (hr_N 294)) ∧ True) (pc' := 34) (ls' := [some (.ref 275), some (.int (x1 + 1))]) (st' := []) (M' := hr_si (hr_si (hr_si M 292 x1.toNatClampNeg (-1)) 293 x1.toNatClampNeg (-1)) 294 x1.toNatClampNeg 0) rfl rfl ⟨K_275, ⟨⟨K_292, L_292⟩, (inB_N N_292 hg3_0)⟩, K_275, ⟨⟨K_293, L_293⟩, (inB_N N_293 hg3_1)⟩, K_275, ⟨⟨K_294, L_294⟩, (inB_N N_294 hg3_2)⟩, trivial⟩ ?_
      exact ih (x1 + 1) (hr_si (hr_si (hr_si M 292 x1.toNatClampNeg (-1)) 293 x1.toNatClampNeg (-1)) 294 x1.toNatClampNeg 0) _ h
def f_X11_begin_2  : Nat → Int32 → PM → Option (Unit × PM)
  | 0, _, _ => none
  | f + 1, x1, M =>
    if 9 ≤ x1 then
      f_X11_begin_34 FU 0 M
    else
      if inB x1 9 = true then 
      hr_bd (f_X11_areaOf x1 (hr_si M 290 x1.toNatClampNeg (-1))) (fun v4 M4 =>
      if inB x1 9 = true then 
      f_X11_begin_2 f (x1 + 1) (hr_si M4 291 x1.toNatClampNeg v4) else none) else none
theorem g_X11_begin_2   : ∀ (f : Nat) (x1 : Int32) (M : PM) (r : Unit × PM), f_X11_begin_2 f x1 M = some r → hr_G 232 2 [some (.ref 275), some (.int x1)] [] M (none, r.2) := by
  intro f
  induction f with
  | zero => intro x1 M r h; cases h
  | succ f ih =>
    intro x1 M r h
    rw [f_X11_begin_2.eq_2] at h
    refine hr_Grun mf_X11_begin lb_X11_begin_2 (P := True) (pc' := if 9 ≤ x1 then 32 else 8) (ls' := [some (.ref 275), some (.int x1)]) (st' := []) (M' := M) rfl rfl trivial ?_
    refine hr_Gif h (fun _ h => ?_) (fun _ h => ?_)
    · refine hr_Grun mf_X11_begin lb_X11_begin_32 (P := True) (pc' := 34) (ls' := [some (.ref 275), some (.int 0)]) (st' := []) (M' := M) rfl rfl trivial ?_
      exact g_X11_begin_34 FU 0 M _ h
    · refine hr_Fg h (fun hg3_0 h => ?_)
      refine hr_Grun mf_X11_begin lb_X11_begin_8 (P := hr_K 275 = 10 ∧ ((hr_K 290 = 12 ∧ 290 < hr_n) ∧ vp_in x1 (hr_N 290)) ∧ hr_K 275 = 10 ∧ True) (pc' := 22) (ls' := [some (.ref 275), some (.int x1)]) (st' := [.int x1, .ref 275, .int x1, .ref 291]) (M' := hr_si M 290 x1.toNatClampNeg (-1)) rfl rfl ⟨K_275, ⟨⟨K_290, L_290⟩, (inB_N N_290 hg3_0)⟩, K_275, trivial⟩ ?_
      refine hr_Fb h (fun v4 M4 e4 h => ?_)
      refine hr_Gcv mf_X11_begin mf_X11_areaOf lb_X11_begin_22 (b := 275) (as := [.int x1]) (rest := [.int x1, .ref 291]) (st2 := [.int v4, .int x1, .ref 291]) (v := some (.int v4)) (M1 := M4) rfl rfl rfl rfl rfl rfl K_275 (g_X11_areaOf x1 _ _ e4) rfl rfl ?_
      refine hr_Fg h (fun hg5_0 h => ?_)
      refine hr_Grun mf_X11_begin lb_X11_begin_25 (P := ((hr_K 291 = 12 ∧ 291 < hr_n) ∧ vp_in x1 (hr_N 291)) ∧ True) (pc' := 2) (ls' := [some (.ref 275), some (.int (x1 + 1))]) (st' := []) (M' := hr_si M4 291 x1.toNatClampNeg v4) rfl rfl ⟨⟨⟨K_291, L_291⟩, (inB_N N_291 hg5_0)⟩, trivial⟩ ?_
      exact ih (x1 + 1) (hr_si M4 291 x1.toNatClampNeg v4) _ h
def f_X11_begin (M : PM) : Option (Unit × PM) :=
  f_X11_begin_2 FU 0 M
theorem g_X11_begin  : ∀ (M : PM) (r : Unit × PM), f_X11_begin M = some r → hr_G 232 0 [some (.ref 275), none] [] M (none, r.2) := by
  intro M r h
  unfold f_X11_begin at h
  refine hr_Grun mf_X11_begin lb_X11_begin_0 (P := True) (pc' := 2) (ls' := [some (.ref 275), some (.int 0)]) (st' := []) (M' := M) rfl rfl trivial ?_
  exact g_X11_begin_2 FU 0 M _ h
theorem mf_X11_thing : hr_mf 233 11 1 (some .int) 3 2 bk_X11_thing := ⟨rfl, rfl, rfl, rfl, rfl, rfl⟩
theorem lb_X11_thing_0 : bk_X11_thing.lookup 0 = some [(.iload_n 2, 1), (.bipush 9, 2), (.if_icmp .ge 40, 3)] := rfl
theorem lb_X11_thing_6 : bk_X11_thing.lookup 6 = some [(.iload_n 2, 1), (.aload_n 0, 1)] := rfl
theorem lb_X11_thing_8 : bk_X11_thing.lookup 8 = some [(.invokevirtual 347, 3)] := rfl
theorem lb_X11_thing_11 : bk_X11_thing.lookup 11 = some [(.if_icmp .ge 30, 3)] := rfl
theorem lb_X11_thing_14 : bk_X11_thing.lookup 14 = some [(.aload_n 0, 1), (.getfield 53, 3), (.iload_n 2, 1), (.iaload, 1), (.iload_n 1, 1), (.if_icmp .ne 20, 3)] := rfl
theorem lb_X11_thing_24 : bk_X11_thing.lookup 24 = some [(.aload_n 0, 1), (.getfield 56, 3), (.iload_n 2, 1), (.iaload, 1), (.ifCond .le 11, 3)] := rfl
theorem lb_X11_thing_33 : bk_X11_thing.lookup 33 = some [(.aload_n 0, 1), (.iload_n 2, 1)] := rfl
theorem lb_X11_thing_35 : bk_X11_thing.lookup 35 = some [(.invokevirtual 353, 3)] := rfl
theorem lb_X11_thing_38 : bk_X11_thing.lookup 38 = some [(.goto 4, 3)] := rfl
theorem lb_X11_thing_41 : bk_X11_thing.lookup 41 = some [(.iconst (-1), 1)] := rfl
theorem lb_X11_thing_42 : bk_X11_thing.lookup 42 = some [(.ireturn, 1)] := rfl
theorem lb_X11_thing_43 : bk_X11_thing.lookup 43 = some [(.aload_n 0, 1), (.getfield 59, 3), (.iload_n 2, 1), (.bipush 9, 2), (.isub, 1), (.iaload, 1), (.iload_n 1, 1), (.if_icmp .ne 15, 3)] := rfl
theorem lb_X11_thing_56 : bk_X11_thing.lookup 56 = some [(.aload_n 0, 1), (.getfield 62, 3), (.iload_n 2, 1), (.bipush 9, 2), (.isub, 1), (.iaload, 1), (.goto 4, 3)] := rfl
theorem lb_X11_thing_68 : bk_X11_thing.lookup 68 = some [(.iconst (-1), 1)] := rfl
theorem lb_X11_thing_69 : bk_X11_thing.lookup 69 = some [(.ireturn, 1)] := rfl
def f_X11_thing (a1 : Int32) (a2 : Int32) (M : PM) : Option (Int32 × PM) :=
  if 9 ≤ a2 then
    if inB (a2 - 9) 6 = true then if (M.1 292 (a2 - 9).toNatClampNeg) = a1 then
      if inB (a2 - 9) 6 = true then 
      some ((M.1 293 (a2 - 9).toNatClampNeg), M) else none
    else
      some ((-1), M)
    else none
  else
    hr_bd (f_X11_pictures M) (fun v6 M6 =>
    if v6 ≤ a2 then
      some ((-1), M6)
    else
      if inB a2 9 = true then if (M6.1 290 a2.toNatClampNeg) = a1 then
        if inB a2 9 = true then if (M6.1 291 a2.toNatClampNeg) ≤ 0 then
          some ((-1), M6)
        else
          hr_bd (f_X11_hueOf a2 M6) (fun v13 M13 =>
          some (v13, M13))
        else none
      else
        some ((-1), M6)
      else none)
theorem g_X11_thing (a1 : Int32) (a2 : Int32) : ∀ (M : PM) (r : Int32 × PM), f_X11_thing a1 a2 M = some r → hr_G 233 0 [some (.ref 275), some (.int a1), some (.int a2)] [] M (some (.int r.1), r.2) := by
  intro M r h
  unfold f_X11_thing at h
  refine hr_Grun mf_X11_thing lb_X11_thing_0 (P := True) (pc' := if 9 ≤ a2 then 43 else 6) (ls' := [some (.ref 275), some (.int a1), some (.int a2)]) (st' := []) (M' := M) rfl rfl trivial ?_
  refine hr_Gif h (fun _ h => ?_) (fun _ h => ?_)
  · refine hr_Fg h (fun hg2_0 h => ?_)
    refine hr_Grun mf_X11_thing lb_X11_thing_43 (P := hr_K 275 = 10 ∧ (hr_K 292 = 12 ∧ vp_in (a2 - 9) (hr_N 292)) ∧ True) (pc' := if (M.1 292 (a2 - 9).toNatClampNeg) = a1 then 56 else 68) (ls' := [some (.ref 275), some (.int a1), some (.int a2)]) (st' := []) (M' := M) rfl rfl ⟨K_275, ⟨K_292, (inB_N N_292 hg2_0)⟩, trivial⟩ ?_
    refine hr_Gif h (fun _ h => ?_) (fun _ h => ?_)
    · refine hr_Fg h (fun hg3_0 h => ?_)
      refine hr_Grun mf_X11_thing lb_X11_thing_56 (P := hr_K 275 = 10 ∧ (hr_K 293 = 12 ∧ vp_in (a2 - 9) (hr_N 293)) ∧ True) (pc' := 69) (ls' := [some (.ref 275), some (.int a1), some (.int a2)]) (st' := [.int (M.1 293 (a2 - 9).toNatClampNeg)]) (M' := M) rfl rfl ⟨K_275, ⟨K_293, (inB_N N_293 hg3_0)⟩, trivial⟩ ?_
      cases h
      exact hr_Gret mf_X11_thing lb_X11_thing_69 rfl rfl trivial
    · refine hr_Grun mf_X11_thing lb_X11_thing_68 (P := True) (pc' := 69) (ls' := [some (.ref 275), some (.int a1), some (.int a2)]) (st' := [.int (-1)]) (M' := M) rfl rfl trivial ?_
      cases h
      exact hr_Gret mf_X11_thing lb_X11_thing_69 rfl rfl trivial
  · refine hr_Grun mf_X11_thing lb_X11_thing_6 (P := True) (pc' := 8) (ls' := [some (.ref 275), some (.int a1), some (.int a2)]) (st' := [.ref 275, .int a2]) (M' := M) rfl rfl trivial ?_
    refine hr_Fb h (fun v6 M6 e6 h => ?_)
    refine hr_Gcv mf_X11_thing mf_X11_pictures lb_X11_thing_8 (b := 275) (as := []) (rest := [.int a2]) (st2 := [.int v6, .int a2]) (v := some (.int v6)) (M1 := M6) rfl rfl rfl rfl rfl rfl K_275 (g_X11_pictures  _ _ e6) rfl rfl ?_
    refine hr_Grun mf_X11_thing lb_X11_thing_11 (P := True) (pc' := if v6 ≤ a2 then 41 else 14) (ls' := [some (.ref 275), some (.int a1), some (.int a2)]) (st' := []) (M' := M6) rfl rfl trivial ?_
    refine hr_Gif h (fun _ h => ?_) (fun _ h => ?_)
    · refine hr_Grun mf_X11_thing lb_X11_thing_41 (P := True) (pc' := 42) (ls' := [some (.ref 275), some (.int a1), some (.int a2)]) (st' := [.int (-1)]) (M' := M6) rfl rfl trivial ?_
      cases h
      exact hr_Gret mf_X11_thing lb_X11_thing_42 rfl rfl trivial
    · refine hr_Fg h (fun hg9_0 h => ?_)
      refine hr_Grun mf_X11_thing lb_X11_thing_14 (P := hr_K 275 = 10 ∧ (hr_K 290 = 12 ∧ vp_in a2 (hr_N 290)) ∧ True) (pc' := if (M6.1 290 a2.toNatClampNeg) = a1 then 24 else 41) (ls' := [some (.ref 275), some (.int a1), some (.int a2)]) (st' := []) (M' := M6) rfl rfl ⟨K_275, ⟨K_290, (inB_N N_290 hg9_0)⟩, trivial⟩ ?_
      refine hr_Gif h (fun _ h => ?_) (fun _ h => ?_)
      · refine hr_Fg h (fun hg10_0 h => ?_)
        refine hr_Grun mf_X11_thing lb_X11_thing_24 (P := hr_K 275 = 10 ∧ (hr_K 291 = 12 ∧ vp_in a2 (hr_N 291)) ∧ True) (pc' := if (M6.1 291 a2.toNatClampNeg) ≤ 0 then 41 else 33) (ls' := [some (.ref 275), some (.int a1), some (.int a2)]) (st' := []) (M' := M6) rfl rfl ⟨K_275, ⟨K_291, (inB_N N_291 hg10_0)⟩, trivial⟩ ?_
        refine hr_Gif h (fun _ h => ?_) (fun _ h => ?_)
        · refine hr_Grun mf_X11_thing lb_X11_thing_41 (P := True) (pc' := 42) (ls' := [some (.ref 275), some (.int a1), some (.int a2)]) (st' := [.int (-1)]) (M' := M6) rfl rfl trivial ?_
          cases h
          exact hr_Gret mf_X11_thing lb_X11_thing_42 rfl rfl trivial
        · refine hr_Grun mf_X11_thing lb_X11_thing_33 (P := True) (pc' := 35) (ls' := [some (.ref 275), some (.int a1), some (.int a2)]) (st' := [.int a2, .ref 275]) (M' := M6) rfl rfl trivial ?_
          refine hr_Fb h (fun v13 M13 e13 h => ?_)
          refine hr_Gcv mf_X11_thing mf_X11_hueOf lb_X11_thing_35 (b := 275) (as := [.int a2]) (rest := []) (st2 := [.int v13]) (v := some (.int v13)) (M1 := M13) rfl rfl rfl rfl rfl rfl K_275 (g_X11_hueOf a2 _ _ e13) rfl rfl ?_
          refine hr_Grun mf_X11_thing lb_X11_thing_38 (P := True) (pc' := 42) (ls' := [some (.ref 275), some (.int a1), some (.int a2)]) (st' := [.int v13]) (M' := M13) rfl rfl trivial ?_
          cases h
          exact hr_Gret mf_X11_thing lb_X11_thing_42 rfl rfl trivial
      · refine hr_Grun mf_X11_thing lb_X11_thing_41 (P := True) (pc' := 42) (ls' := [some (.ref 275), some (.int a1), some (.int a2)]) (st' := [.int (-1)]) (M' := M6) rfl rfl trivial ?_
        cases h
        exact hr_Gret mf_X11_thing lb_X11_thing_42 rfl rfl trivial
theorem mf_X11_rash : hr_mf 234 11 2 (some .int) 7 1 bk_X11_rash := ⟨rfl, rfl, rfl, rfl, rfl, rfl⟩
theorem lb_X11_rash_0 : bk_X11_rash.lookup 0 = some [(.iconst 0, 1), (.istore_n 2, 1), (.iconst 0, 1), (.istore_n 3, 1)] := rfl
theorem lb_X11_rash_4 : bk_X11_rash.lookup 4 = some [(.iload_n 3, 1), (.bipush 15, 2), (.if_icmp .ge 73, 3)] := rfl
theorem lb_X11_rash_10 : bk_X11_rash.lookup 10 = some [(.iconst 0, 1), (.istore 4, 2)] := rfl
theorem lb_X11_rash_13 : bk_X11_rash.lookup 13 = some [(.iload 4, 2), (.iload_n 3, 1), (.if_icmp .ge 58, 3)] := rfl
theorem lb_X11_rash_19 : bk_X11_rash.lookup 19 = some [(.aload_n 0, 1), (.iload_n 1, 1), (.iload_n 3, 1)] := rfl
theorem lb_X11_rash_22 : bk_X11_rash.lookup 22 = some [(.invokevirtual 383, 3)] := rfl
theorem lb_X11_rash_25 : bk_X11_rash.lookup 25 = some [(.istore 5, 2), (.aload_n 0, 1), (.iload_n 1, 1), (.iload 4, 2)] := rfl
theorem lb_X11_rash_31 : bk_X11_rash.lookup 31 = some [(.invokevirtual 383, 3)] := rfl
theorem lb_X11_rash_34 : bk_X11_rash.lookup 34 = some [(.istore 6, 2), (.iload_n 2, 1), (.iload 5, 2), (.iconst (-1), 1), (.if_icmp .eq 9, 3)] := rfl
theorem lb_X11_rash_43 : bk_X11_rash.lookup 43 = some [(.iload 6, 2), (.iconst (-1), 1), (.if_icmp .ne 7, 3)] := rfl
theorem lb_X11_rash_49 : bk_X11_rash.lookup 49 = some [(.iconst 0, 1), (.goto 16, 3)] := rfl
theorem lb_X11_rash_53 : bk_X11_rash.lookup 53 = some [(.aload_n 0, 1), (.getfield 47, 3), (.bipush 10, 2), (.iload 5, 2), (.imul, 1), (.iload 6, 2), (.iadd, 1), (.iaload, 1)] := rfl
theorem lb_X11_rash_66 : bk_X11_rash.lookup 66 = some [(.iadd, 1), (.istore_n 2, 1), (.iinc 4 1, 3), (.goto (-58), 3)] := rfl
theorem lb_X11_rash_74 : bk_X11_rash.lookup 74 = some [(.iinc 3 1, 3), (.goto (-73), 3)] := rfl
theorem lb_X11_rash_80 : bk_X11_rash.lookup 80 = some [(.iload_n 2, 1)] := rfl
theorem lb_X11_rash_81 : bk_X11_rash.lookup 81 = some [(.ireturn, 1)] := rfl
def f_X11_rash_13 (a1 : Int32) (k4 : Int32 → Int32 → PM → Option (Int32 × PM)) : Nat → Int32 → Int32 → Int32 → PM → Option (Int32 × PM)
  | 0, _, _, _, _ => none
  | f + 1, x2, x3, x4, M =>
    if x3 ≤ x4 then
      k4 x2 (x3 + 1) M
    else
      hr_bd (f_X11_thing a1 x3 M) (fun v4 M4 =>
      hr_bd (f_X11_thing a1 x4 M4) (fun v6 M6 =>
      if v4 = (-1) then
        f_X11_rash_13 a1 k4 f (x2 + 0) x3 (x4 + 1) M6
      else
        if v6 = (-1) then
          f_X11_rash_13 a1 k4 f (x2 + 0) x3 (x4 + 1) M6
        else
          if inB ((10 * v4) + v6) 100 = true then 
          f_X11_rash_13 a1 k4 f (x2 + (M6.1 288 ((10 * v4) + v6).toNatClampNeg)) x3 (x4 + 1) M6 else none))
theorem g_X11_rash_13 (a1 : Int32)  (k4 : Int32 → Int32 → PM → Option (Int32 × PM)) (hk4 : ∀ (x2 : Int32) (x3 : Int32) (M : PM) (r : Int32 × PM), k4 x2 x3 M = some r → hr_G 234 4 [some (.ref 275), some (.int a1), some (.int x2), some (.int x3), none, none, none] [] M (some (.int r.1), r.2)) : ∀ (f : Nat) (x2 : Int32) (x3 : Int32) (x4 : Int32) (M : PM) (r : Int32 × PM), f_X11_rash_13 a1 k4 f x2 x3 x4 M = some r → hr_G 234 13 [some (.ref 275), some (.int a1), some (.int x2), some (.int x3), some (.int x4), none, none] [] M (some (.int r.1), r.2) := by
  intro f
  induction f with
  | zero => intro x2 x3 x4 M r h; cases h
  | succ f ih =>
    intro x2 x3 x4 M r h
    rw [f_X11_rash_13.eq_2] at h
    refine hr_Grun mf_X11_rash lb_X11_rash_13 (P := True) (pc' := if x3 ≤ x4 then 74 else 19) (ls' := [some (.ref 275), some (.int a1), some (.int x2), some (.int x3), some (.int x4), none, none]) (st' := []) (M' := M) rfl rfl trivial ?_
    refine hr_Gif h (fun _ h => ?_) (fun _ h => ?_)
    · refine hr_Grun mf_X11_rash lb_X11_rash_74 (P := True) (pc' := 4) (ls' := [some (.ref 275), some (.int a1), some (.int x2), some (.int (x3 + 1)), some (.int x4), none, none]) (st' := []) (M' := M) rfl rfl trivial ?_
      refine hr_Gle (ls := [some (.ref 275), some (.int a1), some (.int x2), some (.int (x3 + 1)), none, none, none]) (hr_le_s (hr_le_s (hr_le_s (hr_le_s (hr_le_n (hr_le_n (hr_le_n hr_le_0))))))) ?_
      exact hk4 x2 (x3 + 1) M _ h
    · refine hr_Grun mf_X11_rash lb_X11_rash_19 (P := True) (pc' := 22) (ls' := [some (.ref 275), some (.int a1), some (.int x2), some (.int x3), some (.int x4), none, none]) (st' := [.int x3, .int a1, .ref 275]) (M' := M) rfl rfl trivial ?_
      refine hr_Fb h (fun v4 M4 e4 h => ?_)
      refine hr_Gcv mf_X11_rash mf_X11_thing lb_X11_rash_22 (b := 275) (as := [.int a1, .int x3]) (rest := []) (st2 := [.int v4]) (v := some (.int v4)) (M1 := M4) rfl rfl rfl rfl rfl rfl K_275 (g_X11_thing a1 x3 _ _ e4) rfl rfl ?_
      refine hr_Grun mf_X11_rash lb_X11_rash_25 (P := True) (pc' := 31) (ls' := [some (.ref 275), some (.int a1), some (.int x2), some (.int x3), some (.int x4), some (.int v4), none]) (st' := [.int x4, .int a1, .ref 275]) (M' := M4) rfl rfl trivial ?_
      refine hr_Fb h (fun v6 M6 e6 h => ?_)
      refine hr_Gcv mf_X11_rash mf_X11_thing lb_X11_rash_31 (b := 275) (as := [.int a1, .int x4]) (rest := []) (st2 := [.int v6]) (v := some (.int v6)) (M1 := M6) rfl rfl rfl rfl rfl rfl K_275 (g_X11_thing a1 x4 _ _ e6) rfl rfl ?_
      refine hr_Grun mf_X11_rash lb_X11_rash_34 (P := True) (pc' := if v4 = (-1) then 49 else 43) (ls' := [some (.ref 275), some (.int a1), some (.int x2), some (.int x3), some (.int x4), some (.int v4), some (.int v6)]) (st' := [.int x2]) (M' := M6) rfl rfl trivial ?_
      refine hr_Gif h (fun _ h => ?_) (fun _ h => ?_)
      · refine hr_Grun mf_X11_rash lb_X11_rash_49 (P := True) (pc' := 66) (ls' := [some (.ref 275), some (.int a1), some (.int x2), some (.int x3), some (.int x4), some (.int v4), some (.int v6)]) (st' := [.int 0, .int x2]) (M' := M6) rfl rfl trivial ?_
        refine hr_Grun mf_X11_rash lb_X11_rash_66 (P := True) (pc' := 13) (ls' := [some (.ref 275), some (.int a1), some (.int (x2 + 0)), some (.int x3), some (.int (x4 + 1)), some (.int v4), some (.int v6)]) (st' := []) (M' := M6) rfl rfl trivial ?_
        refine hr_Gle (ls := [some (.ref 275), some (.int a1), some (.int (x2 + 0)), some (.int x3), some (.int (x4 + 1)), none, none]) (hr_le_s (hr_le_s (hr_le_s (hr_le_s (hr_le_s (hr_le_n (hr_le_n hr_le_0))))))) ?_
        exact ih (x2 + 0) x3 (x4 + 1) M6 _ h
      · refine hr_Grun mf_X11_rash lb_X11_rash_43 (P := True) (pc' := if v6 = (-1) then 49 else 53) (ls' := [some (.ref 275), some (.int a1), some (.int x2), some (.int x3), some (.int x4), some (.int v4), some (.int v6)]) (st' := [.int x2]) (M' := M6) rfl rfl trivial ?_
        refine hr_Gif h (fun _ h => ?_) (fun _ h => ?_)
        · refine hr_Grun mf_X11_rash lb_X11_rash_49 (P := True) (pc' := 66) (ls' := [some (.ref 275), some (.int a1), some (.int x2), some (.int x3), some (.int x4), some (.int v4), some (.int v6)]) (st' := [.int 0, .int x2]) (M' := M6) rfl rfl trivial ?_
          refine hr_Grun mf_X11_rash lb_X11_rash_66 (P := True) (pc' := 13) (ls' := [some (.ref 275), some (.int a1), some (.int (x2 + 0)), some (.int x3), some (.int (x4 + 1)), some (.int v4), some (.int v6)]) (st' := []) (M' := M6) rfl rfl trivial ?_
          refine hr_Gle (ls := [some (.ref 275), some (.int a1), some (.int (x2 + 0)), some (.int x3), some (.int (x4 + 1)), none, none]) (hr_le_s (hr_le_s (hr_le_s (hr_le_s (hr_le_s (hr_le_n (hr_le_n hr_le_0))))))) ?_
          exact ih (x2 + 0) x3 (x4 + 1) M6 _ h
        · refine hr_Fg h (fun hg13_0 h => ?_)
          refine hr_Grun mf_X11_rash lb_X11_rash_53 (P := hr_K 275 = 10 ∧ (hr_K 288 = 12 ∧ vp_in ((10 * v4) + v6) (hr_N 288)) ∧ True) (pc' := 66) (ls' := [some (.ref 275), some (.int a1), some (.int x2), some (.int x3), some (.int x4), some (.int v4), some (.int v6)]) (st' := [.int (M6.1 288 ((10 * v4) + v6).toNatClampNeg), .int x2]) (M' := M6) rfl rfl ⟨K_275, ⟨K_288, (inB_N N_288 hg13_0)⟩, trivial⟩ ?_
          refine hr_Grun mf_X11_rash lb_X11_rash_66 (P := True) (pc' := 13) (ls' := [some (.ref 275), some (.int a1), some (.int (x2 + (M6.1 288 ((10 * v4) + v6).toNatClampNeg))), some (.int x3), some (.int (x4 + 1)), some (.int v4), some (.int v6)]) (st' := []) (M' := M6) rfl rfl trivial ?_
          refine hr_Gle (ls := [some (.ref 275), some (.int a1), some (.int (x2 + (M6.1 288 ((10 * v4) + v6).toNatClampNeg))), some (.int x3), some (.int (x4 + 1)), none, none]) (hr_le_s (hr_le_s (hr_le_s (hr_le_s (hr_le_s (hr_le_n (hr_le_n hr_le_0))))))) ?_
          exact ih (x2 + (M6.1 288 ((10 * v4) + v6).toNatClampNeg)) x3 (x4 + 1) M6 _ h
def f_X11_rash_4 (a1 : Int32) : Nat → Int32 → Int32 → PM → Option (Int32 × PM)
  | 0, _, _, _ => none
  | f + 1, x2, x3, M =>
    if 15 ≤ x3 then
      some (x2, M)
    else
      f_X11_rash_13 a1 (fun x2 x3 M => f_X11_rash_4 a1 f x2 x3 M) FU x2 x3 0 M
theorem g_X11_rash_4 (a1 : Int32)  : ∀ (f : Nat) (x2 : Int32) (x3 : Int32) (M : PM) (r : Int32 × PM), f_X11_rash_4 a1 f x2 x3 M = some r → hr_G 234 4 [some (.ref 275), some (.int a1), some (.int x2), some (.int x3), none, none, none] [] M (some (.int r.1), r.2) := by
  intro f
  induction f with
  | zero => intro x2 x3 M r h; cases h
  | succ f ih =>
    intro x2 x3 M r h
    rw [f_X11_rash_4.eq_2] at h
    refine hr_Grun mf_X11_rash lb_X11_rash_4 (P := True) (pc' := if 15 ≤ x3 then 80 else 10) (ls' := [some (.ref 275), some (.int a1), some (.int x2), some (.int x3), none, none, none]) (st' := []) (M' := M) rfl rfl trivial ?_
    refine hr_Gif h (fun _ h => ?_) (fun _ h => ?_)
    · refine hr_Grun mf_X11_rash lb_X11_rash_80 (P := True) (pc' := 81) (ls' := [some (.ref 275), some (.int a1), some (.int x2), some (.int x3), none, none, none]) (st' := [.int x2]) (M' := M) rfl rfl trivial ?_
      cases h
      exact hr_Gret mf_X11_rash lb_X11_rash_81 rfl rfl trivial
    · refine hr_Grun mf_X11_rash lb_X11_rash_10 (P := True) (pc' := 13) (ls' := [some (.ref 275), some (.int a1), some (.int x2), some (.int x3), some (.int 0), none, none]) (st' := []) (M' := M) rfl rfl trivial ?_
      exact g_X11_rash_13 a1 (fun x2 x3 M => f_X11_rash_4 a1 f x2 x3 M) (fun x2 x3 M r h => ih x2 x3 M r h) FU x2 x3 0 M _ h
def f_X11_rash (a1 : Int32) (M : PM) : Option (Int32 × PM) :=
  f_X11_rash_4 a1 FU 0 0 M
theorem g_X11_rash (a1 : Int32) : ∀ (M : PM) (r : Int32 × PM), f_X11_rash a1 M = some r → hr_G 234 0 [some (.ref 275), some (.int a1), none, none, none, none, none] [] M (some (.int r.1), r.2) := by
  intro M r h
  unfold f_X11_rash at h
  refine hr_Grun mf_X11_rash lb_X11_rash_0 (P := True) (pc' := 4) (ls' := [some (.ref 275), some (.int a1), some (.int 0), some (.int 0), none, none, none]) (st' := []) (M' := M) rfl rfl trivial ?_
  exact g_X11_rash_4 a1 FU 0 0 M _ h
theorem mf_X11_isClashing : hr_mf 235 11 2 (some .boolean) 4 1 bk_X11_isClashing := ⟨rfl, rfl, rfl, rfl, rfl, rfl⟩
theorem lb_X11_isClashing_0 : bk_X11_isClashing.lookup 0 = some [(.iconst 0, 1), (.istore_n 2, 1)] := rfl
theorem lb_X11_isClashing_2 : bk_X11_isClashing.lookup 2 = some [(.iload_n 2, 1), (.bipush 15, 2), (.if_icmp .ge 46, 3)] := rfl
theorem lb_X11_isClashing_8 : bk_X11_isClashing.lookup 8 = some [(.aload_n 0, 1), (.aload_n 0, 1), (.getfield 53, 3), (.iload_n 1, 1), (.iaload, 1), (.iload_n 2, 1)] := rfl
theorem lb_X11_isClashing_16 : bk_X11_isClashing.lookup 16 = some [(.invokevirtual 383, 3)] := rfl
theorem lb_X11_isClashing_19 : bk_X11_isClashing.lookup 19 = some [(.istore_n 3, 1), (.iload_n 2, 1), (.iload_n 1, 1), (.if_icmp .eq 23, 3)] := rfl
theorem lb_X11_isClashing_25 : bk_X11_isClashing.lookup 25 = some [(.iload_n 3, 1), (.iconst (-1), 1), (.if_icmp .eq 18, 3)] := rfl
theorem lb_X11_isClashing_30 : bk_X11_isClashing.lookup 30 = some [(.aload_n 0, 1), (.aload_n 0, 1), (.iload_n 1, 1)] := rfl
theorem lb_X11_isClashing_33 : bk_X11_isClashing.lookup 33 = some [(.invokevirtual 353, 3)] := rfl
theorem lb_X11_isClashing_36 : bk_X11_isClashing.lookup 36 = some [(.iload_n 3, 1)] := rfl
theorem lb_X11_isClashing_37 : bk_X11_isClashing.lookup 37 = some [(.invokevirtual 314, 3)] := rfl
theorem lb_X11_isClashing_40 : bk_X11_isClashing.lookup 40 = some [(.ifCond .eq 5, 3)] := rfl
theorem lb_X11_isClashing_43 : bk_X11_isClashing.lookup 43 = some [(.iconst 1, 1)] := rfl
theorem lb_X11_isClashing_44 : bk_X11_isClashing.lookup 44 = some [(.ireturn, 1)] := rfl
theorem lb_X11_isClashing_45 : bk_X11_isClashing.lookup 45 = some [(.iinc 2 1, 3), (.goto (-46), 3)] := rfl
theorem lb_X11_isClashing_51 : bk_X11_isClashing.lookup 51 = some [(.iconst 0, 1)] := rfl
theorem lb_X11_isClashing_52 : bk_X11_isClashing.lookup 52 = some [(.ireturn, 1)] := rfl
def f_X11_isClashing_2 (a1 : Int32) : Nat → Int32 → PM → Option (Int32 × PM)
  | 0, _, _ => none
  | f + 1, x2, M =>
    if 15 ≤ x2 then
      some (0, M)
    else
      if inB a1 9 = true then 
      hr_bd (f_X11_thing (M.1 290 a1.toNatClampNeg) x2 M) (fun v4 M4 =>
      if x2 = a1 then
        f_X11_isClashing_2 a1 f (x2 + 1) M4
      else
        if v4 = (-1) then
          f_X11_isClashing_2 a1 f (x2 + 1) M4
        else
          hr_bd (f_X11_hueOf a1 M4) (fun v10 M10 =>
          hr_bd (f_X11_clash v10 v4 M10) (fun v12 M12 =>
          if v12 = 0 then
            f_X11_isClashing_2 a1 f (x2 + 1) M12
          else
            some (1, M12)))) else none
theorem g_X11_isClashing_2 (a1 : Int32)  : ∀ (f : Nat) (x2 : Int32) (M : PM) (r : Int32 × PM), f_X11_isClashing_2 a1 f x2 M = some r → hr_G 235 2 [some (.ref 275), some (.int a1), some (.int x2), none] [] M (some (.int r.1), r.2) := by
  intro f
  induction f with
  | zero => intro x2 M r h; cases h
  | succ f ih =>
    intro x2 M r h
    rw [f_X11_isClashing_2.eq_2] at h
    refine hr_Grun mf_X11_isClashing lb_X11_isClashing_2 (P := True) (pc' := if 15 ≤ x2 then 51 else 8) (ls' := [some (.ref 275), some (.int a1), some (.int x2), none]) (st' := []) (M' := M) rfl rfl trivial ?_
    refine hr_Gif h (fun _ h => ?_) (fun _ h => ?_)
    · refine hr_Grun mf_X11_isClashing lb_X11_isClashing_51 (P := True) (pc' := 52) (ls' := [some (.ref 275), some (.int a1), some (.int x2), none]) (st' := [.int 0]) (M' := M) rfl rfl trivial ?_
      cases h
      exact hr_Gret mf_X11_isClashing lb_X11_isClashing_52 rfl rfl (Or.inl rfl)
    · refine hr_Fg h (fun hg3_0 h => ?_)
      refine hr_Grun mf_X11_isClashing lb_X11_isClashing_8 (P := hr_K 275 = 10 ∧ (hr_K 290 = 12 ∧ vp_in a1 (hr_N 290)) ∧ True) (pc' := 16) (ls' := [some (.ref 275), some (.int a1), some (.int x2), none]) (st' := [.int x2, .int (M.1 290 a1.toNatClampNeg), .ref 275]) (M' := M) rfl rfl ⟨K_275, ⟨K_290, (inB_N N_290 hg3_0)⟩, trivial⟩ ?_
      refine hr_Fb h (fun v4 M4 e4 h => ?_)
      refine hr_Gcv mf_X11_isClashing mf_X11_thing lb_X11_isClashing_16 (b := 275) (as := [.int (M.1 290 a1.toNatClampNeg), .int x2]) (rest := []) (st2 := [.int v4]) (v := some (.int v4)) (M1 := M4) rfl rfl rfl rfl rfl rfl K_275 (g_X11_thing (M.1 290 a1.toNatClampNeg) x2 _ _ e4) rfl rfl ?_
      refine hr_Grun mf_X11_isClashing lb_X11_isClashing_19 (P := True) (pc' := if x2 = a1 then 45 else 25) (ls' := [some (.ref 275), some (.int a1), some (.int x2), some (.int v4)]) (st' := []) (M' := M4) rfl rfl trivial ?_
      refine hr_Gif h (fun _ h => ?_) (fun _ h => ?_)
      · refine hr_Grun mf_X11_isClashing lb_X11_isClashing_45 (P := True) (pc' := 2) (ls' := [some (.ref 275), some (.int a1), some (.int (x2 + 1)), some (.int v4)]) (st' := []) (M' := M4) rfl rfl trivial ?_
        refine hr_Gle (ls := [some (.ref 275), some (.int a1), some (.int (x2 + 1)), none]) (hr_le_s (hr_le_s (hr_le_s (hr_le_n hr_le_0)))) ?_
        exact ih (x2 + 1) M4 _ h
      · refine hr_Grun mf_X11_isClashing lb_X11_isClashing_25 (P := True) (pc' := if v4 = (-1) then 45 else 30) (ls' := [some (.ref 275), some (.int a1), some (.int x2), some (.int v4)]) (st' := []) (M' := M4) rfl rfl trivial ?_
        refine hr_Gif h (fun _ h => ?_) (fun _ h => ?_)
        · refine hr_Grun mf_X11_isClashing lb_X11_isClashing_45 (P := True) (pc' := 2) (ls' := [some (.ref 275), some (.int a1), some (.int (x2 + 1)), some (.int v4)]) (st' := []) (M' := M4) rfl rfl trivial ?_
          refine hr_Gle (ls := [some (.ref 275), some (.int a1), some (.int (x2 + 1)), none]) (hr_le_s (hr_le_s (hr_le_s (hr_le_n hr_le_0)))) ?_
          exact ih (x2 + 1) M4 _ h
        · refine hr_Grun mf_X11_isClashing lb_X11_isClashing_30 (P := True) (pc' := 33) (ls' := [some (.ref 275), some (.int a1), some (.int x2), some (.int v4)]) (st' := [.int a1, .ref 275, .ref 275]) (M' := M4) rfl rfl trivial ?_
          refine hr_Fb h (fun v10 M10 e10 h => ?_)
          refine hr_Gcv mf_X11_isClashing mf_X11_hueOf lb_X11_isClashing_33 (b := 275) (as := [.int a1]) (rest := [.ref 275]) (st2 := [.int v10, .ref 275]) (v := some (.int v10)) (M1 := M10) rfl rfl rfl rfl rfl rfl K_275 (g_X11_hueOf a1 _ _ e10) rfl rfl ?_
          refine hr_Grun mf_X11_isClashing lb_X11_isClashing_36 (P := True) (pc' := 37) (ls' := [some (.ref 275), some (.int a1), some (.int x2), some (.int v4)]) (st' := [.int v4, .int v10, .ref 275]) (M' := M10) rfl rfl trivial ?_
          refine hr_Fb h (fun v12 M12 e12 h => ?_)
          refine hr_Gcv mf_X11_isClashing mf_X11_clash lb_X11_isClashing_37 (b := 275) (as := [.int v10, .int v4]) (rest := []) (st2 := [.int v12]) (v := some (.int v12)) (M1 := M12) rfl rfl rfl rfl rfl rfl K_275 (g_X11_clash v10 v4 _ _ e12) rfl rfl ?_
          refine hr_Grun mf_X11_isClashing lb_X11_isClashing_40 (P := True) (pc' := if v12 = 0 then 45 else 43) (ls' := [some (.ref 275), some (.int a1), some (.int x2), some (.int v4)]) (st' := []) (M' := M12) rfl rfl trivial ?_
          refine hr_Gif h (fun _ h => ?_) (fun _ h => ?_)
          · refine hr_Grun mf_X11_isClashing lb_X11_isClashing_45 (P := True) (pc' := 2) (ls' := [some (.ref 275), some (.int a1), some (.int (x2 + 1)), some (.int v4)]) (st' := []) (M' := M12) rfl rfl trivial ?_
            refine hr_Gle (ls := [some (.ref 275), some (.int a1), some (.int (x2 + 1)), none]) (hr_le_s (hr_le_s (hr_le_s (hr_le_n hr_le_0)))) ?_
            exact ih (x2 + 1) M12 _ h
          · refine hr_Grun mf_X11_isClashing lb_X11_isClashing_43 (P := True) (pc' := 44) (ls' := [some (.ref 275), some (.int a1), some (.int x2), some (.int v4)]) (st' := [.int 1]) (M' := M12) rfl rfl trivial ?_
            cases h
            exact hr_Gret mf_X11_isClashing lb_X11_isClashing_44 rfl rfl (Or.inr rfl)
def f_X11_isClashing (a1 : Int32) (M : PM) : Option (Int32 × PM) :=
  f_X11_isClashing_2 a1 FU 0 M
theorem g_X11_isClashing (a1 : Int32) : ∀ (M : PM) (r : Int32 × PM), f_X11_isClashing a1 M = some r → hr_G 235 0 [some (.ref 275), some (.int a1), none, none] [] M (some (.int r.1), r.2) := by
  intro M r h
  unfold f_X11_isClashing at h
  refine hr_Grun mf_X11_isClashing lb_X11_isClashing_0 (P := True) (pc' := 2) (ls' := [some (.ref 275), some (.int a1), some (.int 0), none]) (st' := []) (M' := M) rfl rfl trivial ?_
  exact g_X11_isClashing_2 a1 FU 0 M _ h
theorem mf_X11_hour : hr_mf 236 11 3 none 5 0 bk_X11_hour := ⟨rfl, rfl, rfl, rfl, rfl, rfl⟩
theorem lb_X11_hour_0 : bk_X11_hour.lookup 0 = some [(.iconst 0, 1), (.istore_n 1, 1), (.iconst 0, 1), (.istore_n 2, 1)] := rfl
theorem lb_X11_hour_4 : bk_X11_hour.lookup 4 = some [(.iload_n 2, 1), (.iconst 4, 1), (.if_icmp .ge 96, 3)] := rfl
theorem lb_X11_hour_9 : bk_X11_hour.lookup 9 = some [(.aload_n 0, 1), (.iload_n 2, 1)] := rfl
theorem lb_X11_hour_11 : bk_X11_hour.lookup 11 = some [(.invokevirtual 386, 3)] := rfl
theorem lb_X11_hour_14 : bk_X11_hour.lookup 14 = some [(.istore_n 3, 1), (.aload_n 0, 1), (.dup, 1), (.getfield 374, 3), (.iload_n 3, 1), (.iadd, 1), (.putfield 374, 3), (.iload_n 3, 1), (.aload_n 0, 1)] := rfl
theorem lb_X11_hour_27 : bk_X11_hour.lookup 27 = some [(.invokevirtual 350, 3)] := rfl
theorem lb_X11_hour_30 : bk_X11_hour.lookup 30 = some [(.if_icmp .le 24, 3)] := rfl
theorem lb_X11_hour_33 : bk_X11_hour.lookup 33 = some [(.aload_n 0, 1), (.getfield 377, 3), (.iconst (-1), 1), (.if_icmp .ne 16, 3)] := rfl
theorem lb_X11_hour_41 : bk_X11_hour.lookup 41 = some [(.aload_n 0, 1), (.aload_n 0, 1), (.getfield 371, 3), (.putfield 377, 3), (.aload_n 0, 1), (.iload_n 2, 1), (.putfield 380, 3)] := rfl
theorem lb_X11_hour_54 : bk_X11_hour.lookup 54 = some [(.iconst 0, 1), (.istore 4, 2)] := rfl
theorem lb_X11_hour_57 : bk_X11_hour.lookup 57 = some [(.iload 4, 2), (.bipush 6, 2), (.if_icmp .ge 35, 3)] := rfl
theorem lb_X11_hour_64 : bk_X11_hour.lookup 64 = some [(.aload_n 0, 1), (.getfield 65, 3), (.iload 4, 2), (.dup2, 1), (.iaload, 1), (.aload_n 0, 1), (.getfield 59, 3), (.iload 4, 2), (.iaload, 1), (.iload_n 2, 1), (.if_icmp .ne 7, 3)] := rfl
theorem lb_X11_hour_83 : bk_X11_hour.lookup 83 = some [(.iload_n 3, 1), (.goto 4, 3)] := rfl
theorem lb_X11_hour_87 : bk_X11_hour.lookup 87 = some [(.iconst 0, 1)] := rfl
theorem lb_X11_hour_88 : bk_X11_hour.lookup 88 = some [(.iadd, 1), (.iastore, 1), (.iinc 4 1, 3), (.goto (-36), 3)] := rfl
theorem lb_X11_hour_96 : bk_X11_hour.lookup 96 = some [(.iinc 2 1, 3), (.goto (-95), 3)] := rfl
theorem lb_X11_hour_102 : bk_X11_hour.lookup 102 = some [(.iconst 0, 1), (.istore_n 2, 1)] := rfl
theorem lb_X11_hour_104 : bk_X11_hour.lookup 104 = some [(.iload_n 2, 1), (.aload_n 0, 1)] := rfl
theorem lb_X11_hour_106 : bk_X11_hour.lookup 106 = some [(.invokevirtual 347, 3)] := rfl
theorem lb_X11_hour_109 : bk_X11_hour.lookup 109 = some [(.if_icmp .ge 46, 3)] := rfl
theorem lb_X11_hour_112 : bk_X11_hour.lookup 112 = some [(.iload_n 1, 1), (.aload_n 0, 1), (.getfield 53, 3), (.iload_n 2, 1), (.iaload, 1), (.iconst (-1), 1), (.if_icmp .eq 26, 3)] := rfl
theorem lb_X11_hour_123 : bk_X11_hour.lookup 123 = some [(.aload_n 0, 1), (.getfield 56, 3), (.iload_n 2, 1), (.iaload, 1), (.ifCond .le 17, 3)] := rfl
theorem lb_X11_hour_132 : bk_X11_hour.lookup 132 = some [(.aload_n 0, 1), (.iload_n 2, 1)] := rfl
theorem lb_X11_hour_134 : bk_X11_hour.lookup 134 = some [(.invokevirtual 389, 3)] := rfl
theorem lb_X11_hour_137 : bk_X11_hour.lookup 137 = some [(.ifCond .eq 9, 3)] := rfl
theorem lb_X11_hour_140 : bk_X11_hour.lookup 140 = some [(.iconst 1, 1), (.iload_n 2, 1), (.ishl, 1), (.goto 4, 3)] := rfl
theorem lb_X11_hour_146 : bk_X11_hour.lookup 146 = some [(.iconst 0, 1)] := rfl
theorem lb_X11_hour_147 : bk_X11_hour.lookup 147 = some [(.ior, 1), (.istore_n 1, 1), (.iinc 2 1, 3), (.goto (-48), 3)] := rfl
theorem lb_X11_hour_155 : bk_X11_hour.lookup 155 = some [(.iconst 0, 1), (.istore_n 2, 1)] := rfl
theorem lb_X11_hour_157 : bk_X11_hour.lookup 157 = some [(.iload_n 2, 1), (.aload_n 0, 1)] := rfl
theorem lb_X11_hour_159 : bk_X11_hour.lookup 159 = some [(.invokevirtual 347, 3)] := rfl
theorem lb_X11_hour_162 : bk_X11_hour.lookup 162 = some [(.if_icmp .ge 31, 3)] := rfl
theorem lb_X11_hour_165 : bk_X11_hour.lookup 165 = some [(.aload_n 0, 1), (.getfield 56, 3), (.iload_n 2, 1), (.dup2, 1), (.iaload, 1), (.iload_n 1, 1), (.iload_n 2, 1)] := rfl
theorem lb_X11_hour_174 : bk_X11_hour.lookup 174 = some [(.invokestatic 104, 3)] := rfl
theorem lb_X11_hour_177 : bk_X11_hour.lookup 177 = some [(.ifCond .eq 7, 3)] := rfl
theorem lb_X11_hour_180 : bk_X11_hour.lookup 180 = some [(.iconst 1, 1), (.goto 4, 3)] := rfl
theorem lb_X11_hour_184 : bk_X11_hour.lookup 184 = some [(.iconst 0, 1)] := rfl
theorem lb_X11_hour_185 : bk_X11_hour.lookup 185 = some [(.isub, 1), (.iastore, 1), (.iinc 2 1, 3), (.goto (-33), 3)] := rfl
theorem lb_X11_hour_193 : bk_X11_hour.lookup 193 = some [(.aload_n 0, 1), (.dup, 1), (.getfield 371, 3), (.iconst 1, 1), (.iadd, 1), (.putfield 371, 3)] := rfl
theorem lb_X11_hour_203 : bk_X11_hour.lookup 203 = some [(.return_, 1)] := rfl
def f_X11_hour_157  : Nat → Int32 → Int32 → PM → Option (Unit × PM)
  | 0, _, _, _ => none
  | f + 1, x1, x2, M =>
    hr_bd (f_X11_pictures M) (fun v2 M2 =>
    if v2 ≤ x2 then
      some ((), hr_si M2 275 35 ((M2.1 275 35) + 1))
    else
      if inB x2 9 = true then 
      hr_bd (f_X11_has x1 x2 M2) (fun v6 M6 =>
      if v6 = 0 then
        if inB x2 9 = true then 
        f_X11_hour_157 f x1 (x2 + 1) (hr_si M6 291 x2.toNatClampNeg ((M2.1 291 x2.toNatClampNeg) - 0)) else none
      else
        if inB x2 9 = true then 
        f_X11_hour_157 f x1 (x2 + 1) (hr_si M6 291 x2.toNatClampNeg ((M2.1 291 x2.toNatClampNeg) - 1)) else none) else none)
theorem g_X11_hour_157   : ∀ (f : Nat) (x1 : Int32) (x2 : Int32) (M : PM) (r : Unit × PM), f_X11_hour_157 f x1 x2 M = some r → hr_G 236 157 [some (.ref 275), some (.int x1), some (.int x2), none, none] [] M (none, r.2) := by
  intro f
  induction f with
  | zero => intro x1 x2 M r h; cases h
  | succ f ih =>
    intro x1 x2 M r h
    rw [f_X11_hour_157.eq_2] at h
    refine hr_Grun mf_X11_hour lb_X11_hour_157 (P := True) (pc' := 159) (ls' := [some (.ref 275), some (.int x1), some (.int x2), none, none]) (st' := [.ref 275, .int x2]) (M' := M) rfl rfl trivial ?_
    refine hr_Fb h (fun v2 M2 e2 h => ?_)
    refine hr_Gcv mf_X11_hour mf_X11_pictures lb_X11_hour_159 (b := 275) (as := []) (rest := [.int x2]) (st2 := [.int v2, .int x2]) (v := some (.int v2)) (M1 := M2) rfl rfl rfl rfl rfl rfl K_275 (g_X11_pictures  _ _ e2) rfl rfl ?_
    refine hr_Grun mf_X11_hour lb_X11_hour_162 (P := True) (pc' := if v2 ≤ x2 then 193 else 165) (ls' := [some (.ref 275), some (.int x1), some (.int x2), none, none]) (st' := []) (M' := M2) rfl rfl trivial ?_
    refine hr_Gif h (fun _ h => ?_) (fun _ h => ?_)
    · refine hr_Grun mf_X11_hour lb_X11_hour_193 (P := hr_K 275 = 10 ∧ (hr_K 275 = 10 ∧ 275 < hr_n) ∧ True) (pc' := 203) (ls' := [some (.ref 275), some (.int x1), some (.int x2), none, none]) (st' := []) (M' := hr_si M2 275 35 ((M2.1 275 35) + 1)) rfl rfl ⟨K_275, ⟨K_275, L_275⟩, trivial⟩ ?_
      cases h
      exact hr_Gret mf_X11_hour lb_X11_hour_203 rfl rfl trivial
    · refine hr_Fg h (fun hg5_0 h => ?_)
      refine hr_Grun mf_X11_hour lb_X11_hour_165 (P := hr_K 275 = 10 ∧ (hr_K 291 = 12 ∧ vp_in x2 (hr_N 291)) ∧ True) (pc' := 174) (ls' := [some (.ref 275), some (.int x1), some (.int x2), none, none]) (st' := [.int x2, .int x1, .int (M2.1 291 x2.toNatClampNeg), .int x2, .ref 291]) (M' := M2) rfl rfl ⟨K_275, ⟨K_291, (inB_N N_291 hg5_0)⟩, trivial⟩ ?_
      refine hr_Fb h (fun v6 M6 e6 h => ?_)
      refine hr_Gcs mf_X11_hour mf_X11_has lb_X11_hour_174 (as := [.int x1, .int x2]) (rest := [.int (M2.1 291 x2.toNatClampNeg), .int x2, .ref 291]) (st2 := [.int v6, .int (M2.1 291 x2.toNatClampNeg), .int x2, .ref 291]) (v := some (.int v6)) (M1 := M6) rfl rfl rfl rfl rfl rfl (g_X11_has x1 x2 _ _ e6) rfl rfl ?_
      refine hr_Grun mf_X11_hour lb_X11_hour_177 (P := True) (pc' := if v6 = 0 then 184 else 180) (ls' := [some (.ref 275), some (.int x1), some (.int x2), none, none]) (st' := [.int (M2.1 291 x2.toNatClampNeg), .int x2, .ref 291]) (M' := M6) rfl rfl trivial ?_
      refine hr_Gif h (fun _ h => ?_) (fun _ h => ?_)
      · refine hr_Grun mf_X11_hour lb_X11_hour_184 (P := True) (pc' := 185) (ls' := [some (.ref 275), some (.int x1), some (.int x2), none, none]) (st' := [.int 0, .int (M2.1 291 x2.toNatClampNeg), .int x2, .ref 291]) (M' := M6) rfl rfl trivial ?_
        refine hr_Fg h (fun hg9_0 h => ?_)
        refine hr_Grun mf_X11_hour lb_X11_hour_185 (P := ((hr_K 291 = 12 ∧ 291 < hr_n) ∧ vp_in x2 (hr_N 291)) ∧ True) (pc' := 157) (ls' := [some (.ref 275), some (.int x1), some (.int (x2 + 1)), none, none]) (st' := []) (M' := hr_si M6 291 x2.toNatClampNeg ((M2.1 291 x2.toNatClampNeg) - 0)) rfl rfl ⟨⟨⟨K_291, L_291⟩, (inB_N N_291 hg9_0)⟩, trivial⟩ ?_
        exact ih x1 (x2 + 1) (hr_si M6 291 x2.toNatClampNeg ((M2.1 291 x2.toNatClampNeg) - 0)) _ h
      · refine hr_Grun mf_X11_hour lb_X11_hour_180 (P := True) (pc' := 185) (ls' := [some (.ref 275), some (.int x1), some (.int x2), none, none]) (st' := [.int 1, .int (M2.1 291 x2.toNatClampNeg), .int x2, .ref 291]) (M' := M6) rfl rfl trivial ?_
        refine hr_Fg h (fun hg11_0 h => ?_)
        refine hr_Grun mf_X11_hour lb_X11_hour_185 (P := ((hr_K 291 = 12 ∧ 291 < hr_n) ∧ vp_in x2 (hr_N 291)) ∧ True) (pc' := 157) (ls' := [some (.ref 275), some (.int x1), some (.int (x2 + 1)), none, none]) (st' := []) (M' := hr_si M6 291 x2.toNatClampNeg ((M2.1 291 x2.toNatClampNeg) - 1)) rfl rfl ⟨⟨⟨K_291, L_291⟩, (inB_N N_291 hg11_0)⟩, trivial⟩ ?_
        exact ih x1 (x2 + 1) (hr_si M6 291 x2.toNatClampNeg ((M2.1 291 x2.toNatClampNeg) - 1)) _ h
def f_X11_hour_104  : Nat → Int32 → Int32 → PM → Option (Unit × PM)
  | 0, _, _, _ => none
  | f + 1, x1, x2, M =>
    hr_bd (f_X11_pictures M) (fun v2 M2 =>
    if v2 ≤ x2 then
      f_X11_hour_157 FU x1 0 M2
    else
      if inB x2 9 = true then if (M2.1 290 x2.toNatClampNeg) = (-1) then
        f_X11_hour_104 f (x1 ||| 0) (x2 + 1) M2
      else
        if inB x2 9 = true then if (M2.1 291 x2.toNatClampNeg) ≤ 0 then
          f_X11_hour_104 f (x1 ||| 0) (x2 + 1) M2
        else
          hr_bd (f_X11_isClashing x2 M2) (fun v12 M12 =>
          if v12 = 0 then
            f_X11_hour_104 f (x1 ||| 0) (x2 + 1) M12
          else
            f_X11_hour_104 f (x1 ||| (jl 1 x2)) (x2 + 1) M12)
        else none
      else none)
theorem g_X11_hour_104   : ∀ (f : Nat) (x1 : Int32) (x2 : Int32) (M : PM) (r : Unit × PM), f_X11_hour_104 f x1 x2 M = some r → hr_G 236 104 [some (.ref 275), some (.int x1), some (.int x2), none, none] [] M (none, r.2) := by
  intro f
  induction f with
  | zero => intro x1 x2 M r h; cases h
  | succ f ih =>
    intro x1 x2 M r h
    rw [f_X11_hour_104.eq_2] at h
    refine hr_Grun mf_X11_hour lb_X11_hour_104 (P := True) (pc' := 106) (ls' := [some (.ref 275), some (.int x1), some (.int x2), none, none]) (st' := [.ref 275, .int x2]) (M' := M) rfl rfl trivial ?_
    refine hr_Fb h (fun v2 M2 e2 h => ?_)
    refine hr_Gcv mf_X11_hour mf_X11_pictures lb_X11_hour_106 (b := 275) (as := []) (rest := [.int x2]) (st2 := [.int v2, .int x2]) (v := some (.int v2)) (M1 := M2) rfl rfl rfl rfl rfl rfl K_275 (g_X11_pictures  _ _ e2) rfl rfl ?_
    refine hr_Grun mf_X11_hour lb_X11_hour_109 (P := True) (pc' := if v2 ≤ x2 then 155 else 112) (ls' := [some (.ref 275), some (.int x1), some (.int x2), none, none]) (st' := []) (M' := M2) rfl rfl trivial ?_
    refine hr_Gif h (fun _ h => ?_) (fun _ h => ?_)
    · refine hr_Grun mf_X11_hour lb_X11_hour_155 (P := True) (pc' := 157) (ls' := [some (.ref 275), some (.int x1), some (.int 0), none, none]) (st' := []) (M' := M2) rfl rfl trivial ?_
      exact g_X11_hour_157 FU x1 0 M2 _ h
    · refine hr_Fg h (fun hg5_0 h => ?_)
      refine hr_Grun mf_X11_hour lb_X11_hour_112 (P := hr_K 275 = 10 ∧ (hr_K 290 = 12 ∧ vp_in x2 (hr_N 290)) ∧ True) (pc' := if (M2.1 290 x2.toNatClampNeg) = (-1) then 146 else 123) (ls' := [some (.ref 275), some (.int x1), some (.int x2), none, none]) (st' := [.int x1]) (M' := M2) rfl rfl ⟨K_275, ⟨K_290, (inB_N N_290 hg5_0)⟩, trivial⟩ ?_
      refine hr_Gif h (fun _ h => ?_) (fun _ h => ?_)
      · refine hr_Grun mf_X11_hour lb_X11_hour_146 (P := True) (pc' := 147) (ls' := [some (.ref 275), some (.int x1), some (.int x2), none, none]) (st' := [.int 0, .int x1]) (M' := M2) rfl rfl trivial ?_
        refine hr_Grun mf_X11_hour lb_X11_hour_147 (P := True) (pc' := 104) (ls' := [some (.ref 275), some (.int (x1 ||| 0)), some (.int (x2 + 1)), none, none]) (st' := []) (M' := M2) rfl rfl trivial ?_
        exact ih (x1 ||| 0) (x2 + 1) M2 _ h
      · refine hr_Fg h (fun hg8_0 h => ?_)
        refine hr_Grun mf_X11_hour lb_X11_hour_123 (P := hr_K 275 = 10 ∧ (hr_K 291 = 12 ∧ vp_in x2 (hr_N 291)) ∧ True) (pc' := if (M2.1 291 x2.toNatClampNeg) ≤ 0 then 146 else 132) (ls' := [some (.ref 275), some (.int x1), some (.int x2), none, none]) (st' := [.int x1]) (M' := M2) rfl rfl ⟨K_275, ⟨K_291, (inB_N N_291 hg8_0)⟩, trivial⟩ ?_
        refine hr_Gif h (fun _ h => ?_) (fun _ h => ?_)
        · refine hr_Grun mf_X11_hour lb_X11_hour_146 (P := True) (pc' := 147) (ls' := [some (.ref 275), some (.int x1), some (.int x2), none, none]) (st' := [.int 0, .int x1]) (M' := M2) rfl rfl trivial ?_
          refine hr_Grun mf_X11_hour lb_X11_hour_147 (P := True) (pc' := 104) (ls' := [some (.ref 275), some (.int (x1 ||| 0)), some (.int (x2 + 1)), none, none]) (st' := []) (M' := M2) rfl rfl trivial ?_
          exact ih (x1 ||| 0) (x2 + 1) M2 _ h
        · refine hr_Grun mf_X11_hour lb_X11_hour_132 (P := True) (pc' := 134) (ls' := [some (.ref 275), some (.int x1), some (.int x2), none, none]) (st' := [.int x2, .ref 275, .int x1]) (M' := M2) rfl rfl trivial ?_
          refine hr_Fb h (fun v12 M12 e12 h => ?_)
          refine hr_Gcv mf_X11_hour mf_X11_isClashing lb_X11_hour_134 (b := 275) (as := [.int x2]) (rest := [.int x1]) (st2 := [.int v12, .int x1]) (v := some (.int v12)) (M1 := M12) rfl rfl rfl rfl rfl rfl K_275 (g_X11_isClashing x2 _ _ e12) rfl rfl ?_
          refine hr_Grun mf_X11_hour lb_X11_hour_137 (P := True) (pc' := if v12 = 0 then 146 else 140) (ls' := [some (.ref 275), some (.int x1), some (.int x2), none, none]) (st' := [.int x1]) (M' := M12) rfl rfl trivial ?_
          refine hr_Gif h (fun _ h => ?_) (fun _ h => ?_)
          · refine hr_Grun mf_X11_hour lb_X11_hour_146 (P := True) (pc' := 147) (ls' := [some (.ref 275), some (.int x1), some (.int x2), none, none]) (st' := [.int 0, .int x1]) (M' := M12) rfl rfl trivial ?_
            refine hr_Grun mf_X11_hour lb_X11_hour_147 (P := True) (pc' := 104) (ls' := [some (.ref 275), some (.int (x1 ||| 0)), some (.int (x2 + 1)), none, none]) (st' := []) (M' := M12) rfl rfl trivial ?_
            exact ih (x1 ||| 0) (x2 + 1) M12 _ h
          · refine hr_Grun mf_X11_hour lb_X11_hour_140 (P := True) (pc' := 147) (ls' := [some (.ref 275), some (.int x1), some (.int x2), none, none]) (st' := [.int (jl 1 x2), .int x1]) (M' := M12) rfl rfl trivial ?_
            refine hr_Grun mf_X11_hour lb_X11_hour_147 (P := True) (pc' := 104) (ls' := [some (.ref 275), some (.int (x1 ||| (jl 1 x2))), some (.int (x2 + 1)), none, none]) (st' := []) (M' := M12) rfl rfl trivial ?_
            exact ih (x1 ||| (jl 1 x2)) (x2 + 1) M12 _ h
def f_X11_hour_57  (k4 : Int32 → Int32 → PM → Option (Unit × PM)) : Nat → Int32 → Int32 → Int32 → Int32 → PM → Option (Unit × PM)
  | 0, _, _, _, _, _ => none
  | f + 1, x1, x2, x3, x4, M =>
    if 6 ≤ x4 then
      k4 x1 (x2 + 1) M
    else
      if inB x4 6 = true then if inB x4 6 = true then if (M.1 292 x4.toNatClampNeg) = x2 then
        if inB x4 6 = true then 
        f_X11_hour_57 k4 f x1 x2 x3 (x4 + 1) (hr_si M 294 x4.toNatClampNeg ((M.1 294 x4.toNatClampNeg) + x3)) else none
      else
        if inB x4 6 = true then 
        f_X11_hour_57 k4 f x1 x2 x3 (x4 + 1) (hr_si M 294 x4.toNatClampNeg ((M.1 294 x4.toNatClampNeg) + 0)) else none
      else none else none
theorem g_X11_hour_57   (k4 : Int32 → Int32 → PM → Option (Unit × PM)) (hk4 : ∀ (x1 : Int32) (x2 : Int32) (M : PM) (r : Unit × PM), k4 x1 x2 M = some r → hr_G 236 4 [some (.ref 275), some (.int x1), some (.int x2), none, none] [] M (none, r.2)) : ∀ (f : Nat) (x1 : Int32) (x2 : Int32) (x3 : Int32) (x4 : Int32) (M : PM) (r : Unit × PM), f_X11_hour_57 k4 f x1 x2 x3 x4 M = some r → hr_G 236 57 [some (.ref 275), some (.int x1), some (.int x2), some (.int x3), some (.int x4)] [] M (none, r.2) := by
  intro f
  induction f with
  | zero => intro x1 x2 x3 x4 M r h; cases h
  | succ f ih =>
    intro x1 x2 x3 x4 M r h
    rw [f_X11_hour_57.eq_2] at h
    refine hr_Grun mf_X11_hour lb_X11_hour_57 (P := True) (pc' := if 6 ≤ x4 then 96 else 64) (ls' := [some (.ref 275), some (.int x1), some (.int x2), some (.int x3), some (.int x4)]) (st' := []) (M' := M) rfl rfl trivial ?_
    refine hr_Gif h (fun _ h => ?_) (fun _ h => ?_)
    · refine hr_Grun mf_X11_hour lb_X11_hour_96 (P := True) (pc' := 4) (ls' := [some (.ref 275), some (.int x1), some (.int (x2 + 1)), some (.int x3), some (.int x4)]) (st' := []) (M' := M) rfl rfl trivial ?_
      refine hr_Gle (ls := [some (.ref 275), some (.int x1), some (.int (x2 + 1)), none, none]) (hr_le_s (hr_le_s (hr_le_s (hr_le_n (hr_le_n hr_le_0))))) ?_
      exact hk4 x1 (x2 + 1) M _ h
    · refine hr_Fg h (fun hg3_0 h => ?_)
      refine hr_Fg h (fun hg3_1 h => ?_)
      refine hr_Grun mf_X11_hour lb_X11_hour_64 (P := hr_K 275 = 10 ∧ (hr_K 294 = 12 ∧ vp_in x4 (hr_N 294)) ∧ hr_K 275 = 10 ∧ (hr_K 292 = 12 ∧ vp_in x4 (hr_N 292)) ∧ True) (pc' := if (M.1 292 x4.toNatClampNeg) = x2 then 83 else 87) (ls' := [some (.ref 275), some (.int x1), some (.int x2), some (.int x3), some (.int x4)]) (st' := [.int (M.1 294 x4.toNatClampNeg), .int x4, .ref 294]) (M' := M) rfl rfl ⟨K_275, ⟨K_294, (inB_N N_294 hg3_0)⟩, K_275, ⟨K_292, (inB_N N_292 hg3_1)⟩, trivial⟩ ?_
      refine hr_Gif h (fun _ h => ?_) (fun _ h => ?_)
      · refine hr_Grun mf_X11_hour lb_X11_hour_83 (P := True) (pc' := 88) (ls' := [some (.ref 275), some (.int x1), some (.int x2), some (.int x3), some (.int x4)]) (st' := [.int x3, .int (M.1 294 x4.toNatClampNeg), .int x4, .ref 294]) (M' := M) rfl rfl trivial ?_
        refine hr_Fg h (fun hg5_0 h => ?_)
        refine hr_Grun mf_X11_hour lb_X11_hour_88 (P := ((hr_K 294 = 12 ∧ 294 < hr_n) ∧ vp_in x4 (hr_N 294)) ∧ True) (pc' := 57) (ls' := [some (.ref 275), some (.int x1), some (.int x2), some (.int x3), some (.int (x4 + 1))]) (st' := []) (M' := hr_si M 294 x4.toNatClampNeg ((M.1 294 x4.toNatClampNeg) + x3)) rfl rfl ⟨⟨⟨K_294, L_294⟩, (inB_N N_294 hg5_0)⟩, trivial⟩ ?_
        exact ih x1 x2 x3 (x4 + 1) (hr_si M 294 x4.toNatClampNeg ((M.1 294 x4.toNatClampNeg) + x3)) _ h
      · refine hr_Grun mf_X11_hour lb_X11_hour_87 (P := True) (pc' := 88) (ls' := [some (.ref 275), some (.int x1), some (.int x2), some (.int x3), some (.int x4)]) (st' := [.int 0, .int (M.1 294 x4.toNatClampNeg), .int x4, .ref 294]) (M' := M) rfl rfl trivial ?_
        refine hr_Fg h (fun hg7_0 h => ?_)
        refine hr_Grun mf_X11_hour lb_X11_hour_88 (P := ((hr_K 294 = 12 ∧ 294 < hr_n) ∧ vp_in x4 (hr_N 294)) ∧ True) (pc' := 57) (ls' := [some (.ref 275), some (.int x1), some (.int x2), some (.int x3), some (.int (x4 + 1))]) (st' := []) (M' := hr_si M 294 x4.toNatClampNeg ((M.1 294 x4.toNatClampNeg) + 0)) rfl rfl ⟨⟨⟨K_294, L_294⟩, (inB_N N_294 hg7_0)⟩, trivial⟩ ?_
        exact ih x1 x2 x3 (x4 + 1) (hr_si M 294 x4.toNatClampNeg ((M.1 294 x4.toNatClampNeg) + 0)) _ h
def f_X11_hour_4  : Nat → Int32 → Int32 → PM → Option (Unit × PM)
  | 0, _, _, _ => none
  | f + 1, x1, x2, M =>
    if 4 ≤ x2 then
      f_X11_hour_104 FU x1 0 M
    else
      hr_bd (f_X11_rash x2 M) (fun v4 M4 =>
      hr_bd (f_X11_limit (hr_si M4 275 36 ((M4.1 275 36) + v4))) (fun v6 M6 =>
      if v4 ≤ v6 then
        f_X11_hour_57 (fun x1 x2 M => f_X11_hour_4 f x1 x2 M) FU x1 x2 v4 0 M6
      else
        if (M6.1 275 37) = (-1) then
          f_X11_hour_57 (fun x1 x2 M => f_X11_hour_4 f x1 x2 M) FU x1 x2 v4 0 (hr_si (hr_si M6 275 37 (M6.1 275 35)) 275 38 x2)
        else
          f_X11_hour_57 (fun x1 x2 M => f_X11_hour_4 f x1 x2 M) FU x1 x2 v4 0 M6))
theorem g_X11_hour_4   : ∀ (f : Nat) (x1 : Int32) (x2 : Int32) (M : PM) (r : Unit × PM), f_X11_hour_4 f x1 x2 M = some r → hr_G 236 4 [some (.ref 275), some (.int x1), some (.int x2), none, none] [] M (none, r.2) := by
  intro f
  induction f with
  | zero => intro x1 x2 M r h; cases h
  | succ f ih =>
    intro x1 x2 M r h
    rw [f_X11_hour_4.eq_2] at h
    refine hr_Grun mf_X11_hour lb_X11_hour_4 (P := True) (pc' := if 4 ≤ x2 then 102 else 9) (ls' := [some (.ref 275), some (.int x1), some (.int x2), none, none]) (st' := []) (M' := M) rfl rfl trivial ?_
    refine hr_Gif h (fun _ h => ?_) (fun _ h => ?_)
    · refine hr_Grun mf_X11_hour lb_X11_hour_102 (P := True) (pc' := 104) (ls' := [some (.ref 275), some (.int x1), some (.int 0), none, none]) (st' := []) (M' := M) rfl rfl trivial ?_
      exact g_X11_hour_104 FU x1 0 M _ h
    · refine hr_Grun mf_X11_hour lb_X11_hour_9 (P := True) (pc' := 11) (ls' := [some (.ref 275), some (.int x1), some (.int x2), none, none]) (st' := [.int x2, .ref 275]) (M' := M) rfl rfl trivial ?_
      refine hr_Fb h (fun v4 M4 e4 h => ?_)
      refine hr_Gcv mf_X11_hour mf_X11_rash lb_X11_hour_11 (b := 275) (as := [.int x2]) (rest := []) (st2 := [.int v4]) (v := some (.int v4)) (M1 := M4) rfl rfl rfl rfl rfl rfl K_275 (g_X11_rash x2 _ _ e4) rfl rfl ?_
      refine hr_Grun mf_X11_hour lb_X11_hour_14 (P := hr_K 275 = 10 ∧ (hr_K 275 = 10 ∧ 275 < hr_n) ∧ True) (pc' := 27) (ls' := [some (.ref 275), some (.int x1), some (.int x2), some (.int v4), none]) (st' := [.ref 275, .int v4]) (M' := hr_si M4 275 36 ((M4.1 275 36) + v4)) rfl rfl ⟨K_275, ⟨K_275, L_275⟩, trivial⟩ ?_
      refine hr_Fb h (fun v6 M6 e6 h => ?_)
      refine hr_Gcv mf_X11_hour mf_X11_limit lb_X11_hour_27 (b := 275) (as := []) (rest := [.int v4]) (st2 := [.int v6, .int v4]) (v := some (.int v6)) (M1 := M6) rfl rfl rfl rfl rfl rfl K_275 (g_X11_limit  _ _ e6) rfl rfl ?_
      refine hr_Grun mf_X11_hour lb_X11_hour_30 (P := True) (pc' := if v4 ≤ v6 then 54 else 33) (ls' := [some (.ref 275), some (.int x1), some (.int x2), some (.int v4), none]) (st' := []) (M' := M6) rfl rfl trivial ?_
      refine hr_Gif h (fun _ h => ?_) (fun _ h => ?_)
      · refine hr_Grun mf_X11_hour lb_X11_hour_54 (P := True) (pc' := 57) (ls' := [some (.ref 275), some (.int x1), some (.int x2), some (.int v4), some (.int 0)]) (st' := []) (M' := M6) rfl rfl trivial ?_
        exact g_X11_hour_57 (fun x1 x2 M => f_X11_hour_4 f x1 x2 M) (fun x1 x2 M r h => ih x1 x2 M r h) FU x1 x2 v4 0 M6 _ h
      · refine hr_Grun mf_X11_hour lb_X11_hour_33 (P := hr_K 275 = 10 ∧ True) (pc' := if (M6.1 275 37) = (-1) then 41 else 54) (ls' := [some (.ref 275), some (.int x1), some (.int x2), some (.int v4), none]) (st' := []) (M' := M6) rfl rfl ⟨K_275, trivial⟩ ?_
        refine hr_Gif h (fun _ h => ?_) (fun _ h => ?_)
        · refine hr_Grun mf_X11_hour lb_X11_hour_41 (P := hr_K 275 = 10 ∧ (hr_K 275 = 10 ∧ 275 < hr_n) ∧ (hr_K 275 = 10 ∧ 275 < hr_n) ∧ True) (pc' := 54) (ls' := [some (.ref 275), some (.int x1), some (.int x2), some (.int v4), none]) (st' := []) (M' := hr_si (hr_si M6 275 37 (M6.1 275 35)) 275 38 x2) rfl rfl ⟨K_275, ⟨K_275, L_275⟩, ⟨K_275, L_275⟩, trivial⟩ ?_
          refine hr_Grun mf_X11_hour lb_X11_hour_54 (P := True) (pc' := 57) (ls' := [some (.ref 275), some (.int x1), some (.int x2), some (.int v4), some (.int 0)]) (st' := []) (M' := hr_si (hr_si M6 275 37 (M6.1 275 35)) 275 38 x2) rfl rfl trivial ?_
          exact g_X11_hour_57 (fun x1 x2 M => f_X11_hour_4 f x1 x2 M) (fun x1 x2 M r h => ih x1 x2 M r h) FU x1 x2 v4 0 (hr_si (hr_si M6 275 37 (M6.1 275 35)) 275 38 x2) _ h
        · refine hr_Grun mf_X11_hour lb_X11_hour_54 (P := True) (pc' := 57) (ls' := [some (.ref 275), some (.int x1), some (.int x2), some (.int v4), some (.int 0)]) (st' := []) (M' := M6) rfl rfl trivial ?_
          exact g_X11_hour_57 (fun x1 x2 M => f_X11_hour_4 f x1 x2 M) (fun x1 x2 M r h => ih x1 x2 M r h) FU x1 x2 v4 0 M6 _ h
def f_X11_hour (M : PM) : Option (Unit × PM) :=
  f_X11_hour_4 FU 0 0 M
theorem g_X11_hour  : ∀ (M : PM) (r : Unit × PM), f_X11_hour M = some r → hr_G 236 0 [some (.ref 275), none, none, none, none] [] M (none, r.2) := by
  intro M r h
  unfold f_X11_hour at h
  refine hr_Grun mf_X11_hour lb_X11_hour_0 (P := True) (pc' := 4) (ls' := [some (.ref 275), some (.int 0), some (.int 0), none, none]) (st' := []) (M' := M) rfl rfl trivial ?_
  exact g_X11_hour_4 FU 0 0 M _ h
theorem mf_X11_does : hr_mf 237 11 4 (some .boolean) 4 1 bk_X11_does := ⟨rfl, rfl, rfl, rfl, rfl, rfl⟩
theorem lb_X11_does_0 : bk_X11_does.lookup 0 = some [(.aload_n 0, 1), (.iload_n 1, 1), (.iconst 1, 1)] := rfl
theorem lb_X11_does_3 : bk_X11_does.lookup 3 = some [(.invokevirtual 368, 3)] := rfl
theorem lb_X11_does_6 : bk_X11_does.lookup 6 = some [(.istore_n 2, 1), (.aload_n 0, 1), (.iload_n 1, 1), (.iconst 2, 1)] := rfl
theorem lb_X11_does_10 : bk_X11_does.lookup 10 = some [(.invokevirtual 368, 3)] := rfl
theorem lb_X11_does_13 : bk_X11_does.lookup 13 = some [(.istore_n 3, 1), (.aload_n 0, 1), (.iload_n 1, 1), (.iconst 0, 1)] := rfl
theorem lb_X11_does_17 : bk_X11_does.lookup 17 = some [(.invokevirtual 368, 3)] := rfl
theorem lb_X11_does_20 : bk_X11_does.lookup 20 = some [(.tableswitch 155 0 4 #[36, 65, 94, 113, 134], 36)] := rfl
theorem lb_X11_does_56 : bk_X11_does.lookup 56 = some [(.iload_n 2, 1), (.aload_n 0, 1)] := rfl
theorem lb_X11_does_58 : bk_X11_does.lookup 58 = some [(.invokevirtual 347, 3)] := rfl
theorem lb_X11_does_61 : bk_X11_does.lookup 61 = some [(.if_icmp .ge 13, 3)] := rfl
theorem lb_X11_does_64 : bk_X11_does.lookup 64 = some [(.aload_n 0, 1), (.getfield 53, 3), (.iload_n 2, 1), (.iaload, 1), (.iconst (-1), 1), (.if_icmp .eq 5, 3)] := rfl
theorem lb_X11_does_74 : bk_X11_does.lookup 74 = some [(.iconst 0, 1)] := rfl
theorem lb_X11_does_75 : bk_X11_does.lookup 75 = some [(.ireturn, 1)] := rfl
theorem lb_X11_does_76 : bk_X11_does.lookup 76 = some [(.aload_n 0, 1), (.getfield 53, 3), (.iload_n 2, 1), (.iload_n 3, 1), (.iastore, 1), (.iconst 1, 1)] := rfl
theorem lb_X11_does_84 : bk_X11_does.lookup 84 = some [(.ireturn, 1)] := rfl
theorem lb_X11_does_85 : bk_X11_does.lookup 85 = some [(.iload_n 2, 1), (.aload_n 0, 1)] := rfl
theorem lb_X11_does_87 : bk_X11_does.lookup 87 = some [(.invokevirtual 347, 3)] := rfl
theorem lb_X11_does_90 : bk_X11_does.lookup 90 = some [(.if_icmp .ge 13, 3)] := rfl
theorem lb_X11_does_93 : bk_X11_does.lookup 93 = some [(.aload_n 0, 1), (.getfield 53, 3), (.iload_n 2, 1), (.iaload, 1), (.iconst (-1), 1), (.if_icmp .ne 5, 3)] := rfl
theorem lb_X11_does_103 : bk_X11_does.lookup 103 = some [(.iconst 0, 1)] := rfl
theorem lb_X11_does_104 : bk_X11_does.lookup 104 = some [(.ireturn, 1)] := rfl
theorem lb_X11_does_105 : bk_X11_does.lookup 105 = some [(.aload_n 0, 1), (.getfield 53, 3), (.iload_n 2, 1), (.iconst (-1), 1), (.iastore, 1), (.iconst 1, 1)] := rfl
theorem lb_X11_does_113 : bk_X11_does.lookup 113 = some [(.ireturn, 1)] := rfl
theorem lb_X11_does_114 : bk_X11_does.lookup 114 = some [(.aload_n 0, 1), (.iload_n 3, 1)] := rfl
theorem lb_X11_does_116 : bk_X11_does.lookup 116 = some [(.invokevirtual 329, 3)] := rfl
theorem lb_X11_does_119 : bk_X11_does.lookup 119 = some [(.ifCond .ne 5, 3)] := rfl
theorem lb_X11_does_122 : bk_X11_does.lookup 122 = some [(.iconst 0, 1)] := rfl
theorem lb_X11_does_123 : bk_X11_does.lookup 123 = some [(.ireturn, 1)] := rfl
theorem lb_X11_does_124 : bk_X11_does.lookup 124 = some [(.aload_n 0, 1), (.getfield 62, 3), (.iload_n 2, 1), (.iload_n 3, 1), (.iastore, 1), (.iconst 1, 1)] := rfl
theorem lb_X11_does_132 : bk_X11_does.lookup 132 = some [(.ireturn, 1)] := rfl
theorem lb_X11_does_133 : bk_X11_does.lookup 133 = some [(.aload_n 0, 1), (.getfield 59, 3), (.iload_n 2, 1), (.iaload, 1), (.iconst (-1), 1), (.if_icmp .eq 5, 3)] := rfl
theorem lb_X11_does_143 : bk_X11_does.lookup 143 = some [(.iconst 0, 1)] := rfl
theorem lb_X11_does_144 : bk_X11_does.lookup 144 = some [(.ireturn, 1)] := rfl
theorem lb_X11_does_145 : bk_X11_does.lookup 145 = some [(.aload_n 0, 1), (.getfield 59, 3), (.iload_n 2, 1), (.iload_n 3, 1), (.iastore, 1), (.iconst 1, 1)] := rfl
theorem lb_X11_does_153 : bk_X11_does.lookup 153 = some [(.ireturn, 1)] := rfl
theorem lb_X11_does_154 : bk_X11_does.lookup 154 = some [(.aload_n 0, 1), (.getfield 59, 3), (.iload_n 2, 1), (.iaload, 1), (.iconst (-1), 1), (.if_icmp .ne 5, 3)] := rfl
theorem lb_X11_does_164 : bk_X11_does.lookup 164 = some [(.iconst 0, 1)] := rfl
theorem lb_X11_does_165 : bk_X11_does.lookup 165 = some [(.ireturn, 1)] := rfl
theorem lb_X11_does_166 : bk_X11_does.lookup 166 = some [(.aload_n 0, 1), (.getfield 59, 3), (.iload_n 2, 1), (.iconst (-1), 1), (.iastore, 1), (.iconst 1, 1)] := rfl
theorem lb_X11_does_174 : bk_X11_does.lookup 174 = some [(.ireturn, 1)] := rfl
theorem lb_X11_does_175 : bk_X11_does.lookup 175 = some [(.aload_n 0, 1)] := rfl
theorem lb_X11_does_176 : bk_X11_does.lookup 176 = some [(.invokevirtual 392, 3)] := rfl
theorem lb_X11_does_179 : bk_X11_does.lookup 179 = some [(.iconst 1, 1)] := rfl
theorem lb_X11_does_180 : bk_X11_does.lookup 180 = some [(.ireturn, 1)] := rfl
def f_X11_does (a1 : Int32) (M : PM) : Option (Int32 × PM) :=
  hr_bd (f_X11_deedOf a1 1 M) (fun v2 M2 =>
  hr_bd (f_X11_deedOf a1 2 M2) (fun v4 M4 =>
  hr_bd (f_X11_deedOf a1 0 M4) (fun v6 M6 =>
  if v6 = 0 then
    hr_bd (f_X11_pictures M6) (fun v9 M9 =>
    if v9 ≤ v2 then
      some (0, M9)
    else
      if inB v2 9 = true then if (M9.1 290 v2.toNatClampNeg) = (-1) then
        if inB v2 9 = true then 
        some (1, hr_si M9 290 v2.toNatClampNeg v4) else none
      else
        some (0, M9)
      else none)
  else if v6 = 1 then
    hr_bd (f_X11_pictures M6) (fun v16 M16 =>
    if v16 ≤ v2 then
      some (0, M16)
    else
      if inB v2 9 = true then if (M16.1 290 v2.toNatClampNeg) = (-1) then
        some (0, M16)
      else
        if inB v2 9 = true then 
        some (1, hr_si M16 290 v2.toNatClampNeg (-1)) else none
      else none)
  else if v6 = 2 then
    hr_bd (f_X11_isHue v4 M6) (fun v23 M23 =>
    if v23 = 0 then
      some (0, M23)
    else
      if inB v2 6 = true then 
      some (1, hr_si M23 293 v2.toNatClampNeg v4) else none)
  else if v6 = 3 then
    if inB v2 6 = true then if (M6.1 292 v2.toNatClampNeg) = (-1) then
      if inB v2 6 = true then 
      some (1, hr_si M6 292 v2.toNatClampNeg v4) else none
    else
      some (0, M6)
    else none
  else if v6 = 4 then
    if inB v2 6 = true then if (M6.1 292 v2.toNatClampNeg) = (-1) then
      some (0, M6)
    else
      if inB v2 6 = true then 
      some (1, hr_si M6 292 v2.toNatClampNeg (-1)) else none
    else none
  else 
    hr_bd (f_X11_hour M6) (fun v34 M34 =>
    some (1, M34)))))
theorem g_X11_does (a1 : Int32) : ∀ (M : PM) (r : Int32 × PM), f_X11_does a1 M = some r → hr_G 237 0 [some (.ref 275), some (.int a1), none, none] [] M (some (.int r.1), r.2) := by
  intro M r h
  unfold f_X11_does at h
  refine hr_Grun mf_X11_does lb_X11_does_0 (P := True) (pc' := 3) (ls' := [some (.ref 275), some (.int a1), none, none]) (st' := [.int 1, .int a1, .ref 275]) (M' := M) rfl rfl trivial ?_
  refine hr_Fb h (fun v2 M2 e2 h => ?_)
  refine hr_Gcv mf_X11_does mf_X11_deedOf lb_X11_does_3 (b := 275) (as := [.int a1, .int 1]) (rest := []) (st2 := [.int v2]) (v := some (.int v2)) (M1 := M2) rfl rfl rfl rfl rfl rfl K_275 (g_X11_deedOf a1 1 _ _ e2) rfl rfl ?_
  refine hr_Grun mf_X11_does lb_X11_does_6 (P := True) (pc' := 10) (ls' := [some (.ref 275), some (.int a1), some (.int v2), none]) (st' := [.int 2, .int a1, .ref 275]) (M' := M2) rfl rfl trivial ?_
  refine hr_Fb h (fun v4 M4 e4 h => ?_)
  refine hr_Gcv mf_X11_does mf_X11_deedOf lb_X11_does_10 (b := 275) (as := [.int a1, .int 2]) (rest := []) (st2 := [.int v4]) (v := some (.int v4)) (M1 := M4) rfl rfl rfl rfl rfl rfl K_275 (g_X11_deedOf a1 2 _ _ e4) rfl rfl ?_
  refine hr_Grun mf_X11_does lb_X11_does_13 (P := True) (pc' := 17) (ls' := [some (.ref 275), some (.int a1), some (.int v2), some (.int v4)]) (st' := [.int 0, .int a1, .ref 275]) (M' := M4) rfl rfl trivial ?_
  refine hr_Fb h (fun v6 M6 e6 h => ?_)
  refine hr_Gcv mf_X11_does mf_X11_deedOf lb_X11_does_17 (b := 275) (as := [.int a1, .int 0]) (rest := []) (st2 := [.int v6]) (v := some (.int v6)) (M1 := M6) rfl rfl rfl rfl rfl rfl K_275 (g_X11_deedOf a1 0 _ _ e6) rfl rfl ?_
  refine hr_Grun mf_X11_does lb_X11_does_20 (P := True) (pc' := if v6 = 0 then 56 else if v6 = 1 then 85 else if v6 = 2 then 114 else if v6 = 3 then 133 else if v6 = 4 then 154 else 175) (ls' := [some (.ref 275), some (.int a1), some (.int v2), some (.int v4)]) (st' := []) (M' := M6) rfl rfl trivial ?_
  refine hr_Gif h (fun _ h => ?_) (fun _ h => ?_)
  · refine hr_Grun mf_X11_does lb_X11_does_56 (P := True) (pc' := 58) (ls' := [some (.ref 275), some (.int a1), some (.int v2), some (.int v4)]) (st' := [.ref 275, .int v2]) (M' := M6) rfl rfl trivial ?_
    refine hr_Fb h (fun v9 M9 e9 h => ?_)
    refine hr_Gcv mf_X11_does mf_X11_pictures lb_X11_does_58 (b := 275) (as := []) (rest := [.int v2]) (st2 := [.int v9, .int v2]) (v := some (.int v9)) (M1 := M9) rfl rfl rfl rfl rfl rfl K_275 (g_X11_pictures  _ _ e9) rfl rfl ?_
    refine hr_Grun mf_X11_does lb_X11_does_61 (P := True) (pc' := if v9 ≤ v2 then 74 else 64) (ls' := [some (.ref 275), some (.int a1), some (.int v2), some (.int v4)]) (st' := []) (M' := M9) rfl rfl trivial ?_
    refine hr_Gif h (fun _ h => ?_) (fun _ h => ?_)
    · refine hr_Grun mf_X11_does lb_X11_does_74 (P := True) (pc' := 75) (ls' := [some (.ref 275), some (.int a1), some (.int v2), some (.int v4)]) (st' := [.int 0]) (M' := M9) rfl rfl trivial ?_
      cases h
      exact hr_Gret mf_X11_does lb_X11_does_75 rfl rfl (Or.inl rfl)
    · refine hr_Fg h (fun hg12_0 h => ?_)
      refine hr_Grun mf_X11_does lb_X11_does_64 (P := hr_K 275 = 10 ∧ (hr_K 290 = 12 ∧ vp_in v2 (hr_N 290)) ∧ True) (pc' := if (M9.1 290 v2.toNatClampNeg) = (-1) then 76 else 74) (ls' := [some (.ref 275), some (.int a1), some (.int v2), some (.int v4)]) (st' := []) (M' := M9) rfl rfl ⟨K_275, ⟨K_290, (inB_N N_290 hg12_0)⟩, trivial⟩ ?_
      refine hr_Gif h (fun _ h => ?_) (fun _ h => ?_)
      · refine hr_Fg h (fun hg13_0 h => ?_)
        refine hr_Grun mf_X11_does lb_X11_does_76 (P := hr_K 275 = 10 ∧ ((hr_K 290 = 12 ∧ 290 < hr_n) ∧ vp_in v2 (hr_N 290)) ∧ True) (pc' := 84) (ls' := [some (.ref 275), some (.int a1), some (.int v2), some (.int v4)]) (st' := [.int 1]) (M' := hr_si M9 290 v2.toNatClampNeg v4) rfl rfl ⟨K_275, ⟨⟨K_290, L_290⟩, (inB_N N_290 hg13_0)⟩, trivial⟩ ?_
        cases h
        exact hr_Gret mf_X11_does lb_X11_does_84 rfl rfl (Or.inr rfl)
      · refine hr_Grun mf_X11_does lb_X11_does_74 (P := True) (pc' := 75) (ls' := [some (.ref 275), some (.int a1), some (.int v2), some (.int v4)]) (st' := [.int 0]) (M' := M9) rfl rfl trivial ?_
        cases h
        exact hr_Gret mf_X11_does lb_X11_does_75 rfl rfl (Or.inl rfl)
  refine hr_Gif h (fun _ h => ?_) (fun _ h => ?_)
  · refine hr_Grun mf_X11_does lb_X11_does_85 (P := True) (pc' := 87) (ls' := [some (.ref 275), some (.int a1), some (.int v2), some (.int v4)]) (st' := [.ref 275, .int v2]) (M' := M6) rfl rfl trivial ?_
    refine hr_Fb h (fun v16 M16 e16 h => ?_)
    refine hr_Gcv mf_X11_does mf_X11_pictures lb_X11_does_87 (b := 275) (as := []) (rest := [.int v2]) (st2 := [.int v16, .int v2]) (v := some (.int v16)) (M1 := M16) rfl rfl rfl rfl rfl rfl K_275 (g_X11_pictures  _ _ e16) rfl rfl ?_
    refine hr_Grun mf_X11_does lb_X11_does_90 (P := True) (pc' := if v16 ≤ v2 then 103 else 93) (ls' := [some (.ref 275), some (.int a1), some (.int v2), some (.int v4)]) (st' := []) (M' := M16) rfl rfl trivial ?_
    refine hr_Gif h (fun _ h => ?_) (fun _ h => ?_)
    · refine hr_Grun mf_X11_does lb_X11_does_103 (P := True) (pc' := 104) (ls' := [some (.ref 275), some (.int a1), some (.int v2), some (.int v4)]) (st' := [.int 0]) (M' := M16) rfl rfl trivial ?_
      cases h
      exact hr_Gret mf_X11_does lb_X11_does_104 rfl rfl (Or.inl rfl)
    · refine hr_Fg h (fun hg19_0 h => ?_)
      refine hr_Grun mf_X11_does lb_X11_does_93 (P := hr_K 275 = 10 ∧ (hr_K 290 = 12 ∧ vp_in v2 (hr_N 290)) ∧ True) (pc' := if (M16.1 290 v2.toNatClampNeg) = (-1) then 103 else 105) (ls' := [some (.ref 275), some (.int a1), some (.int v2), some (.int v4)]) (st' := []) (M' := M16) rfl rfl ⟨K_275, ⟨K_290, (inB_N N_290 hg19_0)⟩, trivial⟩ ?_
      refine hr_Gif h (fun _ h => ?_) (fun _ h => ?_)
      · refine hr_Grun mf_X11_does lb_X11_does_103 (P := True) (pc' := 104) (ls' := [some (.ref 275), some (.int a1), some (.int v2), some (.int v4)]) (st' := [.int 0]) (M' := M16) rfl rfl trivial ?_
        cases h
        exact hr_Gret mf_X11_does lb_X11_does_104 rfl rfl (Or.inl rfl)
      · refine hr_Fg h (fun hg21_0 h => ?_)
        refine hr_Grun mf_X11_does lb_X11_does_105 (P := hr_K 275 = 10 ∧ ((hr_K 290 = 12 ∧ 290 < hr_n) ∧ vp_in v2 (hr_N 290)) ∧ True) (pc' := 113) (ls' := [some (.ref 275), some (.int a1), some (.int v2), some (.int v4)]) (st' := [.int 1]) (M' := hr_si M16 290 v2.toNatClampNeg (-1)) rfl rfl ⟨K_275, ⟨⟨K_290, L_290⟩, (inB_N N_290 hg21_0)⟩, trivial⟩ ?_
        cases h
        exact hr_Gret mf_X11_does lb_X11_does_113 rfl rfl (Or.inr rfl)
  refine hr_Gif h (fun _ h => ?_) (fun _ h => ?_)
  · refine hr_Grun mf_X11_does lb_X11_does_114 (P := True) (pc' := 116) (ls' := [some (.ref 275), some (.int a1), some (.int v2), some (.int v4)]) (st' := [.int v4, .ref 275]) (M' := M6) rfl rfl trivial ?_
    refine hr_Fb h (fun v23 M23 e23 h => ?_)
    refine hr_Gcv mf_X11_does mf_X11_isHue lb_X11_does_116 (b := 275) (as := [.int v4]) (rest := []) (st2 := [.int v23]) (v := some (.int v23)) (M1 := M23) rfl rfl rfl rfl rfl rfl K_275 (g_X11_isHue v4 _ _ e23) rfl rfl ?_
    refine hr_Grun mf_X11_does lb_X11_does_119 (P := True) (pc' := if v23 = 0 then 122 else 124) (ls' := [some (.ref 275), some (.int a1), some (.int v2), some (.int v4)]) (st' := []) (M' := M23) rfl rfl trivial ?_
    refine hr_Gif h (fun _ h => ?_) (fun _ h => ?_)
    · refine hr_Grun mf_X11_does lb_X11_does_122 (P := True) (pc' := 123) (ls' := [some (.ref 275), some (.int a1), some (.int v2), some (.int v4)]) (st' := [.int 0]) (M' := M23) rfl rfl trivial ?_
      cases h
      exact hr_Gret mf_X11_does lb_X11_does_123 rfl rfl (Or.inl rfl)
    · refine hr_Fg h (fun hg26_0 h => ?_)
      refine hr_Grun mf_X11_does lb_X11_does_124 (P := hr_K 275 = 10 ∧ ((hr_K 293 = 12 ∧ 293 < hr_n) ∧ vp_in v2 (hr_N 293)) ∧ True) (pc' := 132) (ls' := [some (.ref 275), some (.int a1), some (.int v2), some (.int v4)]) (st' := [.int 1]) (M' := hr_si M23 293 v2.toNatClampNeg v4) rfl rfl ⟨K_275, ⟨⟨K_293, L_293⟩, (inB_N N_293 hg26_0)⟩, trivial⟩ ?_
      cases h
      exact hr_Gret mf_X11_does lb_X11_does_132 rfl rfl (Or.inr rfl)
  refine hr_Gif h (fun _ h => ?_) (fun _ h => ?_)
  · refine hr_Fg h (fun hg27_0 h => ?_)
    refine hr_Grun mf_X11_does lb_X11_does_133 (P := hr_K 275 = 10 ∧ (hr_K 292 = 12 ∧ vp_in v2 (hr_N 292)) ∧ True) (pc' := if (M6.1 292 v2.toNatClampNeg) = (-1) then 145 else 143) (ls' := [some (.ref 275), some (.int a1), some (.int v2), some (.int v4)]) (st' := []) (M' := M6) rfl rfl ⟨K_275, ⟨K_292, (inB_N N_292 hg27_0)⟩, trivial⟩ ?_
    refine hr_Gif h (fun _ h => ?_) (fun _ h => ?_)
    · refine hr_Fg h (fun hg28_0 h => ?_)
      refine hr_Grun mf_X11_does lb_X11_does_145 (P := hr_K 275 = 10 ∧ ((hr_K 292 = 12 ∧ 292 < hr_n) ∧ vp_in v2 (hr_N 292)) ∧ True) (pc' := 153) (ls' := [some (.ref 275), some (.int a1), some (.int v2), some (.int v4)]) (st' := [.int 1]) (M' := hr_si M6 292 v2.toNatClampNeg v4) rfl rfl ⟨K_275, ⟨⟨K_292, L_292⟩, (inB_N N_292 hg28_0)⟩, trivial⟩ ?_
      cases h
      exact hr_Gret mf_X11_does lb_X11_does_153 rfl rfl (Or.inr rfl)
    · refine hr_Grun mf_X11_does lb_X11_does_143 (P := True) (pc' := 144) (ls' := [some (.ref 275), some (.int a1), some (.int v2), some (.int v4)]) (st' := [.int 0]) (M' := M6) rfl rfl trivial ?_
      cases h
      exact hr_Gret mf_X11_does lb_X11_does_144 rfl rfl (Or.inl rfl)
  refine hr_Gif h (fun _ h => ?_) (fun _ h => ?_)
  · refine hr_Fg h (fun hg30_0 h => ?_)
    refine hr_Grun mf_X11_does lb_X11_does_154 (P := hr_K 275 = 10 ∧ (hr_K 292 = 12 ∧ vp_in v2 (hr_N 292)) ∧ True) (pc' := if (M6.1 292 v2.toNatClampNeg) = (-1) then 164 else 166) (ls' := [some (.ref 275), some (.int a1), some (.int v2), some (.int v4)]) (st' := []) (M' := M6) rfl rfl ⟨K_275, ⟨K_292, (inB_N N_292 hg30_0)⟩, trivial⟩ ?_
    refine hr_Gif h (fun _ h => ?_) (fun _ h => ?_)
    · refine hr_Grun mf_X11_does lb_X11_does_164 (P := True) (pc' := 165) (ls' := [some (.ref 275), some (.int a1), some (.int v2), some (.int v4)]) (st' := [.int 0]) (M' := M6) rfl rfl trivial ?_
      cases h
      exact hr_Gret mf_X11_does lb_X11_does_165 rfl rfl (Or.inl rfl)
    · refine hr_Fg h (fun hg32_0 h => ?_)
      refine hr_Grun mf_X11_does lb_X11_does_166 (P := hr_K 275 = 10 ∧ ((hr_K 292 = 12 ∧ 292 < hr_n) ∧ vp_in v2 (hr_N 292)) ∧ True) (pc' := 174) (ls' := [some (.ref 275), some (.int a1), some (.int v2), some (.int v4)]) (st' := [.int 1]) (M' := hr_si M6 292 v2.toNatClampNeg (-1)) rfl rfl ⟨K_275, ⟨⟨K_292, L_292⟩, (inB_N N_292 hg32_0)⟩, trivial⟩ ?_
      cases h
      exact hr_Gret mf_X11_does lb_X11_does_174 rfl rfl (Or.inr rfl)
  · refine hr_Grun mf_X11_does lb_X11_does_175 (P := True) (pc' := 176) (ls' := [some (.ref 275), some (.int a1), some (.int v2), some (.int v4)]) (st' := [.ref 275]) (M' := M6) rfl rfl trivial ?_
    refine hr_Fb h (fun v34 M34 e34 h => ?_)
    refine hr_Gcv mf_X11_does mf_X11_hour lb_X11_does_176 (b := 275) (as := []) (rest := []) (st2 := []) (v := none) (M1 := M34) rfl rfl rfl rfl rfl rfl K_275 (g_X11_hour  _ _ e34) rfl rfl ?_
    refine hr_Grun mf_X11_does lb_X11_does_179 (P := True) (pc' := 180) (ls' := [some (.ref 275), some (.int a1), some (.int v2), some (.int v4)]) (st' := [.int 1]) (M' := M34) rfl rfl trivial ?_
    cases h
    exact hr_Gret mf_X11_does lb_X11_does_180 rfl rfl (Or.inr rfl)
theorem mf_X11_play : hr_mf 238 11 5 (some .int) 3 1 bk_X11_play := ⟨rfl, rfl, rfl, rfl, rfl, rfl⟩
theorem lb_X11_play_0 : bk_X11_play.lookup 0 = some [(.aload_n 0, 1)] := rfl
theorem lb_X11_play_1 : bk_X11_play.lookup 1 = some [(.invokevirtual 395, 3)] := rfl
theorem lb_X11_play_4 : bk_X11_play.lookup 4 = some [(.iconst 0, 1), (.istore_n 2, 1)] := rfl
theorem lb_X11_play_6 : bk_X11_play.lookup 6 = some [(.iload_n 2, 1), (.iload_n 1, 1), (.if_icmp .ge 17, 3)] := rfl
theorem lb_X11_play_11 : bk_X11_play.lookup 11 = some [(.aload_n 0, 1), (.iload_n 2, 1)] := rfl
theorem lb_X11_play_13 : bk_X11_play.lookup 13 = some [(.invokevirtual 398, 3)] := rfl
theorem lb_X11_play_16 : bk_X11_play.lookup 16 = some [(.ifCond .eq 9, 3)] := rfl
theorem lb_X11_play_19 : bk_X11_play.lookup 19 = some [(.iinc 2 1, 3), (.goto (-16), 3)] := rfl
theorem lb_X11_play_25 : bk_X11_play.lookup 25 = some [(.iload_n 2, 1)] := rfl
theorem lb_X11_play_26 : bk_X11_play.lookup 26 = some [(.ireturn, 1)] := rfl
def f_X11_play_6 (a1 : Int32) : Nat → Int32 → PM → Option (Int32 × PM)
  | 0, _, _ => none
  | f + 1, x2, M =>
    if a1 ≤ x2 then
      some (x2, M)
    else
      hr_bd (f_X11_does x2 M) (fun v4 M4 =>
      if v4 = 0 then
        some (x2, M4)
      else
        f_X11_play_6 a1 f (x2 + 1) M4)
theorem g_X11_play_6 (a1 : Int32)  : ∀ (f : Nat) (x2 : Int32) (M : PM) (r : Int32 × PM), f_X11_play_6 a1 f x2 M = some r → hr_G 238 6 [some (.ref 275), some (.int a1), some (.int x2)] [] M (some (.int r.1), r.2) := by
  intro f
  induction f with
  | zero => intro x2 M r h; cases h
  | succ f ih =>
    intro x2 M r h
    rw [f_X11_play_6.eq_2] at h
    refine hr_Grun mf_X11_play lb_X11_play_6 (P := True) (pc' := if a1 ≤ x2 then 25 else 11) (ls' := [some (.ref 275), some (.int a1), some (.int x2)]) (st' := []) (M' := M) rfl rfl trivial ?_
    refine hr_Gif h (fun _ h => ?_) (fun _ h => ?_)
    · refine hr_Grun mf_X11_play lb_X11_play_25 (P := True) (pc' := 26) (ls' := [some (.ref 275), some (.int a1), some (.int x2)]) (st' := [.int x2]) (M' := M) rfl rfl trivial ?_
      cases h
      exact hr_Gret mf_X11_play lb_X11_play_26 rfl rfl trivial
    · refine hr_Grun mf_X11_play lb_X11_play_11 (P := True) (pc' := 13) (ls' := [some (.ref 275), some (.int a1), some (.int x2)]) (st' := [.int x2, .ref 275]) (M' := M) rfl rfl trivial ?_
      refine hr_Fb h (fun v4 M4 e4 h => ?_)
      refine hr_Gcv mf_X11_play mf_X11_does lb_X11_play_13 (b := 275) (as := [.int x2]) (rest := []) (st2 := [.int v4]) (v := some (.int v4)) (M1 := M4) rfl rfl rfl rfl rfl rfl K_275 (g_X11_does x2 _ _ e4) rfl rfl ?_
      refine hr_Grun mf_X11_play lb_X11_play_16 (P := True) (pc' := if v4 = 0 then 25 else 19) (ls' := [some (.ref 275), some (.int a1), some (.int x2)]) (st' := []) (M' := M4) rfl rfl trivial ?_
      refine hr_Gif h (fun _ h => ?_) (fun _ h => ?_)
      · refine hr_Grun mf_X11_play lb_X11_play_25 (P := True) (pc' := 26) (ls' := [some (.ref 275), some (.int a1), some (.int x2)]) (st' := [.int x2]) (M' := M4) rfl rfl trivial ?_
        cases h
        exact hr_Gret mf_X11_play lb_X11_play_26 rfl rfl trivial
      · refine hr_Grun mf_X11_play lb_X11_play_19 (P := True) (pc' := 6) (ls' := [some (.ref 275), some (.int a1), some (.int (x2 + 1))]) (st' := []) (M' := M4) rfl rfl trivial ?_
        exact ih (x2 + 1) M4 _ h
def f_X11_play (a1 : Int32) (M : PM) : Option (Int32 × PM) :=
  hr_bd (f_X11_begin M) (fun v2 M2 =>
  f_X11_play_6 a1 FU 0 M2)
theorem g_X11_play (a1 : Int32) : ∀ (M : PM) (r : Int32 × PM), f_X11_play a1 M = some r → hr_G 238 0 [some (.ref 275), some (.int a1), none] [] M (some (.int r.1), r.2) := by
  intro M r h
  unfold f_X11_play at h
  refine hr_Grun mf_X11_play lb_X11_play_0 (P := True) (pc' := 1) (ls' := [some (.ref 275), some (.int a1), none]) (st' := [.ref 275]) (M' := M) rfl rfl trivial ?_
  refine hr_Fb h (fun v2 M2 e2 h => ?_)
  refine hr_Gcv mf_X11_play mf_X11_begin lb_X11_play_1 (b := 275) (as := []) (rest := []) (st2 := []) (v := none) (M1 := M2) rfl rfl rfl rfl rfl rfl K_275 (g_X11_begin  _ _ e2) rfl rfl ?_
  refine hr_Grun mf_X11_play lb_X11_play_4 (P := True) (pc' := 6) (ls' := [some (.ref 275), some (.int a1), some (.int 0)]) (st' := []) (M' := M2) rfl rfl trivial ?_
  exact g_X11_play_6 a1 FU 0 M2 _ h
theorem mf_X11_stop : hr_mf 239 11 6 (some .int) 4 3 bk_X11_stop := ⟨rfl, rfl, rfl, rfl, rfl, rfl⟩
theorem lb_X11_stop_0 : bk_X11_stop.lookup 0 = some [(.aload_n 0, 1), (.iconst 0, 1), (.putfield 100, 3), (.aload_n 0, 1), (.iload_n 3, 1)] := rfl
theorem lb_X11_stop_7 : bk_X11_stop.lookup 7 = some [(.invokevirtual 362, 3)] := rfl
theorem lb_X11_stop_10 : bk_X11_stop.lookup 10 = some [(.ifCond .eq 23, 3)] := rfl
theorem lb_X11_stop_13 : bk_X11_stop.lookup 13 = some [(.aload_n 0, 1), (.iload_n 1, 1), (.iload_n 2, 1)] := rfl
theorem lb_X11_stop_16 : bk_X11_stop.lookup 16 = some [(.invokevirtual 401, 3)] := rfl
theorem lb_X11_stop_19 : bk_X11_stop.lookup 19 = some [(.ifCond .eq 14, 3)] := rfl
theorem lb_X11_stop_22 : bk_X11_stop.lookup 22 = some [(.aload_n 0, 1), (.aload_n 0, 1)] := rfl
theorem lb_X11_stop_24 : bk_X11_stop.lookup 24 = some [(.invokevirtual 365, 3)] := rfl
theorem lb_X11_stop_27 : bk_X11_stop.lookup 27 = some [(.invokevirtual 404, 3)] := rfl
theorem lb_X11_stop_30 : bk_X11_stop.lookup 30 = some [(.goto 4, 3)] := rfl
theorem lb_X11_stop_33 : bk_X11_stop.lookup 33 = some [(.iconst (-1), 1)] := rfl
theorem lb_X11_stop_34 : bk_X11_stop.lookup 34 = some [(.ireturn, 1)] := rfl
def f_X11_stop (a1 : Int32) (a2 : Int32) (a3 : Int32) (M : PM) : Option (Int32 × PM) :=
  hr_bd (f_X11_hasDay a3 (hr_si M 275 0 0)) (fun v2 M2 =>
  if v2 = 0 then
    some ((-1), M2)
  else
    hr_bd (f_X11_layGallery a1 a2 M2) (fun v6 M6 =>
    if v6 = 0 then
      some ((-1), M6)
    else
      hr_bd (f_X11_deeds M6) (fun v10 M10 =>
      hr_bd (f_X11_play v10 M10) (fun v11 M11 =>
      some (v11, M11)))))
theorem g_X11_stop (a1 : Int32) (a2 : Int32) (a3 : Int32) : ∀ (M : PM) (r : Int32 × PM), f_X11_stop a1 a2 a3 M = some r → hr_G 239 0 [some (.ref 275), some (.int a1), some (.int a2), some (.int a3)] [] M (some (.int r.1), r.2) := by
  intro M r h
  unfold f_X11_stop at h
  refine hr_Grun mf_X11_stop lb_X11_stop_0 (P := (hr_K 275 = 10 ∧ 275 < hr_n) ∧ True) (pc' := 7) (ls' := [some (.ref 275), some (.int a1), some (.int a2), some (.int a3)]) (st' := [.int a3, .ref 275]) (M' := hr_si M 275 0 0) rfl rfl ⟨⟨K_275, L_275⟩, trivial⟩ ?_
  refine hr_Fb h (fun v2 M2 e2 h => ?_)
  refine hr_Gcv mf_X11_stop mf_X11_hasDay lb_X11_stop_7 (b := 275) (as := [.int a3]) (rest := []) (st2 := [.int v2]) (v := some (.int v2)) (M1 := M2) rfl rfl rfl rfl rfl rfl K_275 (g_X11_hasDay a3 _ _ e2) rfl rfl ?_
  refine hr_Grun mf_X11_stop lb_X11_stop_10 (P := True) (pc' := if v2 = 0 then 33 else 13) (ls' := [some (.ref 275), some (.int a1), some (.int a2), some (.int a3)]) (st' := []) (M' := M2) rfl rfl trivial ?_
  refine hr_Gif h (fun _ h => ?_) (fun _ h => ?_)
  · refine hr_Grun mf_X11_stop lb_X11_stop_33 (P := True) (pc' := 34) (ls' := [some (.ref 275), some (.int a1), some (.int a2), some (.int a3)]) (st' := [.int (-1)]) (M' := M2) rfl rfl trivial ?_
    cases h
    exact hr_Gret mf_X11_stop lb_X11_stop_34 rfl rfl trivial
  · refine hr_Grun mf_X11_stop lb_X11_stop_13 (P := True) (pc' := 16) (ls' := [some (.ref 275), some (.int a1), some (.int a2), some (.int a3)]) (st' := [.int a2, .int a1, .ref 275]) (M' := M2) rfl rfl trivial ?_
    refine hr_Fb h (fun v6 M6 e6 h => ?_)
    refine hr_Gcv mf_X11_stop mf_X11_layGallery lb_X11_stop_16 (b := 275) (as := [.int a1, .int a2]) (rest := []) (st2 := [.int v6]) (v := some (.int v6)) (M1 := M6) rfl rfl rfl rfl rfl rfl K_275 (g_X11_layGallery a1 a2 _ _ e6) rfl rfl ?_
    refine hr_Grun mf_X11_stop lb_X11_stop_19 (P := True) (pc' := if v6 = 0 then 33 else 22) (ls' := [some (.ref 275), some (.int a1), some (.int a2), some (.int a3)]) (st' := []) (M' := M6) rfl rfl trivial ?_
    refine hr_Gif h (fun _ h => ?_) (fun _ h => ?_)
    · refine hr_Grun mf_X11_stop lb_X11_stop_33 (P := True) (pc' := 34) (ls' := [some (.ref 275), some (.int a1), some (.int a2), some (.int a3)]) (st' := [.int (-1)]) (M' := M6) rfl rfl trivial ?_
      cases h
      exact hr_Gret mf_X11_stop lb_X11_stop_34 rfl rfl trivial
    · refine hr_Grun mf_X11_stop lb_X11_stop_22 (P := True) (pc' := 24) (ls' := [some (.ref 275), some (.int a1), some (.int a2), some (.int a3)]) (st' := [.ref 275, .ref 275]) (M' := M6) rfl rfl trivial ?_
      refine hr_Fb h (fun v10 M10 e10 h => ?_)
      refine hr_Gcv mf_X11_stop mf_X11_deeds lb_X11_stop_24 (b := 275) (as := []) (rest := [.ref 275]) (st2 := [.int v10, .ref 275]) (v := some (.int v10)) (M1 := M10) rfl rfl rfl rfl rfl rfl K_275 (g_X11_deeds  _ _ e10) rfl rfl ?_
      refine hr_Fb h (fun v11 M11 e11 h => ?_)
      refine hr_Gcv mf_X11_stop mf_X11_play lb_X11_stop_27 (b := 275) (as := [.int v10]) (rest := []) (st2 := [.int v11]) (v := some (.int v11)) (M1 := M11) rfl rfl rfl rfl rfl rfl K_275 (g_X11_play v10 _ _ e11) rfl rfl ?_
      refine hr_Grun mf_X11_stop lb_X11_stop_30 (P := True) (pc' := 34) (ls' := [some (.ref 275), some (.int a1), some (.int a2), some (.int a3)]) (st' := [.int v11]) (M' := M11) rfl rfl trivial ?_
      cases h
      exact hr_Gret mf_X11_stop lb_X11_stop_34 rfl rfl trivial
theorem mf_X11_state : hr_mf 240 11 6 (some .int) 6 5 bk_X11_state := ⟨rfl, rfl, rfl, rfl, rfl, rfl⟩
theorem lb_X11_state_0 : bk_X11_state.lookup 0 = some [(.aload_n 0, 1), (.iconst 0, 1), (.putfield 100, 3), (.aload_n 0, 1), (.iload_n 3, 1)] := rfl
theorem lb_X11_state_7 : bk_X11_state.lookup 7 = some [(.invokevirtual 362, 3)] := rfl
theorem lb_X11_state_10 : bk_X11_state.lookup 10 = some [(.ifCond .eq 36, 3)] := rfl
theorem lb_X11_state_13 : bk_X11_state.lookup 13 = some [(.aload_n 0, 1), (.iload_n 1, 1), (.iload_n 2, 1)] := rfl
theorem lb_X11_state_16 : bk_X11_state.lookup 16 = some [(.invokevirtual 401, 3)] := rfl
theorem lb_X11_state_19 : bk_X11_state.lookup 19 = some [(.ifCond .eq 27, 3)] := rfl
theorem lb_X11_state_22 : bk_X11_state.lookup 22 = some [(.iload 4, 2), (.iconst 0, 1), (.aload_n 0, 1)] := rfl
theorem lb_X11_state_26 : bk_X11_state.lookup 26 = some [(.invokevirtual 365, 3)] := rfl
theorem lb_X11_state_29 : bk_X11_state.lookup 29 = some [(.invokestatic 112, 3)] := rfl
theorem lb_X11_state_32 : bk_X11_state.lookup 32 = some [(.ifCond .eq 14, 3)] := rfl
theorem lb_X11_state_35 : bk_X11_state.lookup 35 = some [(.aload_n 0, 1), (.iload 4, 2)] := rfl
theorem lb_X11_state_38 : bk_X11_state.lookup 38 = some [(.invokevirtual 404, 3)] := rfl
theorem lb_X11_state_41 : bk_X11_state.lookup 41 = some [(.iload 4, 2), (.if_icmp .ge 6, 3)] := rfl
theorem lb_X11_state_46 : bk_X11_state.lookup 46 = some [(.bipush (-2), 2)] := rfl
theorem lb_X11_state_48 : bk_X11_state.lookup 48 = some [(.ireturn, 1)] := rfl
theorem lb_X11_state_49 : bk_X11_state.lookup 49 = some [(.iload 5, 2), (.bipush 10, 2), (.bipush 9, 2), (.aload_n 0, 1)] := rfl
theorem lb_X11_state_56 : bk_X11_state.lookup 56 = some [(.invokevirtual 347, 3)] := rfl
theorem lb_X11_state_59 : bk_X11_state.lookup 59 = some [(.iadd, 1)] := rfl
theorem lb_X11_state_60 : bk_X11_state.lookup 60 = some [(.invokestatic 112, 3)] := rfl
theorem lb_X11_state_63 : bk_X11_state.lookup 63 = some [(.ifCond .eq 14, 3)] := rfl
theorem lb_X11_state_66 : bk_X11_state.lookup 66 = some [(.aload_n 0, 1), (.getfield 53, 3), (.iload 5, 2), (.bipush 10, 2), (.isub, 1), (.iaload, 1)] := rfl
theorem lb_X11_state_76 : bk_X11_state.lookup 76 = some [(.ireturn, 1)] := rfl
theorem lb_X11_state_77 : bk_X11_state.lookup 77 = some [(.iload 5, 2), (.bipush 20, 2), (.bipush 19, 2), (.aload_n 0, 1)] := rfl
theorem lb_X11_state_84 : bk_X11_state.lookup 84 = some [(.invokevirtual 347, 3)] := rfl
theorem lb_X11_state_87 : bk_X11_state.lookup 87 = some [(.iadd, 1)] := rfl
theorem lb_X11_state_88 : bk_X11_state.lookup 88 = some [(.invokestatic 112, 3)] := rfl
theorem lb_X11_state_91 : bk_X11_state.lookup 91 = some [(.ifCond .eq 14, 3)] := rfl
theorem lb_X11_state_94 : bk_X11_state.lookup 94 = some [(.aload_n 0, 1), (.getfield 56, 3), (.iload 5, 2), (.bipush 20, 2), (.isub, 1), (.iaload, 1)] := rfl
theorem lb_X11_state_104 : bk_X11_state.lookup 104 = some [(.ireturn, 1)] := rfl
theorem lb_X11_state_105 : bk_X11_state.lookup 105 = some [(.iload 5, 2), (.bipush 30, 2), (.bipush 35, 2)] := rfl
theorem lb_X11_state_111 : bk_X11_state.lookup 111 = some [(.invokestatic 112, 3)] := rfl
theorem lb_X11_state_114 : bk_X11_state.lookup 114 = some [(.ifCond .eq 14, 3)] := rfl
theorem lb_X11_state_117 : bk_X11_state.lookup 117 = some [(.aload_n 0, 1), (.getfield 59, 3), (.iload 5, 2), (.bipush 30, 2), (.isub, 1), (.iaload, 1)] := rfl
theorem lb_X11_state_127 : bk_X11_state.lookup 127 = some [(.ireturn, 1)] := rfl
theorem lb_X11_state_128 : bk_X11_state.lookup 128 = some [(.iload 5, 2), (.bipush 40, 2), (.bipush 45, 2)] := rfl
theorem lb_X11_state_134 : bk_X11_state.lookup 134 = some [(.invokestatic 112, 3)] := rfl
theorem lb_X11_state_137 : bk_X11_state.lookup 137 = some [(.ifCond .eq 14, 3)] := rfl
theorem lb_X11_state_140 : bk_X11_state.lookup 140 = some [(.aload_n 0, 1), (.getfield 62, 3), (.iload 5, 2), (.bipush 40, 2), (.isub, 1), (.iaload, 1)] := rfl
theorem lb_X11_state_150 : bk_X11_state.lookup 150 = some [(.ireturn, 1)] := rfl
theorem lb_X11_state_151 : bk_X11_state.lookup 151 = some [(.iload 5, 2), (.bipush 50, 2), (.bipush 55, 2)] := rfl
theorem lb_X11_state_157 : bk_X11_state.lookup 157 = some [(.invokestatic 112, 3)] := rfl
theorem lb_X11_state_160 : bk_X11_state.lookup 160 = some [(.ifCond .eq 14, 3)] := rfl
theorem lb_X11_state_163 : bk_X11_state.lookup 163 = some [(.aload_n 0, 1), (.getfield 65, 3), (.iload 5, 2), (.bipush 50, 2), (.isub, 1), (.iaload, 1)] := rfl
theorem lb_X11_state_173 : bk_X11_state.lookup 173 = some [(.ireturn, 1)] := rfl
theorem lb_X11_state_174 : bk_X11_state.lookup 174 = some [(.iload 5, 2), (.bipush 60, 2), (.bipush 63, 2)] := rfl
theorem lb_X11_state_180 : bk_X11_state.lookup 180 = some [(.invokestatic 112, 3)] := rfl
theorem lb_X11_state_183 : bk_X11_state.lookup 183 = some [(.ifCond .eq 13, 3)] := rfl
theorem lb_X11_state_186 : bk_X11_state.lookup 186 = some [(.aload_n 0, 1), (.iload 5, 2), (.bipush 60, 2), (.isub, 1)] := rfl
theorem lb_X11_state_192 : bk_X11_state.lookup 192 = some [(.invokevirtual 386, 3)] := rfl
theorem lb_X11_state_195 : bk_X11_state.lookup 195 = some [(.ireturn, 1)] := rfl
theorem lb_X11_state_196 : bk_X11_state.lookup 196 = some [(.iload 5, 2), (.ifCond .ne 10, 3)] := rfl
theorem lb_X11_state_201 : bk_X11_state.lookup 201 = some [(.aload_n 0, 1), (.getfield 371, 3), (.goto 44, 3)] := rfl
theorem lb_X11_state_208 : bk_X11_state.lookup 208 = some [(.iload 5, 2), (.iconst 1, 1), (.if_icmp .ne 10, 3)] := rfl
theorem lb_X11_state_214 : bk_X11_state.lookup 214 = some [(.aload_n 0, 1), (.getfield 374, 3), (.goto 31, 3)] := rfl
theorem lb_X11_state_221 : bk_X11_state.lookup 221 = some [(.iload 5, 2), (.iconst 2, 1), (.if_icmp .ne 10, 3)] := rfl
theorem lb_X11_state_227 : bk_X11_state.lookup 227 = some [(.aload_n 0, 1), (.getfield 377, 3), (.goto 18, 3)] := rfl
theorem lb_X11_state_234 : bk_X11_state.lookup 234 = some [(.iload 5, 2), (.iconst 3, 1), (.if_icmp .ne 10, 3)] := rfl
theorem lb_X11_state_240 : bk_X11_state.lookup 240 = some [(.aload_n 0, 1), (.getfield 380, 3), (.goto 5, 3)] := rfl
theorem lb_X11_state_247 : bk_X11_state.lookup 247 = some [(.bipush (-2), 2)] := rfl
theorem lb_X11_state_249 : bk_X11_state.lookup 249 = some [(.ireturn, 1)] := rfl
def f_X11_state (a1 : Int32) (a2 : Int32) (a3 : Int32) (a4 : Int32) (a5 : Int32) (M : PM) : Option (Int32 × PM) :=
  hr_bd (f_X11_hasDay a3 (hr_si M 275 0 0)) (fun v2 M2 =>
  if v2 = 0 then
    some ((-2), M2)
  else
    hr_bd (f_X11_layGallery a1 a2 M2) (fun v6 M6 =>
    if v6 = 0 then
      some ((-2), M6)
    else
      hr_bd (f_X11_deeds M6) (fun v10 M10 =>
      hr_bd (f_X11_in a4 0 v10 M10) (fun v11 M11 =>
      if v11 = 0 then
        some ((-2), M11)
      else
        hr_bd (f_X11_play a4 M11) (fun v15 M15 =>
        if a4 ≤ v15 then
          hr_bd (f_X11_pictures M15) (fun v18 M18 =>
          hr_bd (f_X11_in a5 10 (9 + v18) M18) (fun v20 M20 =>
          if v20 = 0 then
            hr_bd (f_X11_pictures M20) (fun v23 M23 =>
            hr_bd (f_X11_in a5 20 (19 + v23) M23) (fun v25 M25 =>
            if v25 = 0 then
              hr_bd (f_X11_in a5 30 35 M25) (fun v28 M28 =>
              if v28 = 0 then
                hr_bd (f_X11_in a5 40 45 M28) (fun v31 M31 =>
                if v31 = 0 then
                  hr_bd (f_X11_in a5 50 55 M31) (fun v34 M34 =>
                  if v34 = 0 then
                    hr_bd (f_X11_in a5 60 63 M34) (fun v37 M37 =>
                    if v37 = 0 then
                      if a5 = 0 then
                        some ((M37.1 275 35), M37)
                      else
                        if a5 = 1 then
                          some ((M37.1 275 36), M37)
                        else
                          if a5 = 2 then
                            some ((M37.1 275 37), M37)
                          else
                            if a5 = 3 then
                              some ((M37.1 275 38), M37)
                            else
                              some ((-2), M37)
                    else
                      hr_bd (f_X11_rash (a5 - 60) M37) (fun v49 M49 =>
                      some (v49, M49)))
                  else
                    if inB (a5 - 50) 6 = true then 
                    some ((M34.1 294 (a5 - 50).toNatClampNeg), M34) else none)
                else
                  if inB (a5 - 40) 6 = true then 
                  some ((M31.1 293 (a5 - 40).toNatClampNeg), M31) else none)
              else
                if inB (a5 - 30) 6 = true then 
                some ((M28.1 292 (a5 - 30).toNatClampNeg), M28) else none)
            else
              if inB (a5 - 20) 9 = true then 
              some ((M25.1 291 (a5 - 20).toNatClampNeg), M25) else none))
          else
            if inB (a5 - 10) 9 = true then 
            some ((M20.1 290 (a5 - 10).toNatClampNeg), M20) else none))
        else
          some ((-2), M15))))))
theorem g_X11_state (a1 : Int32) (a2 : Int32) (a3 : Int32) (a4 : Int32) (a5 : Int32) : ∀ (M : PM) (r : Int32 × PM), f_X11_state a1 a2 a3 a4 a5 M = some r → hr_G 240 0 [some (.ref 275), some (.int a1), some (.int a2), some (.int a3), some (.int a4), some (.int a5)] [] M (some (.int r.1), r.2) := by
  intro M r h
  unfold f_X11_state at h
  refine hr_Grun mf_X11_state lb_X11_state_0 (P := (hr_K 275 = 10 ∧ 275 < hr_n) ∧ True) (pc' := 7) (ls' := [some (.ref 275), some (.int a1), some (.int a2), some (.int a3), some (.int a4), some (.int a5)]) (st' := [.int a3, .ref 275]) (M' := hr_si M 275 0 0) rfl rfl ⟨⟨K_275, L_275⟩, trivial⟩ ?_
  refine hr_Fb h (fun v2 M2 e2 h => ?_)
  refine hr_Gcv mf_X11_state mf_X11_hasDay lb_X11_state_7 (b := 275) (as := [.int a3]) (rest := []) (st2 := [.int v2]) (v := some (.int v2)) (M1 := M2) rfl rfl rfl rfl rfl rfl K_275 (g_X11_hasDay a3 _ _ e2) rfl rfl ?_
  refine hr_Grun mf_X11_state lb_X11_state_10 (P := True) (pc' := if v2 = 0 then 46 else 13) (ls' := [some (.ref 275), some (.int a1), some (.int a2), some (.int a3), some (.int a4), some (.int a5)]) (st' := []) (M' := M2) rfl rfl trivial ?_
  refine hr_Gif h (fun _ h => ?_) (fun _ h => ?_)
  · refine hr_Grun mf_X11_state lb_X11_state_46 (P := True) (pc' := 48) (ls' := [some (.ref 275), some (.int a1), some (.int a2), some (.int a3), some (.int a4), some (.int a5)]) (st' := [.int (-2)]) (M' := M2) rfl rfl trivial ?_
    cases h
    exact hr_Gret mf_X11_state lb_X11_state_48 rfl rfl trivial
  · refine hr_Grun mf_X11_state lb_X11_state_13 (P := True) (pc' := 16) (ls' := [some (.ref 275), some (.int a1), some (.int a2), some (.int a3), some (.int a4), some (.int a5)]) (st' := [.int a2, .int a1, .ref 275]) (M' := M2) rfl rfl trivial ?_
    refine hr_Fb h (fun v6 M6 e6 h => ?_)
    refine hr_Gcv mf_X11_state mf_X11_layGallery lb_X11_state_16 (b := 275) (as := [.int a1, .int a2]) (rest := []) (st2 := [.int v6]) (v := some (.int v6)) (M1 := M6) rfl rfl rfl rfl rfl rfl K_275 (g_X11_layGallery a1 a2 _ _ e6) rfl rfl ?_
    refine hr_Grun mf_X11_state lb_X11_state_19 (P := True) (pc' := if v6 = 0 then 46 else 22) (ls' := [some (.ref 275), some (.int a1), some (.int a2), some (.int a3), some (.int a4), some (.int a5)]) (st' := []) (M' := M6) rfl rfl trivial ?_
    refine hr_Gif h (fun _ h => ?_) (fun _ h => ?_)
    · refine hr_Grun mf_X11_state lb_X11_state_46 (P := True) (pc' := 48) (ls' := [some (.ref 275), some (.int a1), some (.int a2), some (.int a3), some (.int a4), some (.int a5)]) (st' := [.int (-2)]) (M' := M6) rfl rfl trivial ?_
      cases h
      exact hr_Gret mf_X11_state lb_X11_state_48 rfl rfl trivial
    · refine hr_Grun mf_X11_state lb_X11_state_22 (P := True) (pc' := 26) (ls' := [some (.ref 275), some (.int a1), some (.int a2), some (.int a3), some (.int a4), some (.int a5)]) (st' := [.ref 275, .int 0, .int a4]) (M' := M6) rfl rfl trivial ?_
      refine hr_Fb h (fun v10 M10 e10 h => ?_)
      refine hr_Gcv mf_X11_state mf_X11_deeds lb_X11_state_26 (b := 275) (as := []) (rest := [.int 0, .int a4]) (st2 := [.int v10, .int 0, .int a4]) (v := some (.int v10)) (M1 := M10) rfl rfl rfl rfl rfl rfl K_275 (g_X11_deeds  _ _ e10) rfl rfl ?_
      refine hr_Fb h (fun v11 M11 e11 h => ?_)
      refine hr_Gcs mf_X11_state mf_X11_in lb_X11_state_29 (as := [.int a4, .int 0, .int v10]) (rest := []) (st2 := [.int v11]) (v := some (.int v11)) (M1 := M11) rfl rfl rfl rfl rfl rfl (g_X11_in a4 0 v10 _ _ e11) rfl rfl ?_
      refine hr_Grun mf_X11_state lb_X11_state_32 (P := True) (pc' := if v11 = 0 then 46 else 35) (ls' := [some (.ref 275), some (.int a1), some (.int a2), some (.int a3), some (.int a4), some (.int a5)]) (st' := []) (M' := M11) rfl rfl trivial ?_
      refine hr_Gif h (fun _ h => ?_) (fun _ h => ?_)
      · refine hr_Grun mf_X11_state lb_X11_state_46 (P := True) (pc' := 48) (ls' := [some (.ref 275), some (.int a1), some (.int a2), some (.int a3), some (.int a4), some (.int a5)]) (st' := [.int (-2)]) (M' := M11) rfl rfl trivial ?_
        cases h
        exact hr_Gret mf_X11_state lb_X11_state_48 rfl rfl trivial
      · refine hr_Grun mf_X11_state lb_X11_state_35 (P := True) (pc' := 38) (ls' := [some (.ref 275), some (.int a1), some (.int a2), some (.int a3), some (.int a4), some (.int a5)]) (st' := [.int a4, .ref 275]) (M' := M11) rfl rfl trivial ?_
        refine hr_Fb h (fun v15 M15 e15 h => ?_)
        refine hr_Gcv mf_X11_state mf_X11_play lb_X11_state_38 (b := 275) (as := [.int a4]) (rest := []) (st2 := [.int v15]) (v := some (.int v15)) (M1 := M15) rfl rfl rfl rfl rfl rfl K_275 (g_X11_play a4 _ _ e15) rfl rfl ?_
        refine hr_Grun mf_X11_state lb_X11_state_41 (P := True) (pc' := if a4 ≤ v15 then 49 else 46) (ls' := [some (.ref 275), some (.int a1), some (.int a2), some (.int a3), some (.int a4), some (.int a5)]) (st' := []) (M' := M15) rfl rfl trivial ?_
        refine hr_Gif h (fun _ h => ?_) (fun _ h => ?_)
        · refine hr_Grun mf_X11_state lb_X11_state_49 (P := True) (pc' := 56) (ls' := [some (.ref 275), some (.int a1), some (.int a2), some (.int a3), some (.int a4), some (.int a5)]) (st' := [.ref 275, .int 9, .int 10, .int a5]) (M' := M15) rfl rfl trivial ?_
          refine hr_Fb h (fun v18 M18 e18 h => ?_)
          refine hr_Gcv mf_X11_state mf_X11_pictures lb_X11_state_56 (b := 275) (as := []) (rest := [.int 9, .int 10, .int a5]) (st2 := [.int v18, .int 9, .int 10, .int a5]) (v := some (.int v18)) (M1 := M18) rfl rfl rfl rfl rfl rfl K_275 (g_X11_pictures  _ _ e18) rfl rfl ?_
          refine hr_Grun mf_X11_state lb_X11_state_59 (P := True) (pc' := 60) (ls' := [some (.ref 275), some (.int a1), some (.int a2), some (.int a3), some (.int a4), some (.int a5)]) (st' := [.int (9 + v18), .int 10, .int a5]) (M' := M18) rfl rfl trivial ?_
          refine hr_Fb h (fun v20 M20 e20 h => ?_)
          refine hr_Gcs mf_X11_state mf_X11_in lb_X11_state_60 (as := [.int a5, .int 10, .int (9 + v18)]) (rest := []) (st2 := [.int v20]) (v := some (.int v20)) (M1 := M20) rfl rfl rfl rfl rfl rfl (g_X11_in a5 10 (9 + v18) _ _ e20) rfl rfl ?_
          refine hr_Grun mf_X11_state lb_X11_state_63 (P := True) (pc' := if v20 = 0 then 77 else 66) (ls' := [some (.ref 275), some (.int a1), some (.int a2), some (.int a3), some (.int a4), some (.int a5)]) (st' := []) (M' := M20) rfl rfl trivial ?_
          refine hr_Gif h (fun _ h => ?_) (fun _ h => ?_)
          · refine hr_Grun mf_X11_state lb_X11_state_77 (P := True) (pc' := 84) (ls' := [some (.ref 275), some (.int a1), some (.int a2), some (.int a3), some (.int a4), some (.int a5)]) (st' := [.ref 275, .int 19, .int 20, .int a5]) (M' := M20) rfl rfl trivial ?_
            refine hr_Fb h (fun v23 M23 e23 h => ?_)
            refine hr_Gcv mf_X11_state mf_X11_pictures lb_X11_state_84 (b := 275) (as := []) (rest := [.int 19, .int 20, .int a5]) (st2 := [.int v23, .int 19, .int 20, .int a5]) (v := some (.int v23)) (M1 := M23) rfl rfl rfl rfl rfl rfl K_275 (g_X11_pictures  _ _ e23) rfl rfl ?_
            refine hr_Grun mf_X11_state lb_X11_state_87 (P := True) (pc' := 88) (ls' := [some (.ref 275), some (.int a1), some (.int a2), some (.int a3), some (.int a4), some (.int a5)]) (st' := [.int (19 + v23), .int 20, .int a5]) (M' := M23) rfl rfl trivial ?_
            refine hr_Fb h (fun v25 M25 e25 h => ?_)
            refine hr_Gcs mf_X11_state mf_X11_in lb_X11_state_88 (as := [.int a5, .int 20, .int (19 + v23)]) (rest := []) (st2 := [.int v25]) (v := some (.int v25)) (M1 := M25) rfl rfl rfl rfl rfl rfl (g_X11_in a5 20 (19 + v23) _ _ e25) rfl rfl ?_
            refine hr_Grun mf_X11_state lb_X11_state_91 (P := True) (pc' := if v25 = 0 then 105 else 94) (ls' := [some (.ref 275), some (.int a1), some (.int a2), some (.int a3), some (.int a4), some (.int a5)]) (st' := []) (M' := M25) rfl rfl trivial ?_
            refine hr_Gif h (fun _ h => ?_) (fun _ h => ?_)
            · refine hr_Grun mf_X11_state lb_X11_state_105 (P := True) (pc' := 111) (ls' := [some (.ref 275), some (.int a1), some (.int a2), some (.int a3), some (.int a4), some (.int a5)]) (st' := [.int 35, .int 30, .int a5]) (M' := M25) rfl rfl trivial ?_
              refine hr_Fb h (fun v28 M28 e28 h => ?_)
              refine hr_Gcs mf_X11_state mf_X11_in lb_X11_state_111 (as := [.int a5, .int 30, .int 35]) (rest := []) (st2 := [.int v28]) (v := some (.int v28)) (M1 := M28) rfl rfl rfl rfl rfl rfl (g_X11_in a5 30 35 _ _ e28) rfl rfl ?_
              refine hr_Grun mf_X11_state lb_X11_state_114 (P := True) (pc' := if v28 = 0 then 128 else 117) (ls' := [some (.ref 275), some (.int a1), some (.int a2), some (.int a3), some (.int a4), some (.int a5)]) (st' := []) (M' := M28) rfl rfl trivial ?_
              refine hr_Gif h (fun _ h => ?_) (fun _ h => ?_)
              · refine hr_Grun mf_X11_state lb_X11_state_128 (P := True) (pc' := 134) (ls' := [some (.ref 275), some (.int a1), some (.int a2), some (.int a3), some (.int a4), some (.int a5)]) (st' := [.int 45, .int 40, .int a5]) (M' := M28) rfl rfl trivial ?_
                refine hr_Fb h (fun v31 M31 e31 h => ?_)
                refine hr_Gcs mf_X11_state mf_X11_in lb_X11_state_134 (as := [.int a5, .int 40, .int 45]) (rest := []) (st2 := [.int v31]) (v := some (.int v31)) (M1 := M31) rfl rfl rfl rfl rfl rfl (g_X11_in a5 40 45 _ _ e31) rfl rfl ?_
                refine hr_Grun mf_X11_state lb_X11_state_137 (P := True) (pc' := if v31 = 0 then 151 else 140) (ls' := [some (.ref 275), some (.int a1), some (.int a2), some (.int a3), some (.int a4), some (.int a5)]) (st' := []) (M' := M31) rfl rfl trivial ?_
                refine hr_Gif h (fun _ h => ?_) (fun _ h => ?_)
                · refine hr_Grun mf_X11_state lb_X11_state_151 (P := True) (pc' := 157) (ls' := [some (.ref 275), some (.int a1), some (.int a2), some (.int a3), some (.int a4), some (.int a5)]) (st' := [.int 55, .int 50, .int a5]) (M' := M31) rfl rfl trivial ?_
                  refine hr_Fb h (fun v34 M34 e34 h => ?_)
                  refine hr_Gcs mf_X11_state mf_X11_in lb_X11_state_157 (as := [.int a5, .int 50, .int 55]) (rest := []) (st2 := [.int v34]) (v := some (.int v34)) (M1 := M34) rfl rfl rfl rfl rfl rfl (g_X11_in a5 50 55 _ _ e34) rfl rfl ?_
                  refine hr_Grun mf_X11_state lb_X11_state_160 (P := True) (pc' := if v34 = 0 then 174 else 163) (ls' := [some (.ref 275), some (.int a1), some (.int a2), some (.int a3), some (.int a4), some (.int a5)]) (st' := []) (M' := M34) rfl rfl trivial ?_
                  refine hr_Gif h (fun _ h => ?_) (fun _ h => ?_)
                  · refine hr_Grun mf_X11_state lb_X11_state_174 (P := True) (pc' := 180) (ls' := [some (.ref 275), some (.int a1), some (.int a2), some (.int a3), some (.int a4), some (.int a5)]) (st' := [.int 63, .int 60, .int a5]) (M' := M34) rfl rfl trivial ?_
                    refine hr_Fb h (fun v37 M37 e37 h => ?_)
                    refine hr_Gcs mf_X11_state mf_X11_in lb_X11_state_180 (as := [.int a5, .int 60, .int 63]) (rest := []) (st2 := [.int v37]) (v := some (.int v37)) (M1 := M37) rfl rfl rfl rfl rfl rfl (g_X11_in a5 60 63 _ _ e37) rfl rfl ?_
                    refine hr_Grun mf_X11_state lb_X11_state_183 (P := True) (pc' := if v37 = 0 then 196 else 186) (ls' := [some (.ref 275), some (.int a1), some (.int a2), some (.int a3), some (.int a4), some (.int a5)]) (st' := []) (M' := M37) rfl rfl trivial ?_
                    refine hr_Gif h (fun _ h => ?_) (fun _ h => ?_)
                    · refine hr_Grun mf_X11_state lb_X11_state_196 (P := True) (pc' := if a5 = 0 then 201 else 208) (ls' := [some (.ref 275), some (.int a1), some (.int a2), some (.int a3), some (.int a4), some (.int a5)]) (st' := []) (M' := M37) rfl rfl trivial ?_
                      refine hr_Gif h (fun _ h => ?_) (fun _ h => ?_)
                      · refine hr_Grun mf_X11_state lb_X11_state_201 (P := hr_K 275 = 10 ∧ True) (pc' := 249) (ls' := [some (.ref 275), some (.int a1), some (.int a2), some (.int a3), some (.int a4), some (.int a5)]) (st' := [.int (M37.1 275 35)]) (M' := M37) rfl rfl ⟨K_275, trivial⟩ ?_
                        cases h
                        exact hr_Gret mf_X11_state lb_X11_state_249 rfl rfl trivial
                      · refine hr_Grun mf_X11_state lb_X11_state_208 (P := True) (pc' := if a5 = 1 then 214 else 221) (ls' := [some (.ref 275), some (.int a1), some (.int a2), some (.int a3), some (.int a4), some (.int a5)]) (st' := []) (M' := M37) rfl rfl trivial ?_
                        refine hr_Gif h (fun _ h => ?_) (fun _ h => ?_)
                        · refine hr_Grun mf_X11_state lb_X11_state_214 (P := hr_K 275 = 10 ∧ True) (pc' := 249) (ls' := [some (.ref 275), some (.int a1), some (.int a2), some (.int a3), some (.int a4), some (.int a5)]) (st' := [.int (M37.1 275 36)]) (M' := M37) rfl rfl ⟨K_275, trivial⟩ ?_
                          cases h
                          exact hr_Gret mf_X11_state lb_X11_state_249 rfl rfl trivial
                        · refine hr_Grun mf_X11_state lb_X11_state_221 (P := True) (pc' := if a5 = 2 then 227 else 234) (ls' := [some (.ref 275), some (.int a1), some (.int a2), some (.int a3), some (.int a4), some (.int a5)]) (st' := []) (M' := M37) rfl rfl trivial ?_
                          refine hr_Gif h (fun _ h => ?_) (fun _ h => ?_)
                          · refine hr_Grun mf_X11_state lb_X11_state_227 (P := hr_K 275 = 10 ∧ True) (pc' := 249) (ls' := [some (.ref 275), some (.int a1), some (.int a2), some (.int a3), some (.int a4), some (.int a5)]) (st' := [.int (M37.1 275 37)]) (M' := M37) rfl rfl ⟨K_275, trivial⟩ ?_
                            cases h
                            exact hr_Gret mf_X11_state lb_X11_state_249 rfl rfl trivial
                          · refine hr_Grun mf_X11_state lb_X11_state_234 (P := True) (pc' := if a5 = 3 then 240 else 247) (ls' := [some (.ref 275), some (.int a1), some (.int a2), some (.int a3), some (.int a4), some (.int a5)]) (st' := []) (M' := M37) rfl rfl trivial ?_
                            refine hr_Gif h (fun _ h => ?_) (fun _ h => ?_)
                            · refine hr_Grun mf_X11_state lb_X11_state_240 (P := hr_K 275 = 10 ∧ True) (pc' := 249) (ls' := [some (.ref 275), some (.int a1), some (.int a2), some (.int a3), some (.int a4), some (.int a5)]) (st' := [.int (M37.1 275 38)]) (M' := M37) rfl rfl ⟨K_275, trivial⟩ ?_
                              cases h
                              exact hr_Gret mf_X11_state lb_X11_state_249 rfl rfl trivial
                            · refine hr_Grun mf_X11_state lb_X11_state_247 (P := True) (pc' := 249) (ls' := [some (.ref 275), some (.int a1), some (.int a2), some (.int a3), some (.int a4), some (.int a5)]) (st' := [.int (-2)]) (M' := M37) rfl rfl trivial ?_
                              cases h
                              exact hr_Gret mf_X11_state lb_X11_state_249 rfl rfl trivial
                    · refine hr_Grun mf_X11_state lb_X11_state_186 (P := True) (pc' := 192) (ls' := [some (.ref 275), some (.int a1), some (.int a2), some (.int a3), some (.int a4), some (.int a5)]) (st' := [.int (a5 - 60), .ref 275]) (M' := M37) rfl rfl trivial ?_
                      refine hr_Fb h (fun v49 M49 e49 h => ?_)
                      refine hr_Gcv mf_X11_state mf_X11_rash lb_X11_state_192 (b := 275) (as := [.int (a5 - 60)]) (rest := []) (st2 := [.int v49]) (v := some (.int v49)) (M1 := M49) rfl rfl rfl rfl rfl rfl K_275 (g_X11_rash (a5 - 60) _ _ e49) rfl rfl ?_
                      cases h
                      exact hr_Gret mf_X11_state lb_X11_state_195 rfl rfl trivial
                  · refine hr_Fg h (fun hg50_0 h => ?_)
                    refine hr_Grun mf_X11_state lb_X11_state_163 (P := hr_K 275 = 10 ∧ (hr_K 294 = 12 ∧ vp_in (a5 - 50) (hr_N 294)) ∧ True) (pc' := 173) (ls' := [some (.ref 275), some (.int a1), some (.int a2), some (.int a3), some (.int a4), some (.int a5)]) (st' := [.int (M34.1 294 (a5 - 50).toNatClampNeg)]) (M' := M34) rfl rfl ⟨K_275, ⟨K_294, (inB_N N_294 hg50_0)⟩, trivial⟩ ?_
                    cases h
                    exact hr_Gret mf_X11_state lb_X11_state_173 rfl rfl trivial
                · refine hr_Fg h (fun hg51_0 h => ?_)
                  refine hr_Grun mf_X11_state lb_X11_state_140 (P := hr_K 275 = 10 ∧ (hr_K 293 = 12 ∧ vp_in (a5 - 40) (hr_N 293)) ∧ True) (pc' := 150) (ls' := [some (.ref 275), some (.int a1), some (.int a2), some (.int a3), some (.int a4), some (.int a5)]) (st' := [.int (M31.1 293 (a5 - 40).toNatClampNeg)]) (M' := M31) rfl rfl ⟨K_275, ⟨K_293, (inB_N N_293 hg51_0)⟩, trivial⟩ ?_
                  cases h
                  exact hr_Gret mf_X11_state lb_X11_state_150 rfl rfl trivial
              · refine hr_Fg h (fun hg52_0 h => ?_)
                refine hr_Grun mf_X11_state lb_X11_state_117 (P := hr_K 275 = 10 ∧ (hr_K 292 = 12 ∧ vp_in (a5 - 30) (hr_N 292)) ∧ True) (pc' := 127) (ls' := [some (.ref 275), some (.int a1), some (.int a2), some (.int a3), some (.int a4), some (.int a5)]) (st' := [.int (M28.1 292 (a5 - 30).toNatClampNeg)]) (M' := M28) rfl rfl ⟨K_275, ⟨K_292, (inB_N N_292 hg52_0)⟩, trivial⟩ ?_
                cases h
                exact hr_Gret mf_X11_state lb_X11_state_127 rfl rfl trivial
            · refine hr_Fg h (fun hg53_0 h => ?_)
              refine hr_Grun mf_X11_state lb_X11_state_94 (P := hr_K 275 = 10 ∧ (hr_K 291 = 12 ∧ vp_in (a5 - 20) (hr_N 291)) ∧ True) (pc' := 104) (ls' := [some (.ref 275), some (.int a1), some (.int a2), some (.int a3), some (.int a4), some (.int a5)]) (st' := [.int (M25.1 291 (a5 - 20).toNatClampNeg)]) (M' := M25) rfl rfl ⟨K_275, ⟨K_291, (inB_N N_291 hg53_0)⟩, trivial⟩ ?_
              cases h
              exact hr_Gret mf_X11_state lb_X11_state_104 rfl rfl trivial
          · refine hr_Fg h (fun hg54_0 h => ?_)
            refine hr_Grun mf_X11_state lb_X11_state_66 (P := hr_K 275 = 10 ∧ (hr_K 290 = 12 ∧ vp_in (a5 - 10) (hr_N 290)) ∧ True) (pc' := 76) (ls' := [some (.ref 275), some (.int a1), some (.int a2), some (.int a3), some (.int a4), some (.int a5)]) (st' := [.int (M20.1 290 (a5 - 10).toNatClampNeg)]) (M' := M20) rfl rfl ⟨K_275, ⟨K_290, (inB_N N_290 hg54_0)⟩, trivial⟩ ?_
            cases h
            exact hr_Gret mf_X11_state lb_X11_state_76 rfl rfl trivial
        · refine hr_Grun mf_X11_state lb_X11_state_46 (P := True) (pc' := 48) (ls' := [some (.ref 275), some (.int a1), some (.int a2), some (.int a3), some (.int a4), some (.int a5)]) (st' := [.int (-2)]) (M' := M15) rfl rfl trivial ?_
          cases h
          exact hr_Gret mf_X11_state lb_X11_state_48 rfl rfl trivial
theorem mf_X11_mind : hr_mf 241 11 1 (some .boolean) 3 2 bk_X11_mind := ⟨rfl, rfl, rfl, rfl, rfl, rfl⟩
theorem lb_X11_mind_0 : bk_X11_mind.lookup 0 = some [(.aload_n 0, 1), (.aload_n 0, 1), (.iload_n 1, 1)] := rfl
theorem lb_X11_mind_3 : bk_X11_mind.lookup 3 = some [(.invokevirtual 353, 3)] := rfl
theorem lb_X11_mind_6 : bk_X11_mind.lookup 6 = some [(.aload_n 0, 1), (.iload_n 2, 1)] := rfl
theorem lb_X11_mind_8 : bk_X11_mind.lookup 8 = some [(.invokevirtual 353, 3)] := rfl
theorem lb_X11_mind_11 : bk_X11_mind.lookup 11 = some [(.invokevirtual 314, 3)] := rfl
theorem lb_X11_mind_14 : bk_X11_mind.lookup 14 = some [(.ireturn, 1)] := rfl
def f_X11_mind (a1 : Int32) (a2 : Int32) (M : PM) : Option (Int32 × PM) :=
  hr_bd (f_X11_hueOf a1 M) (fun v2 M2 =>
  hr_bd (f_X11_hueOf a2 M2) (fun v4 M4 =>
  hr_bd (f_X11_clash v2 v4 M4) (fun v5 M5 =>
  if v5 = 0 ∨ v5 = 1 then some (v5, M5) else none)))
theorem g_X11_mind (a1 : Int32) (a2 : Int32) : ∀ (M : PM) (r : Int32 × PM), f_X11_mind a1 a2 M = some r → hr_G 241 0 [some (.ref 275), some (.int a1), some (.int a2)] [] M (some (.int r.1), r.2) := by
  intro M r h
  unfold f_X11_mind at h
  refine hr_Grun mf_X11_mind lb_X11_mind_0 (P := True) (pc' := 3) (ls' := [some (.ref 275), some (.int a1), some (.int a2)]) (st' := [.int a1, .ref 275, .ref 275]) (M' := M) rfl rfl trivial ?_
  refine hr_Fb h (fun v2 M2 e2 h => ?_)
  refine hr_Gcv mf_X11_mind mf_X11_hueOf lb_X11_mind_3 (b := 275) (as := [.int a1]) (rest := [.ref 275]) (st2 := [.int v2, .ref 275]) (v := some (.int v2)) (M1 := M2) rfl rfl rfl rfl rfl rfl K_275 (g_X11_hueOf a1 _ _ e2) rfl rfl ?_
  refine hr_Grun mf_X11_mind lb_X11_mind_6 (P := True) (pc' := 8) (ls' := [some (.ref 275), some (.int a1), some (.int a2)]) (st' := [.int a2, .ref 275, .int v2, .ref 275]) (M' := M2) rfl rfl trivial ?_
  refine hr_Fb h (fun v4 M4 e4 h => ?_)
  refine hr_Gcv mf_X11_mind mf_X11_hueOf lb_X11_mind_8 (b := 275) (as := [.int a2]) (rest := [.int v2, .ref 275]) (st2 := [.int v4, .int v2, .ref 275]) (v := some (.int v4)) (M1 := M4) rfl rfl rfl rfl rfl rfl K_275 (g_X11_hueOf a2 _ _ e4) rfl rfl ?_
  refine hr_Fb h (fun v5 M5 e5 h => ?_)
  refine hr_Gcv mf_X11_mind mf_X11_clash lb_X11_mind_11 (b := 275) (as := [.int v2, .int v4]) (rest := []) (st2 := [.int v5]) (v := some (.int v5)) (M1 := M5) rfl rfl rfl rfl rfl rfl K_275 (g_X11_clash v2 v4 _ _ e5) rfl rfl ?_
  refine hr_Fg h (fun hz h => ?_)
  cases h
  exact hr_Gret mf_X11_mind lb_X11_mind_14 rfl rfl hz
theorem mf_X11_strengthsOf : hr_mf 242 11 1 (some .int) 4 1 bk_X11_strengthsOf := ⟨rfl, rfl, rfl, rfl, rfl, rfl⟩
theorem lb_X11_strengthsOf_0 : bk_X11_strengthsOf.lookup 0 = some [(.iconst 0, 1), (.istore_n 2, 1), (.iconst 0, 1), (.istore_n 3, 1)] := rfl
theorem lb_X11_strengthsOf_4 : bk_X11_strengthsOf.lookup 4 = some [(.iload_n 3, 1), (.aload_n 0, 1)] := rfl
theorem lb_X11_strengthsOf_6 : bk_X11_strengthsOf.lookup 6 = some [(.invokevirtual 347, 3)] := rfl
theorem lb_X11_strengthsOf_9 : bk_X11_strengthsOf.lookup 9 = some [(.if_icmp .ge 31, 3)] := rfl
theorem lb_X11_strengthsOf_12 : bk_X11_strengthsOf.lookup 12 = some [(.iload_n 2, 1), (.aload_n 0, 1), (.getfield 47, 3), (.bipush 10, 2), (.aload_n 0, 1), (.iload_n 1, 1)] := rfl
theorem lb_X11_strengthsOf_21 : bk_X11_strengthsOf.lookup 21 = some [(.invokevirtual 353, 3)] := rfl
theorem lb_X11_strengthsOf_24 : bk_X11_strengthsOf.lookup 24 = some [(.imul, 1), (.aload_n 0, 1), (.iload_n 3, 1)] := rfl
theorem lb_X11_strengthsOf_27 : bk_X11_strengthsOf.lookup 27 = some [(.invokevirtual 353, 3)] := rfl
theorem lb_X11_strengthsOf_30 : bk_X11_strengthsOf.lookup 30 = some [(.iadd, 1), (.iaload, 1), (.iadd, 1), (.istore_n 2, 1), (.iinc 3 1, 3), (.goto (-33), 3)] := rfl
theorem lb_X11_strengthsOf_40 : bk_X11_strengthsOf.lookup 40 = some [(.iload_n 2, 1)] := rfl
theorem lb_X11_strengthsOf_41 : bk_X11_strengthsOf.lookup 41 = some [(.ireturn, 1)] := rfl
def f_X11_strengthsOf_4 (a1 : Int32) : Nat → Int32 → Int32 → PM → Option (Int32 × PM)
  | 0, _, _, _ => none
  | f + 1, x2, x3, M =>
    hr_bd (f_X11_pictures M) (fun v2 M2 =>
    if v2 ≤ x3 then
      some (x2, M2)
    else
      hr_bd (f_X11_hueOf a1 M2) (fun v6 M6 =>
      hr_bd (f_X11_hueOf x3 M6) (fun v8 M8 =>
      if inB ((10 * v6) + v8) 100 = true then 
      f_X11_strengthsOf_4 a1 f (x2 + (M8.1 288 ((10 * v6) + v8).toNatClampNeg)) (x3 + 1) M8 else none)))
theorem g_X11_strengthsOf_4 (a1 : Int32)  : ∀ (f : Nat) (x2 : Int32) (x3 : Int32) (M : PM) (r : Int32 × PM), f_X11_strengthsOf_4 a1 f x2 x3 M = some r → hr_G 242 4 [some (.ref 275), some (.int a1), some (.int x2), some (.int x3)] [] M (some (.int r.1), r.2) := by
  intro f
  induction f with
  | zero => intro x2 x3 M r h; cases h
  | succ f ih =>
    intro x2 x3 M r h
    rw [f_X11_strengthsOf_4.eq_2] at h
    refine hr_Grun mf_X11_strengthsOf lb_X11_strengthsOf_4 (P := True) (pc' := 6) (ls' := [some (.ref 275), some (.int a1), some (.int x2), some (.int x3)]) (st' := [.ref 275, .int x3]) (M' := M) rfl rfl trivial ?_
    refine hr_Fb h (fun v2 M2 e2 h => ?_)
    refine hr_Gcv mf_X11_strengthsOf mf_X11_pictures lb_X11_strengthsOf_6 (b := 275) (as := []) (rest := [.int x3]) (st2 := [.int v2, .int x3]) (v := some (.int v2)) (M1 := M2) rfl rfl rfl rfl rfl rfl K_275 (g_X11_pictures  _ _ e2) rfl rfl ?_
    refine hr_Grun mf_X11_strengthsOf lb_X11_strengthsOf_9 (P := True) (pc' := if v2 ≤ x3 then 40 else 12) (ls' := [some (.ref 275), some (.int a1), some (.int x2), some (.int x3)]) (st' := []) (M' := M2) rfl rfl trivial ?_
    refine hr_Gif h (fun _ h => ?_) (fun _ h => ?_)
    · refine hr_Grun mf_X11_strengthsOf lb_X11_strengthsOf_40 (P := True) (pc' := 41) (ls' := [some (.ref 275), some (.int a1), some (.int x2), some (.int x3)]) (st' := [.int x2]) (M' := M2) rfl rfl trivial ?_
      cases h
      exact hr_Gret mf_X11_strengthsOf lb_X11_strengthsOf_41 rfl rfl trivial
    · refine hr_Grun mf_X11_strengthsOf lb_X11_strengthsOf_12 (P := hr_K 275 = 10 ∧ True) (pc' := 21) (ls' := [some (.ref 275), some (.int a1), some (.int x2), some (.int x3)]) (st' := [.int a1, .ref 275, .int 10, .ref 288, .int x2]) (M' := M2) rfl rfl ⟨K_275, trivial⟩ ?_
      refine hr_Fb h (fun v6 M6 e6 h => ?_)
      refine hr_Gcv mf_X11_strengthsOf mf_X11_hueOf lb_X11_strengthsOf_21 (b := 275) (as := [.int a1]) (rest := [.int 10, .ref 288, .int x2]) (st2 := [.int v6, .int 10, .ref 288, .int x2]) (v := some (.int v6)) (M1 := M6) rfl rfl rfl rfl rfl rfl K_275 (g_X11_hueOf a1 _ _ e6) rfl rfl ?_
      refine hr_Grun mf_X11_strengthsOf lb_X11_strengthsOf_24 (P := True) (pc' := 27) (ls' := [some (.ref 275), some (.int a1), some (.int x2), some (.int x3)]) (st' := [.int x3, .ref 275, .int (10 * v6), .ref 288, .int x2]) (M' := M6) rfl rfl trivial ?_
      refine hr_Fb h (fun v8 M8 e8 h => ?_)
      refine hr_Gcv mf_X11_strengthsOf mf_X11_hueOf lb_X11_strengthsOf_27 (b := 275) (as := [.int x3]) (rest := [.int (10 * v6), .ref 288, .int x2]) (st2 := [.int v8, .int (10 * v6), .ref 288, .int x2]) (v := some (.int v8)) (M1 := M8) rfl rfl rfl rfl rfl rfl K_275 (g_X11_hueOf x3 _ _ e8) rfl rfl ?_
      refine hr_Fg h (fun hg9_0 h => ?_)
      refine hr_Grun mf_X11_strengthsOf lb_X11_strengthsOf_30 (P := (hr_K 288 = 12 ∧ vp_in ((10 * v6) + v8) (hr_N 288)) ∧ True) (pc' := 4) (ls' := [some (.ref 275), some (.int a1), some (.int (x2 + (M8.1 288 ((10 * v6) + v8).toNatClampNeg))), some (.int (x3 + 1))]) (st' := []) (M' := M8) rfl rfl ⟨⟨K_288, (inB_N N_288 hg9_0)⟩, trivial⟩ ?_
      exact ih (x2 + (M8.1 288 ((10 * v6) + v8).toNatClampNeg)) (x3 + 1) M8 _ h
def f_X11_strengthsOf (a1 : Int32) (M : PM) : Option (Int32 × PM) :=
  f_X11_strengthsOf_4 a1 FU 0 0 M
theorem g_X11_strengthsOf (a1 : Int32) : ∀ (M : PM) (r : Int32 × PM), f_X11_strengthsOf a1 M = some r → hr_G 242 0 [some (.ref 275), some (.int a1), none, none] [] M (some (.int r.1), r.2) := by
  intro M r h
  unfold f_X11_strengthsOf at h
  refine hr_Grun mf_X11_strengthsOf lb_X11_strengthsOf_0 (P := True) (pc' := 4) (ls' := [some (.ref 275), some (.int a1), some (.int 0), some (.int 0)]) (st' := []) (M' := M) rfl rfl trivial ?_
  exact g_X11_strengthsOf_4 a1 FU 0 0 M _ h
theorem mf_X11_isSet : hr_mf 243 11 2 (some .boolean) 5 2 bk_X11_isSet := ⟨rfl, rfl, rfl, rfl, rfl, rfl⟩
theorem lb_X11_isSet_0 : bk_X11_isSet.lookup 0 = some [(.iconst 0, 1), (.istore_n 3, 1)] := rfl
theorem lb_X11_isSet_2 : bk_X11_isSet.lookup 2 = some [(.iload_n 3, 1), (.aload_n 0, 1)] := rfl
theorem lb_X11_isSet_4 : bk_X11_isSet.lookup 4 = some [(.invokevirtual 347, 3)] := rfl
theorem lb_X11_isSet_7 : bk_X11_isSet.lookup 7 = some [(.if_icmp .ge 54, 3)] := rfl
theorem lb_X11_isSet_10 : bk_X11_isSet.lookup 10 = some [(.iconst 0, 1), (.istore 4, 2)] := rfl
theorem lb_X11_isSet_13 : bk_X11_isSet.lookup 13 = some [(.iload 4, 2), (.iload_n 3, 1), (.if_icmp .ge 39, 3)] := rfl
theorem lb_X11_isSet_19 : bk_X11_isSet.lookup 19 = some [(.iload_n 1, 1), (.iload_n 3, 1)] := rfl
theorem lb_X11_isSet_21 : bk_X11_isSet.lookup 21 = some [(.invokestatic 104, 3)] := rfl
theorem lb_X11_isSet_24 : bk_X11_isSet.lookup 24 = some [(.ifCond .eq 25, 3)] := rfl
theorem lb_X11_isSet_27 : bk_X11_isSet.lookup 27 = some [(.iload_n 1, 1), (.iload 4, 2)] := rfl
theorem lb_X11_isSet_30 : bk_X11_isSet.lookup 30 = some [(.invokestatic 104, 3)] := rfl
theorem lb_X11_isSet_33 : bk_X11_isSet.lookup 33 = some [(.ifCond .eq 16, 3)] := rfl
theorem lb_X11_isSet_36 : bk_X11_isSet.lookup 36 = some [(.aload_n 0, 1), (.iload_n 3, 1), (.iload 4, 2)] := rfl
theorem lb_X11_isSet_40 : bk_X11_isSet.lookup 40 = some [(.invokevirtual 407, 3)] := rfl
theorem lb_X11_isSet_43 : bk_X11_isSet.lookup 43 = some [(.iload_n 2, 1), (.if_icmp .eq 5, 3)] := rfl
theorem lb_X11_isSet_47 : bk_X11_isSet.lookup 47 = some [(.iconst 0, 1)] := rfl
theorem lb_X11_isSet_48 : bk_X11_isSet.lookup 48 = some [(.ireturn, 1)] := rfl
theorem lb_X11_isSet_49 : bk_X11_isSet.lookup 49 = some [(.iinc 4 1, 3), (.goto (-39), 3)] := rfl
theorem lb_X11_isSet_55 : bk_X11_isSet.lookup 55 = some [(.iinc 3 1, 3), (.goto (-56), 3)] := rfl
theorem lb_X11_isSet_61 : bk_X11_isSet.lookup 61 = some [(.iconst 1, 1)] := rfl
theorem lb_X11_isSet_62 : bk_X11_isSet.lookup 62 = some [(.ireturn, 1)] := rfl
def f_X11_isSet_13 (a1 : Int32) (a2 : Int32) (k2 : Int32 → PM → Option (Int32 × PM)) : Nat → Int32 → Int32 → PM → Option (Int32 × PM)
  | 0, _, _, _ => none
  | f + 1, x3, x4, M =>
    if x3 ≤ x4 then
      k2 (x3 + 1) M
    else
      hr_bd (f_X11_has a1 x3 M) (fun v4 M4 =>
      if v4 = 0 then
        f_X11_isSet_13 a1 a2 k2 f x3 (x4 + 1) M4
      else
        hr_bd (f_X11_has a1 x4 M4) (fun v8 M8 =>
        if v8 = 0 then
          f_X11_isSet_13 a1 a2 k2 f x3 (x4 + 1) M8
        else
          hr_bd (f_X11_mind x3 x4 M8) (fun v12 M12 =>
          if v12 = a2 then
            f_X11_isSet_13 a1 a2 k2 f x3 (x4 + 1) M12
          else
            some (0, M12))))
theorem g_X11_isSet_13 (a1 : Int32) (a2 : Int32)  (k2 : Int32 → PM → Option (Int32 × PM)) (hk2 : ∀ (x3 : Int32) (M : PM) (r : Int32 × PM), k2 x3 M = some r → hr_G 243 2 [some (.ref 275), some (.int a1), some (.int a2), some (.int x3), none] [] M (some (.int r.1), r.2)) : ∀ (f : Nat) (x3 : Int32) (x4 : Int32) (M : PM) (r : Int32 × PM), f_X11_isSet_13 a1 a2 k2 f x3 x4 M = some r → hr_G 243 13 [some (.ref 275), some (.int a1), some (.int a2), some (.int x3), some (.int x4)] [] M (some (.int r.1), r.2) := by
  intro f
  induction f with
  | zero => intro x3 x4 M r h; cases h
  | succ f ih =>
    intro x3 x4 M r h
    rw [f_X11_isSet_13.eq_2] at h
    refine hr_Grun mf_X11_isSet lb_X11_isSet_13 (P := True) (pc' := if x3 ≤ x4 then 55 else 19) (ls' := [some (.ref 275), some (.int a1), some (.int a2), some (.int x3), some (.int x4)]) (st' := []) (M' := M) rfl rfl trivial ?_
    refine hr_Gif h (fun _ h => ?_) (fun _ h => ?_)
    · refine hr_Grun mf_X11_isSet lb_X11_isSet_55 (P := True) (pc' := 2) (ls' := [some (.ref 275), some (.int a1), some (.int a2), some (.int (x3 + 1)), some (.int x4)]) (st' := []) (M' := M) rfl rfl trivial ?_
      refine hr_Gle (ls := [some (.ref 275), some (.int a1), some (.int a2), some (.int (x3 + 1)), none]) (hr_le_s (hr_le_s (hr_le_s (hr_le_s (hr_le_n hr_le_0))))) ?_
      exact hk2 (x3 + 1) M _ h
    · refine hr_Grun mf_X11_isSet lb_X11_isSet_19 (P := True) (pc' := 21) (ls' := [some (.ref 275), some (.int a1), some (.int a2), some (.int x3), some (.int x4)]) (st' := [.int x3, .int a1]) (M' := M) rfl rfl trivial ?_
      refine hr_Fb h (fun v4 M4 e4 h => ?_)
      refine hr_Gcs mf_X11_isSet mf_X11_has lb_X11_isSet_21 (as := [.int a1, .int x3]) (rest := []) (st2 := [.int v4]) (v := some (.int v4)) (M1 := M4) rfl rfl rfl rfl rfl rfl (g_X11_has a1 x3 _ _ e4) rfl rfl ?_
      refine hr_Grun mf_X11_isSet lb_X11_isSet_24 (P := True) (pc' := if v4 = 0 then 49 else 27) (ls' := [some (.ref 275), some (.int a1), some (.int a2), some (.int x3), some (.int x4)]) (st' := []) (M' := M4) rfl rfl trivial ?_
      refine hr_Gif h (fun _ h => ?_) (fun _ h => ?_)
      · refine hr_Grun mf_X11_isSet lb_X11_isSet_49 (P := True) (pc' := 13) (ls' := [some (.ref 275), some (.int a1), some (.int a2), some (.int x3), some (.int (x4 + 1))]) (st' := []) (M' := M4) rfl rfl trivial ?_
        exact ih x3 (x4 + 1) M4 _ h
      · refine hr_Grun mf_X11_isSet lb_X11_isSet_27 (P := True) (pc' := 30) (ls' := [some (.ref 275), some (.int a1), some (.int a2), some (.int x3), some (.int x4)]) (st' := [.int x4, .int a1]) (M' := M4) rfl rfl trivial ?_
        refine hr_Fb h (fun v8 M8 e8 h => ?_)
        refine hr_Gcs mf_X11_isSet mf_X11_has lb_X11_isSet_30 (as := [.int a1, .int x4]) (rest := []) (st2 := [.int v8]) (v := some (.int v8)) (M1 := M8) rfl rfl rfl rfl rfl rfl (g_X11_has a1 x4 _ _ e8) rfl rfl ?_
        refine hr_Grun mf_X11_isSet lb_X11_isSet_33 (P := True) (pc' := if v8 = 0 then 49 else 36) (ls' := [some (.ref 275), some (.int a1), some (.int a2), some (.int x3), some (.int x4)]) (st' := []) (M' := M8) rfl rfl trivial ?_
        refine hr_Gif h (fun _ h => ?_) (fun _ h => ?_)
        · refine hr_Grun mf_X11_isSet lb_X11_isSet_49 (P := True) (pc' := 13) (ls' := [some (.ref 275), some (.int a1), some (.int a2), some (.int x3), some (.int (x4 + 1))]) (st' := []) (M' := M8) rfl rfl trivial ?_
          exact ih x3 (x4 + 1) M8 _ h
        · refine hr_Grun mf_X11_isSet lb_X11_isSet_36 (P := True) (pc' := 40) (ls' := [some (.ref 275), some (.int a1), some (.int a2), some (.int x3), some (.int x4)]) (st' := [.int x4, .int x3, .ref 275]) (M' := M8) rfl rfl trivial ?_
          refine hr_Fb h (fun v12 M12 e12 h => ?_)
          refine hr_Gcv mf_X11_isSet mf_X11_mind lb_X11_isSet_40 (b := 275) (as := [.int x3, .int x4]) (rest := []) (st2 := [.int v12]) (v := some (.int v12)) (M1 := M12) rfl rfl rfl rfl rfl rfl K_275 (g_X11_mind x3 x4 _ _ e12) rfl rfl ?_
          refine hr_Grun mf_X11_isSet lb_X11_isSet_43 (P := True) (pc' := if v12 = a2 then 49 else 47) (ls' := [some (.ref 275), some (.int a1), some (.int a2), some (.int x3), some (.int x4)]) (st' := []) (M' := M12) rfl rfl trivial ?_
          refine hr_Gif h (fun _ h => ?_) (fun _ h => ?_)
          · refine hr_Grun mf_X11_isSet lb_X11_isSet_49 (P := True) (pc' := 13) (ls' := [some (.ref 275), some (.int a1), some (.int a2), some (.int x3), some (.int (x4 + 1))]) (st' := []) (M' := M12) rfl rfl trivial ?_
            exact ih x3 (x4 + 1) M12 _ h
          · refine hr_Grun mf_X11_isSet lb_X11_isSet_47 (P := True) (pc' := 48) (ls' := [some (.ref 275), some (.int a1), some (.int a2), some (.int x3), some (.int x4)]) (st' := [.int 0]) (M' := M12) rfl rfl trivial ?_
            cases h
            exact hr_Gret mf_X11_isSet lb_X11_isSet_48 rfl rfl (Or.inl rfl)
def f_X11_isSet_2 (a1 : Int32) (a2 : Int32) : Nat → Int32 → PM → Option (Int32 × PM)
  | 0, _, _ => none
  | f + 1, x3, M =>
    hr_bd (f_X11_pictures M) (fun v2 M2 =>
    if v2 ≤ x3 then
      some (1, M2)
    else
      f_X11_isSet_13 a1 a2 (fun x3 M => f_X11_isSet_2 a1 a2 f x3 M) FU x3 0 M2)
theorem g_X11_isSet_2 (a1 : Int32) (a2 : Int32)  : ∀ (f : Nat) (x3 : Int32) (M : PM) (r : Int32 × PM), f_X11_isSet_2 a1 a2 f x3 M = some r → hr_G 243 2 [some (.ref 275), some (.int a1), some (.int a2), some (.int x3), none] [] M (some (.int r.1), r.2) := by
  intro f
  induction f with
  | zero => intro x3 M r h; cases h
  | succ f ih =>
    intro x3 M r h
    rw [f_X11_isSet_2.eq_2] at h
    refine hr_Grun mf_X11_isSet lb_X11_isSet_2 (P := True) (pc' := 4) (ls' := [some (.ref 275), some (.int a1), some (.int a2), some (.int x3), none]) (st' := [.ref 275, .int x3]) (M' := M) rfl rfl trivial ?_
    refine hr_Fb h (fun v2 M2 e2 h => ?_)
    refine hr_Gcv mf_X11_isSet mf_X11_pictures lb_X11_isSet_4 (b := 275) (as := []) (rest := [.int x3]) (st2 := [.int v2, .int x3]) (v := some (.int v2)) (M1 := M2) rfl rfl rfl rfl rfl rfl K_275 (g_X11_pictures  _ _ e2) rfl rfl ?_
    refine hr_Grun mf_X11_isSet lb_X11_isSet_7 (P := True) (pc' := if v2 ≤ x3 then 61 else 10) (ls' := [some (.ref 275), some (.int a1), some (.int a2), some (.int x3), none]) (st' := []) (M' := M2) rfl rfl trivial ?_
    refine hr_Gif h (fun _ h => ?_) (fun _ h => ?_)
    · refine hr_Grun mf_X11_isSet lb_X11_isSet_61 (P := True) (pc' := 62) (ls' := [some (.ref 275), some (.int a1), some (.int a2), some (.int x3), none]) (st' := [.int 1]) (M' := M2) rfl rfl trivial ?_
      cases h
      exact hr_Gret mf_X11_isSet lb_X11_isSet_62 rfl rfl (Or.inr rfl)
    · refine hr_Grun mf_X11_isSet lb_X11_isSet_10 (P := True) (pc' := 13) (ls' := [some (.ref 275), some (.int a1), some (.int a2), some (.int x3), some (.int 0)]) (st' := []) (M' := M2) rfl rfl trivial ?_
      exact g_X11_isSet_13 a1 a2 (fun x3 M => f_X11_isSet_2 a1 a2 f x3 M) (fun x3 M r h => ih x3 M r h) FU x3 0 M2 _ h
def f_X11_isSet (a1 : Int32) (a2 : Int32) (M : PM) : Option (Int32 × PM) :=
  f_X11_isSet_2 a1 a2 FU 0 M
theorem g_X11_isSet (a1 : Int32) (a2 : Int32) : ∀ (M : PM) (r : Int32 × PM), f_X11_isSet a1 a2 M = some r → hr_G 243 0 [some (.ref 275), some (.int a1), some (.int a2), none, none] [] M (some (.int r.1), r.2) := by
  intro M r h
  unfold f_X11_isSet at h
  refine hr_Grun mf_X11_isSet lb_X11_isSet_0 (P := True) (pc' := 2) (ls' := [some (.ref 275), some (.int a1), some (.int a2), some (.int 0), none]) (st' := []) (M' := M) rfl rfl trivial ?_
  exact g_X11_isSet_2 a1 a2 FU 0 M _ h
theorem mf_X11_greatestSet : hr_mf 244 11 3 (some .int) 3 0 bk_X11_greatestSet := ⟨rfl, rfl, rfl, rfl, rfl, rfl⟩
theorem lb_X11_greatestSet_0 : bk_X11_greatestSet.lookup 0 = some [(.iconst 0, 1), (.istore_n 1, 1), (.iconst 1, 1), (.istore_n 2, 1)] := rfl
theorem lb_X11_greatestSet_4 : bk_X11_greatestSet.lookup 4 = some [(.iload_n 2, 1), (.iconst 1, 1), (.aload_n 0, 1)] := rfl
theorem lb_X11_greatestSet_7 : bk_X11_greatestSet.lookup 7 = some [(.invokevirtual 347, 3)] := rfl
theorem lb_X11_greatestSet_10 : bk_X11_greatestSet.lookup 10 = some [(.ishl, 1), (.if_icmp .ge 35, 3)] := rfl
theorem lb_X11_greatestSet_14 : bk_X11_greatestSet.lookup 14 = some [(.iload_n 2, 1)] := rfl
theorem lb_X11_greatestSet_15 : bk_X11_greatestSet.lookup 15 = some [(.invokestatic 410, 3)] := rfl
theorem lb_X11_greatestSet_18 : bk_X11_greatestSet.lookup 18 = some [(.iload_n 1, 1)] := rfl
theorem lb_X11_greatestSet_19 : bk_X11_greatestSet.lookup 19 = some [(.invokestatic 410, 3)] := rfl
theorem lb_X11_greatestSet_22 : bk_X11_greatestSet.lookup 22 = some [(.if_icmp .le 16, 3)] := rfl
theorem lb_X11_greatestSet_25 : bk_X11_greatestSet.lookup 25 = some [(.aload_n 0, 1), (.iload_n 2, 1), (.iconst 1, 1)] := rfl
theorem lb_X11_greatestSet_28 : bk_X11_greatestSet.lookup 28 = some [(.invokevirtual 413, 3)] := rfl
theorem lb_X11_greatestSet_31 : bk_X11_greatestSet.lookup 31 = some [(.ifCond .eq 7, 3)] := rfl
theorem lb_X11_greatestSet_34 : bk_X11_greatestSet.lookup 34 = some [(.iload_n 2, 1), (.goto 4, 3)] := rfl
theorem lb_X11_greatestSet_38 : bk_X11_greatestSet.lookup 38 = some [(.iload_n 1, 1)] := rfl
theorem lb_X11_greatestSet_39 : bk_X11_greatestSet.lookup 39 = some [(.istore_n 1, 1), (.iinc 2 1, 3), (.goto (-39), 3)] := rfl
theorem lb_X11_greatestSet_46 : bk_X11_greatestSet.lookup 46 = some [(.iload_n 1, 1)] := rfl
theorem lb_X11_greatestSet_47 : bk_X11_greatestSet.lookup 47 = some [(.ireturn, 1)] := rfl
def f_X11_greatestSet_4  : Nat → Int32 → Int32 → PM → Option (Int32 × PM)
  | 0, _, _, _ => none
  | f + 1, x1, x2, M =>
    hr_bd (f_X11_pictures M) (fun v2 M2 =>
    if (jl 1 v2) ≤ x2 then
      some (x1, M2)
    else
      hr_bd (f_X11_ones x2 M2) (fun v6 M6 =>
      hr_bd (f_X11_ones x1 M6) (fun v8 M8 =>
      if v6 ≤ v8 then
        f_X11_greatestSet_4 f x1 (x2 + 1) M8
      else
        hr_bd (f_X11_isSet x2 1 M8) (fun v13 M13 =>
        if v13 = 0 then
          f_X11_greatestSet_4 f x1 (x2 + 1) M13
        else
          f_X11_greatestSet_4 f x2 (x2 + 1) M13))))
theorem g_X11_greatestSet_4   : ∀ (f : Nat) (x1 : Int32) (x2 : Int32) (M : PM) (r : Int32 × PM), f_X11_greatestSet_4 f x1 x2 M = some r → hr_G 244 4 [some (.ref 275), some (.int x1), some (.int x2)] [] M (some (.int r.1), r.2) := by
  intro f
  induction f with
  | zero => intro x1 x2 M r h; cases h
  | succ f ih =>
    intro x1 x2 M r h
    rw [f_X11_greatestSet_4.eq_2] at h
    refine hr_Grun mf_X11_greatestSet lb_X11_greatestSet_4 (P := True) (pc' := 7) (ls' := [some (.ref 275), some (.int x1), some (.int x2)]) (st' := [.ref 275, .int 1, .int x2]) (M' := M) rfl rfl trivial ?_
    refine hr_Fb h (fun v2 M2 e2 h => ?_)
    refine hr_Gcv mf_X11_greatestSet mf_X11_pictures lb_X11_greatestSet_7 (b := 275) (as := []) (rest := [.int 1, .int x2]) (st2 := [.int v2, .int 1, .int x2]) (v := some (.int v2)) (M1 := M2) rfl rfl rfl rfl rfl rfl K_275 (g_X11_pictures  _ _ e2) rfl rfl ?_
    refine hr_Grun mf_X11_greatestSet lb_X11_greatestSet_10 (P := True) (pc' := if (jl 1 v2) ≤ x2 then 46 else 14) (ls' := [some (.ref 275), some (.int x1), some (.int x2)]) (st' := []) (M' := M2) rfl rfl trivial ?_
    refine hr_Gif h (fun _ h => ?_) (fun _ h => ?_)
    · refine hr_Grun mf_X11_greatestSet lb_X11_greatestSet_46 (P := True) (pc' := 47) (ls' := [some (.ref 275), some (.int x1), some (.int x2)]) (st' := [.int x1]) (M' := M2) rfl rfl trivial ?_
      cases h
      exact hr_Gret mf_X11_greatestSet lb_X11_greatestSet_47 rfl rfl trivial
    · refine hr_Grun mf_X11_greatestSet lb_X11_greatestSet_14 (P := True) (pc' := 15) (ls' := [some (.ref 275), some (.int x1), some (.int x2)]) (st' := [.int x2]) (M' := M2) rfl rfl trivial ?_
      refine hr_Fb h (fun v6 M6 e6 h => ?_)
      refine hr_Gcs mf_X11_greatestSet mf_X11_ones lb_X11_greatestSet_15 (as := [.int x2]) (rest := []) (st2 := [.int v6]) (v := some (.int v6)) (M1 := M6) rfl rfl rfl rfl rfl rfl (g_X11_ones x2 _ _ e6) rfl rfl ?_
      refine hr_Grun mf_X11_greatestSet lb_X11_greatestSet_18 (P := True) (pc' := 19) (ls' := [some (.ref 275), some (.int x1), some (.int x2)]) (st' := [.int x1, .int v6]) (M' := M6) rfl rfl trivial ?_
      refine hr_Fb h (fun v8 M8 e8 h => ?_)
      refine hr_Gcs mf_X11_greatestSet mf_X11_ones lb_X11_greatestSet_19 (as := [.int x1]) (rest := [.int v6]) (st2 := [.int v8, .int v6]) (v := some (.int v8)) (M1 := M8) rfl rfl rfl rfl rfl rfl (g_X11_ones x1 _ _ e8) rfl rfl ?_
      refine hr_Grun mf_X11_greatestSet lb_X11_greatestSet_22 (P := True) (pc' := if v6 ≤ v8 then 38 else 25) (ls' := [some (.ref 275), some (.int x1), some (.int x2)]) (st' := []) (M' := M8) rfl rfl trivial ?_
      refine hr_Gif h (fun _ h => ?_) (fun _ h => ?_)
      · refine hr_Grun mf_X11_greatestSet lb_X11_greatestSet_38 (P := True) (pc' := 39) (ls' := [some (.ref 275), some (.int x1), some (.int x2)]) (st' := [.int x1]) (M' := M8) rfl rfl trivial ?_
        refine hr_Grun mf_X11_greatestSet lb_X11_greatestSet_39 (P := True) (pc' := 4) (ls' := [some (.ref 275), some (.int x1), some (.int (x2 + 1))]) (st' := []) (M' := M8) rfl rfl trivial ?_
        exact ih x1 (x2 + 1) M8 _ h
      · refine hr_Grun mf_X11_greatestSet lb_X11_greatestSet_25 (P := True) (pc' := 28) (ls' := [some (.ref 275), some (.int x1), some (.int x2)]) (st' := [.int 1, .int x2, .ref 275]) (M' := M8) rfl rfl trivial ?_
        refine hr_Fb h (fun v13 M13 e13 h => ?_)
        refine hr_Gcv mf_X11_greatestSet mf_X11_isSet lb_X11_greatestSet_28 (b := 275) (as := [.int x2, .int 1]) (rest := []) (st2 := [.int v13]) (v := some (.int v13)) (M1 := M13) rfl rfl rfl rfl rfl rfl K_275 (g_X11_isSet x2 1 _ _ e13) rfl rfl ?_
        refine hr_Grun mf_X11_greatestSet lb_X11_greatestSet_31 (P := True) (pc' := if v13 = 0 then 38 else 34) (ls' := [some (.ref 275), some (.int x1), some (.int x2)]) (st' := []) (M' := M13) rfl rfl trivial ?_
        refine hr_Gif h (fun _ h => ?_) (fun _ h => ?_)
        · refine hr_Grun mf_X11_greatestSet lb_X11_greatestSet_38 (P := True) (pc' := 39) (ls' := [some (.ref 275), some (.int x1), some (.int x2)]) (st' := [.int x1]) (M' := M13) rfl rfl trivial ?_
          refine hr_Grun mf_X11_greatestSet lb_X11_greatestSet_39 (P := True) (pc' := 4) (ls' := [some (.ref 275), some (.int x1), some (.int (x2 + 1))]) (st' := []) (M' := M13) rfl rfl trivial ?_
          exact ih x1 (x2 + 1) M13 _ h
        · refine hr_Grun mf_X11_greatestSet lb_X11_greatestSet_34 (P := True) (pc' := 39) (ls' := [some (.ref 275), some (.int x1), some (.int x2)]) (st' := [.int x2]) (M' := M13) rfl rfl trivial ?_
          refine hr_Grun mf_X11_greatestSet lb_X11_greatestSet_39 (P := True) (pc' := 4) (ls' := [some (.ref 275), some (.int x2), some (.int (x2 + 1))]) (st' := []) (M' := M13) rfl rfl trivial ?_
          exact ih x2 (x2 + 1) M13 _ h
def f_X11_greatestSet (M : PM) : Option (Int32 × PM) :=
  f_X11_greatestSet_4 FU 0 1 M
theorem g_X11_greatestSet  : ∀ (M : PM) (r : Int32 × PM), f_X11_greatestSet M = some r → hr_G 244 0 [some (.ref 275), none, none] [] M (some (.int r.1), r.2) := by
  intro M r h
  unfold f_X11_greatestSet at h
  refine hr_Grun mf_X11_greatestSet lb_X11_greatestSet_0 (P := True) (pc' := 4) (ls' := [some (.ref 275), some (.int 0), some (.int 1)]) (st' := []) (M' := M) rfl rfl trivial ?_
  exact g_X11_greatestSet_4 FU 0 1 M _ h
theorem mf_X11_curtains : hr_mf 245 11 3 (some .int) 4 0 bk_X11_curtains := ⟨rfl, rfl, rfl, rfl, rfl, rfl⟩
theorem lb_X11_curtains_0 : bk_X11_curtains.lookup 0 = some [(.iconst 1, 1), (.aload_n 0, 1)] := rfl
theorem lb_X11_curtains_2 : bk_X11_curtains.lookup 2 = some [(.invokevirtual 347, 3)] := rfl
theorem lb_X11_curtains_5 : bk_X11_curtains.lookup 5 = some [(.ishl, 1), (.iconst 1, 1), (.isub, 1), (.istore_n 1, 1), (.iload_n 1, 1), (.istore_n 2, 1), (.iload_n 1, 1), (.iconst 1, 1), (.isub, 1), (.istore_n 3, 1)] := rfl
theorem lb_X11_curtains_15 : bk_X11_curtains.lookup 15 = some [(.iload_n 3, 1), (.ifCond .lt 39, 3)] := rfl
theorem lb_X11_curtains_19 : bk_X11_curtains.lookup 19 = some [(.iload_n 3, 1)] := rfl
theorem lb_X11_curtains_20 : bk_X11_curtains.lookup 20 = some [(.invokestatic 410, 3)] := rfl
theorem lb_X11_curtains_23 : bk_X11_curtains.lookup 23 = some [(.iload_n 2, 1)] := rfl
theorem lb_X11_curtains_24 : bk_X11_curtains.lookup 24 = some [(.invokestatic 410, 3)] := rfl
theorem lb_X11_curtains_27 : bk_X11_curtains.lookup 27 = some [(.if_icmp .gt 20, 3)] := rfl
theorem lb_X11_curtains_30 : bk_X11_curtains.lookup 30 = some [(.aload_n 0, 1), (.iload_n 1, 1), (.iload_n 3, 1), (.iconst (-1), 1), (.ixor, 1), (.iand, 1), (.iconst 0, 1)] := rfl
theorem lb_X11_curtains_37 : bk_X11_curtains.lookup 37 = some [(.invokevirtual 413, 3)] := rfl
theorem lb_X11_curtains_40 : bk_X11_curtains.lookup 40 = some [(.ifCond .eq 7, 3)] := rfl
theorem lb_X11_curtains_43 : bk_X11_curtains.lookup 43 = some [(.iload_n 3, 1), (.goto 4, 3)] := rfl
theorem lb_X11_curtains_47 : bk_X11_curtains.lookup 47 = some [(.iload_n 2, 1)] := rfl
theorem lb_X11_curtains_48 : bk_X11_curtains.lookup 48 = some [(.istore_n 2, 1), (.iinc 3 (-1), 3), (.goto (-37), 3)] := rfl
theorem lb_X11_curtains_55 : bk_X11_curtains.lookup 55 = some [(.iload_n 2, 1)] := rfl
theorem lb_X11_curtains_56 : bk_X11_curtains.lookup 56 = some [(.ireturn, 1)] := rfl
def f_X11_curtains_15  : Nat → Int32 → Int32 → Int32 → PM → Option (Int32 × PM)
  | 0, _, _, _, _ => none
  | f + 1, x1, x2, x3, M =>
    if x3 < 0 then
      some (x2, M)
    else
      hr_bd (f_X11_ones x3 M) (fun v4 M4 =>
      hr_bd (f_X11_ones x2 M4) (fun v6 M6 =>
      if v6 < v4 then
        f_X11_curtains_15 f x1 x2 (x3 + (-1)) M6
      else
        hr_bd (f_X11_isSet (x1 &&& (x3 ^^^ (-1))) 0 M6) (fun v11 M11 =>
        if v11 = 0 then
          f_X11_curtains_15 f x1 x2 (x3 + (-1)) M11
        else
          f_X11_curtains_15 f x1 x3 (x3 + (-1)) M11)))
theorem g_X11_curtains_15   : ∀ (f : Nat) (x1 : Int32) (x2 : Int32) (x3 : Int32) (M : PM) (r : Int32 × PM), f_X11_curtains_15 f x1 x2 x3 M = some r → hr_G 245 15 [some (.ref 275), some (.int x1), some (.int x2), some (.int x3)] [] M (some (.int r.1), r.2) := by
  intro f
  induction f with
  | zero => intro x1 x2 x3 M r h; cases h
  | succ f ih =>
    intro x1 x2 x3 M r h
    rw [f_X11_curtains_15.eq_2] at h
    refine hr_Grun mf_X11_curtains lb_X11_curtains_15 (P := True) (pc' := if x3 < 0 then 55 else 19) (ls' := [some (.ref 275), some (.int x1), some (.int x2), some (.int x3)]) (st' := []) (M' := M) rfl rfl trivial ?_
    refine hr_Gif h (fun _ h => ?_) (fun _ h => ?_)
    · refine hr_Grun mf_X11_curtains lb_X11_curtains_55 (P := True) (pc' := 56) (ls' := [some (.ref 275), some (.int x1), some (.int x2), some (.int x3)]) (st' := [.int x2]) (M' := M) rfl rfl trivial ?_
      cases h
      exact hr_Gret mf_X11_curtains lb_X11_curtains_56 rfl rfl trivial
    · refine hr_Grun mf_X11_curtains lb_X11_curtains_19 (P := True) (pc' := 20) (ls' := [some (.ref 275), some (.int x1), some (.int x2), some (.int x3)]) (st' := [.int x3]) (M' := M) rfl rfl trivial ?_
      refine hr_Fb h (fun v4 M4 e4 h => ?_)
      refine hr_Gcs mf_X11_curtains mf_X11_ones lb_X11_curtains_20 (as := [.int x3]) (rest := []) (st2 := [.int v4]) (v := some (.int v4)) (M1 := M4) rfl rfl rfl rfl rfl rfl (g_X11_ones x3 _ _ e4) rfl rfl ?_
      refine hr_Grun mf_X11_curtains lb_X11_curtains_23 (P := True) (pc' := 24) (ls' := [some (.ref 275), some (.int x1), some (.int x2), some (.int x3)]) (st' := [.int x2, .int v4]) (M' := M4) rfl rfl trivial ?_
      refine hr_Fb h (fun v6 M6 e6 h => ?_)
      refine hr_Gcs mf_X11_curtains mf_X11_ones lb_X11_curtains_24 (as := [.int x2]) (rest := [.int v4]) (st2 := [.int v6, .int v4]) (v := some (.int v6)) (M1 := M6) rfl rfl rfl rfl rfl rfl (g_X11_ones x2 _ _ e6) rfl rfl ?_
      refine hr_Grun mf_X11_curtains lb_X11_curtains_27 (P := True) (pc' := if v6 < v4 then 47 else 30) (ls' := [some (.ref 275), some (.int x1), some (.int x2), some (.int x3)]) (st' := []) (M' := M6) rfl rfl trivial ?_
      refine hr_Gif h (fun _ h => ?_) (fun _ h => ?_)
      · refine hr_Grun mf_X11_curtains lb_X11_curtains_47 (P := True) (pc' := 48) (ls' := [some (.ref 275), some (.int x1), some (.int x2), some (.int x3)]) (st' := [.int x2]) (M' := M6) rfl rfl trivial ?_
        refine hr_Grun mf_X11_curtains lb_X11_curtains_48 (P := True) (pc' := 15) (ls' := [some (.ref 275), some (.int x1), some (.int x2), some (.int (x3 + (-1)))]) (st' := []) (M' := M6) rfl rfl trivial ?_
        exact ih x1 x2 (x3 + (-1)) M6 _ h
      · refine hr_Grun mf_X11_curtains lb_X11_curtains_30 (P := True) (pc' := 37) (ls' := [some (.ref 275), some (.int x1), some (.int x2), some (.int x3)]) (st' := [.int 0, .int (x1 &&& (x3 ^^^ (-1))), .ref 275]) (M' := M6) rfl rfl trivial ?_
        refine hr_Fb h (fun v11 M11 e11 h => ?_)
        refine hr_Gcv mf_X11_curtains mf_X11_isSet lb_X11_curtains_37 (b := 275) (as := [.int (x1 &&& (x3 ^^^ (-1))), .int 0]) (rest := []) (st2 := [.int v11]) (v := some (.int v11)) (M1 := M11) rfl rfl rfl rfl rfl rfl K_275 (g_X11_isSet (x1 &&& (x3 ^^^ (-1))) 0 _ _ e11) rfl rfl ?_
        refine hr_Grun mf_X11_curtains lb_X11_curtains_40 (P := True) (pc' := if v11 = 0 then 47 else 43) (ls' := [some (.ref 275), some (.int x1), some (.int x2), some (.int x3)]) (st' := []) (M' := M11) rfl rfl trivial ?_
        refine hr_Gif h (fun _ h => ?_) (fun _ h => ?_)
        · refine hr_Grun mf_X11_curtains lb_X11_curtains_47 (P := True) (pc' := 48) (ls' := [some (.ref 275), some (.int x1), some (.int x2), some (.int x3)]) (st' := [.int x2]) (M' := M11) rfl rfl trivial ?_
          refine hr_Grun mf_X11_curtains lb_X11_curtains_48 (P := True) (pc' := 15) (ls' := [some (.ref 275), some (.int x1), some (.int x2), some (.int (x3 + (-1)))]) (st' := []) (M' := M11) rfl rfl trivial ?_
          exact ih x1 x2 (x3 + (-1)) M11 _ h
        · refine hr_Grun mf_X11_curtains lb_X11_curtains_43 (P := True) (pc' := 48) (ls' := [some (.ref 275), some (.int x1), some (.int x2), some (.int x3)]) (st' := [.int x3]) (M' := M11) rfl rfl trivial ?_
          refine hr_Grun mf_X11_curtains lb_X11_curtains_48 (P := True) (pc' := 15) (ls' := [some (.ref 275), some (.int x1), some (.int x3), some (.int (x3 + (-1)))]) (st' := []) (M' := M11) rfl rfl trivial ?_
          exact ih x1 x3 (x3 + (-1)) M11 _ h
def f_X11_curtains (M : PM) : Option (Int32 × PM) :=
  hr_bd (f_X11_pictures M) (fun v2 M2 =>
  f_X11_curtains_15 FU ((jl 1 v2) - 1) ((jl 1 v2) - 1) (((jl 1 v2) - 1) - 1) M2)
theorem g_X11_curtains  : ∀ (M : PM) (r : Int32 × PM), f_X11_curtains M = some r → hr_G 245 0 [some (.ref 275), none, none, none] [] M (some (.int r.1), r.2) := by
  intro M r h
  unfold f_X11_curtains at h
  refine hr_Grun mf_X11_curtains lb_X11_curtains_0 (P := True) (pc' := 2) (ls' := [some (.ref 275), none, none, none]) (st' := [.ref 275, .int 1]) (M' := M) rfl rfl trivial ?_
  refine hr_Fb h (fun v2 M2 e2 h => ?_)
  refine hr_Gcv mf_X11_curtains mf_X11_pictures lb_X11_curtains_2 (b := 275) (as := []) (rest := [.int 1]) (st2 := [.int v2, .int 1]) (v := some (.int v2)) (M1 := M2) rfl rfl rfl rfl rfl rfl K_275 (g_X11_pictures  _ _ e2) rfl rfl ?_
  refine hr_Grun mf_X11_curtains lb_X11_curtains_5 (P := True) (pc' := 15) (ls' := [some (.ref 275), some (.int ((jl 1 v2) - 1)), some (.int ((jl 1 v2) - 1)), some (.int (((jl 1 v2) - 1) - 1))]) (st' := []) (M' := M2) rfl rfl trivial ?_
  exact g_X11_curtains_15 FU ((jl 1 v2) - 1) ((jl 1 v2) - 1) (((jl 1 v2) - 1) - 1) M2 _ h
theorem mf_X11_fewestRooms : hr_mf 246 11 3 (some .int) 4 0 bk_X11_fewestRooms := ⟨rfl, rfl, rfl, rfl, rfl, rfl⟩
theorem lb_X11_fewestRooms_0 : bk_X11_fewestRooms.lookup 0 = some [(.aload_n 0, 1), (.getfield 68, 3), (.iconst 0, 1), (.iconst 0, 1), (.iastore, 1), (.iconst 1, 1), (.istore_n 1, 1)] := rfl
theorem lb_X11_fewestRooms_9 : bk_X11_fewestRooms.lookup 9 = some [(.iload_n 1, 1), (.iconst 1, 1), (.aload_n 0, 1)] := rfl
theorem lb_X11_fewestRooms_12 : bk_X11_fewestRooms.lookup 12 = some [(.invokevirtual 347, 3)] := rfl
theorem lb_X11_fewestRooms_15 : bk_X11_fewestRooms.lookup 15 = some [(.ishl, 1), (.if_icmp .ge 80, 3)] := rfl
theorem lb_X11_fewestRooms_19 : bk_X11_fewestRooms.lookup 19 = some [(.aload_n 0, 1), (.getfield 68, 3), (.iload_n 1, 1), (.bipush 9, 2), (.iastore, 1), (.iload_n 1, 1), (.istore_n 2, 1)] := rfl
theorem lb_X11_fewestRooms_29 : bk_X11_fewestRooms.lookup 29 = some [(.iload_n 2, 1), (.ifCond .le 60, 3)] := rfl
theorem lb_X11_fewestRooms_33 : bk_X11_fewestRooms.lookup 33 = some [(.aload_n 0, 1), (.getfield 68, 3), (.iload_n 1, 1), (.iload_n 2, 1), (.iconst (-1), 1), (.ixor, 1), (.iand, 1), (.iaload, 1), (.iconst 1, 1), (.iadd, 1), (.istore_n 3, 1), (.aload_n 0, 1), (.getfield 68, 3), (.iload_n 1, 1), (.iload_n 3, 1), (.aload_n 0, 1), (.getfield 68, 3), (.iload_n 1, 1), (.iaload, 1), (.if_icmp .ge 16, 3)] := rfl
theorem lb_X11_fewestRooms_61 : bk_X11_fewestRooms.lookup 61 = some [(.aload_n 0, 1), (.iload_n 2, 1), (.iconst 0, 1)] := rfl
theorem lb_X11_fewestRooms_64 : bk_X11_fewestRooms.lookup 64 = some [(.invokevirtual 413, 3)] := rfl
theorem lb_X11_fewestRooms_67 : bk_X11_fewestRooms.lookup 67 = some [(.ifCond .eq 7, 3)] := rfl
theorem lb_X11_fewestRooms_70 : bk_X11_fewestRooms.lookup 70 = some [(.iload_n 3, 1), (.goto 9, 3)] := rfl
theorem lb_X11_fewestRooms_74 : bk_X11_fewestRooms.lookup 74 = some [(.aload_n 0, 1), (.getfield 68, 3), (.iload_n 1, 1), (.iaload, 1)] := rfl
theorem lb_X11_fewestRooms_80 : bk_X11_fewestRooms.lookup 80 = some [(.iastore, 1), (.iload_n 2, 1), (.iconst 1, 1), (.isub, 1), (.iload_n 1, 1), (.iand, 1), (.istore_n 2, 1), (.goto (-58), 3)] := rfl
theorem lb_X11_fewestRooms_90 : bk_X11_fewestRooms.lookup 90 = some [(.iinc 1 1, 3), (.goto (-84), 3)] := rfl
theorem lb_X11_fewestRooms_96 : bk_X11_fewestRooms.lookup 96 = some [(.aload_n 0, 1), (.getfield 68, 3), (.iconst 1, 1), (.aload_n 0, 1)] := rfl
theorem lb_X11_fewestRooms_102 : bk_X11_fewestRooms.lookup 102 = some [(.invokevirtual 347, 3)] := rfl
theorem lb_X11_fewestRooms_105 : bk_X11_fewestRooms.lookup 105 = some [(.ishl, 1), (.iconst 1, 1), (.isub, 1), (.iaload, 1)] := rfl
theorem lb_X11_fewestRooms_109 : bk_X11_fewestRooms.lookup 109 = some [(.ireturn, 1)] := rfl
def f_X11_fewestRooms_29  (k9 : Int32 → PM → Option (Int32 × PM)) : Nat → Int32 → Int32 → PM → Option (Int32 × PM)
  | 0, _, _, _ => none
  | f + 1, x1, x2, M =>
    if x2 ≤ 0 then
      k9 (x1 + 1) M
    else
      if inB (x1 &&& (x2 ^^^ (-1))) 512 = true then if inB x1 512 = true then if (M.1 295 x1.toNatClampNeg) ≤ ((M.1 295 (x1 &&& (x2 ^^^ (-1))).toNatClampNeg) + 1) then
        if inB x1 512 = true then 
        if inB x1 512 = true then 
        f_X11_fewestRooms_29 k9 f x1 ((x2 - 1) &&& x1) (hr_si M 295 x1.toNatClampNeg (M.1 295 x1.toNatClampNeg)) else none else none
      else
        hr_bd (f_X11_isSet x2 0 M) (fun v7 M7 =>
        if v7 = 0 then
          if inB x1 512 = true then 
          if inB x1 512 = true then 
          f_X11_fewestRooms_29 k9 f x1 ((x2 - 1) &&& x1) (hr_si M7 295 x1.toNatClampNeg (M7.1 295 x1.toNatClampNeg)) else none else none
        else
          if inB x1 512 = true then 
          f_X11_fewestRooms_29 k9 f x1 ((x2 - 1) &&& x1) (hr_si M7 295 x1.toNatClampNeg ((M.1 295 (x1 &&& (x2 ^^^ (-1))).toNatClampNeg) + 1)) else none)
      else none else none
theorem g_X11_fewestRooms_29   (k9 : Int32 → PM → Option (Int32 × PM)) (hk9 : ∀ (x1 : Int32) (M : PM) (r : Int32 × PM), k9 x1 M = some r → hr_G 246 9 [some (.ref 275), some (.int x1), none, none] [] M (some (.int r.1), r.2)) : ∀ (f : Nat) (x1 : Int32) (x2 : Int32) (M : PM) (r : Int32 × PM), f_X11_fewestRooms_29 k9 f x1 x2 M = some r → hr_G 246 29 [some (.ref 275), some (.int x1), some (.int x2), none] [] M (some (.int r.1), r.2) := by
  intro f
  induction f with
  | zero => intro x1 x2 M r h; cases h
  | succ f ih =>
    intro x1 x2 M r h
    rw [f_X11_fewestRooms_29.eq_2] at h
    refine hr_Grun mf_X11_fewestRooms lb_X11_fewestRooms_29 (P := True) (pc' := if x2 ≤ 0 then 90 else 33) (ls' := [some (.ref 275), some (.int x1), some (.int x2), none]) (st' := []) (M' := M) rfl rfl trivial ?_
    refine hr_Gif h (fun _ h => ?_) (fun _ h => ?_)
    · refine hr_Grun mf_X11_fewestRooms lb_X11_fewestRooms_90 (P := True) (pc' := 9) (ls' := [some (.ref 275), some (.int (x1 + 1)), some (.int x2), none]) (st' := []) (M' := M) rfl rfl trivial ?_
      refine hr_Gle (ls := [some (.ref 275), some (.int (x1 + 1)), none, none]) (hr_le_s (hr_le_s (hr_le_n (hr_le_n hr_le_0)))) ?_
      exact hk9 (x1 + 1) M _ h
    · refine hr_Fg h (fun hg3_0 h => ?_)
      refine hr_Fg h (fun hg3_1 h => ?_)
      refine hr_Grun mf_X11_fewestRooms lb_X11_fewestRooms_33 (P := hr_K 275 = 10 ∧ (hr_K 295 = 12 ∧ vp_in (x1 &&& (x2 ^^^ (-1))) (hr_N 295)) ∧ hr_K 275 = 10 ∧ hr_K 275 = 10 ∧ (hr_K 295 = 12 ∧ vp_in x1 (hr_N 295)) ∧ True) (pc' := if (M.1 295 x1.toNatClampNeg) ≤ ((M.1 295 (x1 &&& (x2 ^^^ (-1))).toNatClampNeg) + 1) then 74 else 61) (ls' := [some (.ref 275), some (.int x1), some (.int x2), some (.int ((M.1 295 (x1 &&& (x2 ^^^ (-1))).toNatClampNeg) + 1))]) (st' := [.int x1, .ref 295]) (M' := M) rfl rfl ⟨K_275, ⟨K_295, (inB_N N_295 hg3_0)⟩, K_275, K_275, ⟨K_295, (inB_N N_295 hg3_1)⟩, trivial⟩ ?_
      refine hr_Gif h (fun _ h => ?_) (fun _ h => ?_)
      · refine hr_Fg h (fun hg4_0 h => ?_)
        refine hr_Grun mf_X11_fewestRooms lb_X11_fewestRooms_74 (P := hr_K 275 = 10 ∧ (hr_K 295 = 12 ∧ vp_in x1 (hr_N 295)) ∧ True) (pc' := 80) (ls' := [some (.ref 275), some (.int x1), some (.int x2), some (.int ((M.1 295 (x1 &&& (x2 ^^^ (-1))).toNatClampNeg) + 1))]) (st' := [.int (M.1 295 x1.toNatClampNeg), .int x1, .ref 295]) (M' := M) rfl rfl ⟨K_275, ⟨K_295, (inB_N N_295 hg4_0)⟩, trivial⟩ ?_
        refine hr_Fg h (fun hg5_0 h => ?_)
        refine hr_Grun mf_X11_fewestRooms lb_X11_fewestRooms_80 (P := ((hr_K 295 = 12 ∧ 295 < hr_n) ∧ vp_in x1 (hr_N 295)) ∧ True) (pc' := 29) (ls' := [some (.ref 275), some (.int x1), some (.int ((x2 - 1) &&& x1)), some (.int ((M.1 295 (x1 &&& (x2 ^^^ (-1))).toNatClampNeg) + 1))]) (st' := []) (M' := hr_si M 295 x1.toNatClampNeg (M.1 295 x1.toNatClampNeg)) rfl rfl ⟨⟨⟨K_295, L_295⟩, (inB_N N_295 hg5_0)⟩, trivial⟩ ?_
        refine hr_Gle (ls := [some (.ref 275), some (.int x1), some (.int ((x2 - 1) &&& x1)), none]) (hr_le_s (hr_le_s (hr_le_s (hr_le_n hr_le_0)))) ?_
        exact ih x1 ((x2 - 1) &&& x1) (hr_si M 295 x1.toNatClampNeg (M.1 295 x1.toNatClampNeg)) _ h
      · refine hr_Grun mf_X11_fewestRooms lb_X11_fewestRooms_61 (P := True) (pc' := 64) (ls' := [some (.ref 275), some (.int x1), some (.int x2), some (.int ((M.1 295 (x1 &&& (x2 ^^^ (-1))).toNatClampNeg) + 1))]) (st' := [.int 0, .int x2, .ref 275, .int x1, .ref 295]) (M' := M) rfl rfl trivial ?_
        refine hr_Fb h (fun v7 M7 e7 h => ?_)
        refine hr_Gcv mf_X11_fewestRooms mf_X11_isSet lb_X11_fewestRooms_64 (b := 275) (as := [.int x2, .int 0]) (rest := [.int x1, .ref 295]) (st2 := [.int v7, .int x1, .ref 295]) (v := some (.int v7)) (M1 := M7) rfl rfl rfl rfl rfl rfl K_275 (g_X11_isSet x2 0 _ _ e7) rfl rfl ?_
        refine hr_Grun mf_X11_fewestRooms lb_X11_fewestRooms_67 (P := True) (pc' := if v7 = 0 then 74 else 70) (ls' := [some (.ref 275), some (.int x1), some (.int x2), some (.int ((M.1 295 (x1 &&& (x2 ^^^ (-1))).toNatClampNeg) + 1))]) (st' := [.int x1, .ref 295]) (M' := M7) rfl rfl trivial ?_
        refine hr_Gif h (fun _ h => ?_) (fun _ h => ?_)
        · refine hr_Fg h (fun hg9_0 h => ?_)
          refine hr_Grun mf_X11_fewestRooms lb_X11_fewestRooms_74 (P := hr_K 275 = 10 ∧ (hr_K 295 = 12 ∧ vp_in x1 (hr_N 295)) ∧ True) (pc' := 80) (ls' := [some (.ref 275), some (.int x1), some (.int x2), some (.int ((M.1 295 (x1 &&& (x2 ^^^ (-1))).toNatClampNeg) + 1))]) (st' := [.int (M7.1 295 x1.toNatClampNeg), .int x1, .ref 295]) (M' := M7) rfl rfl ⟨K_275, ⟨K_295, (inB_N N_295 hg9_0)⟩, trivial⟩ ?_
          refine hr_Fg h (fun hg10_0 h => ?_)
          refine hr_Grun mf_X11_fewestRooms lb_X11_fewestRooms_80 (P := ((hr_K 295 = 12 ∧ 295 < hr_n) ∧ vp_in x1 (hr_N 295)) ∧ True) (pc' := 29) (ls' := [some (.ref 275), some (.int x1), some (.int ((x2 - 1) &&& x1)), some (.int ((M.1 295 (x1 &&& (x2 ^^^ (-1))).toNatClampNeg) + 1))]) (st' := []) (M' := hr_si M7 295 x1.toNatClampNeg (M7.1 295 x1.toNatClampNeg)) rfl rfl ⟨⟨⟨K_295, L_295⟩, (inB_N N_295 hg10_0)⟩, trivial⟩ ?_
          refine hr_Gle (ls := [some (.ref 275), some (.int x1), some (.int ((x2 - 1) &&& x1)), none]) (hr_le_s (hr_le_s (hr_le_s (hr_le_n hr_le_0)))) ?_
          exact ih x1 ((x2 - 1) &&& x1) (hr_si M7 295 x1.toNatClampNeg (M7.1 295 x1.toNatClampNeg)) _ h
        · refine hr_Grun mf_X11_fewestRooms lb_X11_fewestRooms_70 (P := True) (pc' := 80) (ls' := [some (.ref 275), some (.int x1), some (.int x2), some (.int ((M.1 295 (x1 &&& (x2 ^^^ (-1))).toNatClampNeg) + 1))]) (st' := [.int ((M.1 295 (x1 &&& (x2 ^^^ (-1))).toNatClampNeg) + 1), .int x1, .ref 295]) (M' := M7) rfl rfl trivial ?_
          refine hr_Fg h (fun hg12_0 h => ?_)
          refine hr_Grun mf_X11_fewestRooms lb_X11_fewestRooms_80 (P := ((hr_K 295 = 12 ∧ 295 < hr_n) ∧ vp_in x1 (hr_N 295)) ∧ True) (pc' := 29) (ls' := [some (.ref 275), some (.int x1), some (.int ((x2 - 1) &&& x1)), some (.int ((M.1 295 (x1 &&& (x2 ^^^ (-1))).toNatClampNeg) + 1))]) (st' := []) (M' := hr_si M7 295 x1.toNatClampNeg ((M.1 295 (x1 &&& (x2 ^^^ (-1))).toNatClampNeg) + 1)) rfl rfl ⟨⟨⟨K_295, L_295⟩, (inB_N N_295 hg12_0)⟩, trivial⟩ ?_
          refine hr_Gle (ls := [some (.ref 275), some (.int x1), some (.int ((x2 - 1) &&& x1)), none]) (hr_le_s (hr_le_s (hr_le_s (hr_le_n hr_le_0)))) ?_
          exact ih x1 ((x2 - 1) &&& x1) (hr_si M7 295 x1.toNatClampNeg ((M.1 295 (x1 &&& (x2 ^^^ (-1))).toNatClampNeg) + 1)) _ h
def f_X11_fewestRooms_9  : Nat → Int32 → PM → Option (Int32 × PM)
  | 0, _, _ => none
  | f + 1, x1, M =>
    hr_bd (f_X11_pictures M) (fun v2 M2 =>
    if (jl 1 v2) ≤ x1 then
      hr_bd (f_X11_pictures M2) (fun v5 M5 =>
      if inB ((jl 1 v5) - 1) 512 = true then 
      some ((M5.1 295 ((jl 1 v5) - 1).toNatClampNeg), M5) else none)
    else
      if inB x1 512 = true then 
      f_X11_fewestRooms_29 (fun x1 M => f_X11_fewestRooms_9 f x1 M) FU x1 x1 (hr_si M2 295 x1.toNatClampNeg 9) else none)
theorem g_X11_fewestRooms_9   : ∀ (f : Nat) (x1 : Int32) (M : PM) (r : Int32 × PM), f_X11_fewestRooms_9 f x1 M = some r → hr_G 246 9 [some (.ref 275), some (.int x1), none, none] [] M (some (.int r.1), r.2) := by
  intro f
  induction f with
  | zero => intro x1 M r h; cases h
  | succ f ih =>
    intro x1 M r h
    rw [f_X11_fewestRooms_9.eq_2] at h
    refine hr_Grun mf_X11_fewestRooms lb_X11_fewestRooms_9 (P := True) (pc' := 12) (ls' := [some (.ref 275), some (.int x1), none, none]) (st' := [.ref 275, .int 1, .int x1]) (M' := M) rfl rfl trivial ?_
    refine hr_Fb h (fun v2 M2 e2 h => ?_)
    refine hr_Gcv mf_X11_fewestRooms mf_X11_pictures lb_X11_fewestRooms_12 (b := 275) (as := []) (rest := [.int 1, .int x1]) (st2 := [.int v2, .int 1, .int x1]) (v := some (.int v2)) (M1 := M2) rfl rfl rfl rfl rfl rfl K_275 (g_X11_pictures  _ _ e2) rfl rfl ?_
    refine hr_Grun mf_X11_fewestRooms lb_X11_fewestRooms_15 (P := True) (pc' := if (jl 1 v2) ≤ x1 then 96 else 19) (ls' := [some (.ref 275), some (.int x1), none, none]) (st' := []) (M' := M2) rfl rfl trivial ?_
    refine hr_Gif h (fun _ h => ?_) (fun _ h => ?_)
    · refine hr_Grun mf_X11_fewestRooms lb_X11_fewestRooms_96 (P := hr_K 275 = 10 ∧ True) (pc' := 102) (ls' := [some (.ref 275), some (.int x1), none, none]) (st' := [.ref 275, .int 1, .ref 295]) (M' := M2) rfl rfl ⟨K_275, trivial⟩ ?_
      refine hr_Fb h (fun v5 M5 e5 h => ?_)
      refine hr_Gcv mf_X11_fewestRooms mf_X11_pictures lb_X11_fewestRooms_102 (b := 275) (as := []) (rest := [.int 1, .ref 295]) (st2 := [.int v5, .int 1, .ref 295]) (v := some (.int v5)) (M1 := M5) rfl rfl rfl rfl rfl rfl K_275 (g_X11_pictures  _ _ e5) rfl rfl ?_
      refine hr_Fg h (fun hg6_0 h => ?_)
      refine hr_Grun mf_X11_fewestRooms lb_X11_fewestRooms_105 (P := (hr_K 295 = 12 ∧ vp_in ((jl 1 v5) - 1) (hr_N 295)) ∧ True) (pc' := 109) (ls' := [some (.ref 275), some (.int x1), none, none]) (st' := [.int (M5.1 295 ((jl 1 v5) - 1).toNatClampNeg)]) (M' := M5) rfl rfl ⟨⟨K_295, (inB_N N_295 hg6_0)⟩, trivial⟩ ?_
      cases h
      exact hr_Gret mf_X11_fewestRooms lb_X11_fewestRooms_109 rfl rfl trivial
    · refine hr_Fg h (fun hg7_0 h => ?_)
      refine hr_Grun mf_X11_fewestRooms lb_X11_fewestRooms_19 (P := hr_K 275 = 10 ∧ ((hr_K 295 = 12 ∧ 295 < hr_n) ∧ vp_in x1 (hr_N 295)) ∧ True) (pc' := 29) (ls' := [some (.ref 275), some (.int x1), some (.int x1), none]) (st' := []) (M' := hr_si M2 295 x1.toNatClampNeg 9) rfl rfl ⟨K_275, ⟨⟨K_295, L_295⟩, (inB_N N_295 hg7_0)⟩, trivial⟩ ?_
      exact g_X11_fewestRooms_29 (fun x1 M => f_X11_fewestRooms_9 f x1 M) (fun x1 M r h => ih x1 M r h) FU x1 x1 (hr_si M2 295 x1.toNatClampNeg 9) _ h
def f_X11_fewestRooms (M : PM) : Option (Int32 × PM) :=
  if inB 0 512 = true then 
  f_X11_fewestRooms_9 FU 1 (hr_si M 295 (0 : Int32).toNatClampNeg 0) else none
theorem g_X11_fewestRooms  : ∀ (M : PM) (r : Int32 × PM), f_X11_fewestRooms M = some r → hr_G 246 0 [some (.ref 275), none, none, none] [] M (some (.int r.1), r.2) := by
  intro M r h
  unfold f_X11_fewestRooms at h
  refine hr_Fg h (fun hg1_0 h => ?_)
  refine hr_Grun mf_X11_fewestRooms lb_X11_fewestRooms_0 (P := hr_K 275 = 10 ∧ ((hr_K 295 = 12 ∧ 295 < hr_n) ∧ vp_in 0 (hr_N 295)) ∧ True) (pc' := 9) (ls' := [some (.ref 275), some (.int 1), none, none]) (st' := []) (M' := hr_si M 295 (0 : Int32).toNatClampNeg 0) rfl rfl ⟨K_275, ⟨⟨K_295, L_295⟩, (inB_N N_295 hg1_0)⟩, trivial⟩ ?_
  exact g_X11_fewestRooms_9 FU 1 (hr_si M 295 (0 : Int32).toNatClampNeg 0) _ h
theorem mf_X11_worst : hr_mf 247 11 2 (some .int) 3 0 bk_X11_worst := ⟨rfl, rfl, rfl, rfl, rfl, rfl⟩
theorem lb_X11_worst_0 : bk_X11_worst.lookup 0 = some [(.iconst (-1), 1), (.istore_n 1, 1), (.iconst 0, 1), (.istore_n 2, 1)] := rfl
theorem lb_X11_worst_4 : bk_X11_worst.lookup 4 = some [(.iload_n 2, 1), (.aload_n 0, 1)] := rfl
theorem lb_X11_worst_6 : bk_X11_worst.lookup 6 = some [(.invokevirtual 347, 3)] := rfl
theorem lb_X11_worst_9 : bk_X11_worst.lookup 9 = some [(.if_icmp .ge 33, 3)] := rfl
theorem lb_X11_worst_12 : bk_X11_worst.lookup 12 = some [(.iload_n 1, 1), (.iconst (-1), 1), (.if_icmp .eq 16, 3)] := rfl
theorem lb_X11_worst_17 : bk_X11_worst.lookup 17 = some [(.aload_n 0, 1), (.iload_n 2, 1)] := rfl
theorem lb_X11_worst_19 : bk_X11_worst.lookup 19 = some [(.invokevirtual 417, 3)] := rfl
theorem lb_X11_worst_22 : bk_X11_worst.lookup 22 = some [(.aload_n 0, 1), (.iload_n 1, 1)] := rfl
theorem lb_X11_worst_24 : bk_X11_worst.lookup 24 = some [(.invokevirtual 417, 3)] := rfl
theorem lb_X11_worst_27 : bk_X11_worst.lookup 27 = some [(.if_icmp .le 7, 3)] := rfl
theorem lb_X11_worst_30 : bk_X11_worst.lookup 30 = some [(.iload_n 2, 1), (.goto 4, 3)] := rfl
theorem lb_X11_worst_34 : bk_X11_worst.lookup 34 = some [(.iload_n 1, 1)] := rfl
theorem lb_X11_worst_35 : bk_X11_worst.lookup 35 = some [(.istore_n 1, 1), (.iinc 2 1, 3), (.goto (-35), 3)] := rfl
theorem lb_X11_worst_42 : bk_X11_worst.lookup 42 = some [(.iload_n 1, 1)] := rfl
theorem lb_X11_worst_43 : bk_X11_worst.lookup 43 = some [(.ireturn, 1)] := rfl
def f_X11_worst_4  : Nat → Int32 → Int32 → PM → Option (Int32 × PM)
  | 0, _, _, _ => none
  | f + 1, x1, x2, M =>
    hr_bd (f_X11_pictures M) (fun v2 M2 =>
    if v2 ≤ x2 then
      some (x1, M2)
    else
      if x1 = (-1) then
        f_X11_worst_4 f x2 (x2 + 1) M2
      else
        hr_bd (f_X11_strengthsOf x2 M2) (fun v9 M9 =>
        hr_bd (f_X11_strengthsOf x1 M9) (fun v11 M11 =>
        if v9 ≤ v11 then
          f_X11_worst_4 f x1 (x2 + 1) M11
        else
          f_X11_worst_4 f x2 (x2 + 1) M11)))
theorem g_X11_worst_4   : ∀ (f : Nat) (x1 : Int32) (x2 : Int32) (M : PM) (r : Int32 × PM), f_X11_worst_4 f x1 x2 M = some r → hr_G 247 4 [some (.ref 275), some (.int x1), some (.int x2)] [] M (some (.int r.1), r.2) := by
  intro f
  induction f with
  | zero => intro x1 x2 M r h; cases h
  | succ f ih =>
    intro x1 x2 M r h
    rw [f_X11_worst_4.eq_2] at h
    refine hr_Grun mf_X11_worst lb_X11_worst_4 (P := True) (pc' := 6) (ls' := [some (.ref 275), some (.int x1), some (.int x2)]) (st' := [.ref 275, .int x2]) (M' := M) rfl rfl trivial ?_
    refine hr_Fb h (fun v2 M2 e2 h => ?_)
    refine hr_Gcv mf_X11_worst mf_X11_pictures lb_X11_worst_6 (b := 275) (as := []) (rest := [.int x2]) (st2 := [.int v2, .int x2]) (v := some (.int v2)) (M1 := M2) rfl rfl rfl rfl rfl rfl K_275 (g_X11_pictures  _ _ e2) rfl rfl ?_
    refine hr_Grun mf_X11_worst lb_X11_worst_9 (P := True) (pc' := if v2 ≤ x2 then 42 else 12) (ls' := [some (.ref 275), some (.int x1), some (.int x2)]) (st' := []) (M' := M2) rfl rfl trivial ?_
    refine hr_Gif h (fun _ h => ?_) (fun _ h => ?_)
    · refine hr_Grun mf_X11_worst lb_X11_worst_42 (P := True) (pc' := 43) (ls' := [some (.ref 275), some (.int x1), some (.int x2)]) (st' := [.int x1]) (M' := M2) rfl rfl trivial ?_
      cases h
      exact hr_Gret mf_X11_worst lb_X11_worst_43 rfl rfl trivial
    · refine hr_Grun mf_X11_worst lb_X11_worst_12 (P := True) (pc' := if x1 = (-1) then 30 else 17) (ls' := [some (.ref 275), some (.int x1), some (.int x2)]) (st' := []) (M' := M2) rfl rfl trivial ?_
      refine hr_Gif h (fun _ h => ?_) (fun _ h => ?_)
      · refine hr_Grun mf_X11_worst lb_X11_worst_30 (P := True) (pc' := 35) (ls' := [some (.ref 275), some (.int x1), some (.int x2)]) (st' := [.int x2]) (M' := M2) rfl rfl trivial ?_
        refine hr_Grun mf_X11_worst lb_X11_worst_35 (P := True) (pc' := 4) (ls' := [some (.ref 275), some (.int x2), some (.int (x2 + 1))]) (st' := []) (M' := M2) rfl rfl trivial ?_
        exact ih x2 (x2 + 1) M2 _ h
      · refine hr_Grun mf_X11_worst lb_X11_worst_17 (P := True) (pc' := 19) (ls' := [some (.ref 275), some (.int x1), some (.int x2)]) (st' := [.int x2, .ref 275]) (M' := M2) rfl rfl trivial ?_
        refine hr_Fb h (fun v9 M9 e9 h => ?_)
        refine hr_Gcv mf_X11_worst mf_X11_strengthsOf lb_X11_worst_19 (b := 275) (as := [.int x2]) (rest := []) (st2 := [.int v9]) (v := some (.int v9)) (M1 := M9) rfl rfl rfl rfl rfl rfl K_275 (g_X11_strengthsOf x2 _ _ e9) rfl rfl ?_
        refine hr_Grun mf_X11_worst lb_X11_worst_22 (P := True) (pc' := 24) (ls' := [some (.ref 275), some (.int x1), some (.int x2)]) (st' := [.int x1, .ref 275, .int v9]) (M' := M9) rfl rfl trivial ?_
        refine hr_Fb h (fun v11 M11 e11 h => ?_)
        refine hr_Gcv mf_X11_worst mf_X11_strengthsOf lb_X11_worst_24 (b := 275) (as := [.int x1]) (rest := [.int v9]) (st2 := [.int v11, .int v9]) (v := some (.int v11)) (M1 := M11) rfl rfl rfl rfl rfl rfl K_275 (g_X11_strengthsOf x1 _ _ e11) rfl rfl ?_
        refine hr_Grun mf_X11_worst lb_X11_worst_27 (P := True) (pc' := if v9 ≤ v11 then 34 else 30) (ls' := [some (.ref 275), some (.int x1), some (.int x2)]) (st' := []) (M' := M11) rfl rfl trivial ?_
        refine hr_Gif h (fun _ h => ?_) (fun _ h => ?_)
        · refine hr_Grun mf_X11_worst lb_X11_worst_34 (P := True) (pc' := 35) (ls' := [some (.ref 275), some (.int x1), some (.int x2)]) (st' := [.int x1]) (M' := M11) rfl rfl trivial ?_
          refine hr_Grun mf_X11_worst lb_X11_worst_35 (P := True) (pc' := 4) (ls' := [some (.ref 275), some (.int x1), some (.int (x2 + 1))]) (st' := []) (M' := M11) rfl rfl trivial ?_
          exact ih x1 (x2 + 1) M11 _ h
        · refine hr_Grun mf_X11_worst lb_X11_worst_30 (P := True) (pc' := 35) (ls' := [some (.ref 275), some (.int x1), some (.int x2)]) (st' := [.int x2]) (M' := M11) rfl rfl trivial ?_
          refine hr_Grun mf_X11_worst lb_X11_worst_35 (P := True) (pc' := 4) (ls' := [some (.ref 275), some (.int x2), some (.int (x2 + 1))]) (st' := []) (M' := M11) rfl rfl trivial ?_
          exact ih x2 (x2 + 1) M11 _ h
def f_X11_worst (M : PM) : Option (Int32 × PM) :=
  f_X11_worst_4 FU (-1) 0 M
theorem g_X11_worst  : ∀ (M : PM) (r : Int32 × PM), f_X11_worst M = some r → hr_G 247 0 [some (.ref 275), none, none] [] M (some (.int r.1), r.2) := by
  intro M r h
  unfold f_X11_worst at h
  refine hr_Grun mf_X11_worst lb_X11_worst_0 (P := True) (pc' := 4) (ls' := [some (.ref 275), some (.int (-1)), some (.int 0)]) (st' := []) (M' := M) rfl rfl trivial ?_
  exact g_X11_worst_4 FU (-1) 0 M _ h
theorem mf_X11_hung : hr_mf 248 11 5 (some .int) 6 3 bk_X11_hung := ⟨rfl, rfl, rfl, rfl, rfl, rfl⟩
theorem lb_X11_hung_0 : bk_X11_hung.lookup 0 = some [(.aload_n 0, 1), (.iconst 0, 1), (.putfield 100, 3), (.aload_n 0, 1), (.iload_n 1, 1), (.iload_n 2, 1)] := rfl
theorem lb_X11_hung_8 : bk_X11_hung.lookup 8 = some [(.invokevirtual 401, 3)] := rfl
theorem lb_X11_hung_11 : bk_X11_hung.lookup 11 = some [(.ifCond .ne 6, 3)] := rfl
theorem lb_X11_hung_14 : bk_X11_hung.lookup 14 = some [(.bipush (-2), 2)] := rfl
theorem lb_X11_hung_16 : bk_X11_hung.lookup 16 = some [(.ireturn, 1)] := rfl
theorem lb_X11_hung_17 : bk_X11_hung.lookup 17 = some [(.iload_n 3, 1), (.tableswitch 91 0 4 #[34, 39, 44, 49, 54], 34)] := rfl
theorem lb_X11_hung_52 : bk_X11_hung.lookup 52 = some [(.aload_n 0, 1)] := rfl
theorem lb_X11_hung_53 : bk_X11_hung.lookup 53 = some [(.invokevirtual 420, 3)] := rfl
theorem lb_X11_hung_56 : bk_X11_hung.lookup 56 = some [(.ireturn, 1)] := rfl
theorem lb_X11_hung_57 : bk_X11_hung.lookup 57 = some [(.aload_n 0, 1)] := rfl
theorem lb_X11_hung_58 : bk_X11_hung.lookup 58 = some [(.invokevirtual 423, 3)] := rfl
theorem lb_X11_hung_61 : bk_X11_hung.lookup 61 = some [(.ireturn, 1)] := rfl
theorem lb_X11_hung_62 : bk_X11_hung.lookup 62 = some [(.aload_n 0, 1)] := rfl
theorem lb_X11_hung_63 : bk_X11_hung.lookup 63 = some [(.invokevirtual 426, 3)] := rfl
theorem lb_X11_hung_66 : bk_X11_hung.lookup 66 = some [(.ireturn, 1)] := rfl
theorem lb_X11_hung_67 : bk_X11_hung.lookup 67 = some [(.aload_n 0, 1)] := rfl
theorem lb_X11_hung_68 : bk_X11_hung.lookup 68 = some [(.invokevirtual 429, 3)] := rfl
theorem lb_X11_hung_71 : bk_X11_hung.lookup 71 = some [(.ireturn, 1)] := rfl
theorem lb_X11_hung_72 : bk_X11_hung.lookup 72 = some [(.iconst 0, 1), (.istore 4, 2), (.iconst 0, 1), (.istore 5, 2)] := rfl
theorem lb_X11_hung_78 : bk_X11_hung.lookup 78 = some [(.iload 5, 2), (.aload_n 0, 1)] := rfl
theorem lb_X11_hung_81 : bk_X11_hung.lookup 81 = some [(.invokevirtual 347, 3)] := rfl
theorem lb_X11_hung_84 : bk_X11_hung.lookup 84 = some [(.if_icmp .ge 20, 3)] := rfl
theorem lb_X11_hung_87 : bk_X11_hung.lookup 87 = some [(.iload 4, 2), (.aload_n 0, 1), (.iload 5, 2)] := rfl
theorem lb_X11_hung_92 : bk_X11_hung.lookup 92 = some [(.invokevirtual 417, 3)] := rfl
theorem lb_X11_hung_95 : bk_X11_hung.lookup 95 = some [(.iadd, 1), (.istore 4, 2), (.iinc 5 1, 3), (.goto (-23), 3)] := rfl
theorem lb_X11_hung_104 : bk_X11_hung.lookup 104 = some [(.iload 4, 2), (.iconst 2, 1), (.idiv, 1)] := rfl
theorem lb_X11_hung_108 : bk_X11_hung.lookup 108 = some [(.ireturn, 1)] := rfl
theorem lb_X11_hung_109 : bk_X11_hung.lookup 109 = some [(.bipush (-2), 2)] := rfl
theorem lb_X11_hung_111 : bk_X11_hung.lookup 111 = some [(.ireturn, 1)] := rfl
def f_X11_hung_78 (a1 : Int32) (a2 : Int32) (a3 : Int32) : Nat → Int32 → Int32 → PM → Option (Int32 × PM)
  | 0, _, _, _ => none
  | f + 1, x4, x5, M =>
    hr_bd (f_X11_pictures M) (fun v2 M2 =>
    if v2 ≤ x5 then
      some ((x4 / 2), M2)
    else
      hr_bd (f_X11_strengthsOf x5 M2) (fun v6 M6 =>
      f_X11_hung_78 a1 a2 a3 f (x4 + v6) (x5 + 1) M6))
theorem g_X11_hung_78 (a1 : Int32) (a2 : Int32) (a3 : Int32)  : ∀ (f : Nat) (x4 : Int32) (x5 : Int32) (M : PM) (r : Int32 × PM), f_X11_hung_78 a1 a2 a3 f x4 x5 M = some r → hr_G 248 78 [some (.ref 275), none, none, none, some (.int x4), some (.int x5)] [] M (some (.int r.1), r.2) := by
  intro f
  induction f with
  | zero => intro x4 x5 M r h; cases h
  | succ f ih =>
    intro x4 x5 M r h
    rw [f_X11_hung_78.eq_2] at h
    refine hr_Grun mf_X11_hung lb_X11_hung_78 (P := True) (pc' := 81) (ls' := [some (.ref 275), none, none, none, some (.int x4), some (.int x5)]) (st' := [.ref 275, .int x5]) (M' := M) rfl rfl trivial ?_
    refine hr_Fb h (fun v2 M2 e2 h => ?_)
    refine hr_Gcv mf_X11_hung mf_X11_pictures lb_X11_hung_81 (b := 275) (as := []) (rest := [.int x5]) (st2 := [.int v2, .int x5]) (v := some (.int v2)) (M1 := M2) rfl rfl rfl rfl rfl rfl K_275 (g_X11_pictures  _ _ e2) rfl rfl ?_
    refine hr_Grun mf_X11_hung lb_X11_hung_84 (P := True) (pc' := if v2 ≤ x5 then 104 else 87) (ls' := [some (.ref 275), none, none, none, some (.int x4), some (.int x5)]) (st' := []) (M' := M2) rfl rfl trivial ?_
    refine hr_Gif h (fun _ h => ?_) (fun _ h => ?_)
    · refine hr_Grun mf_X11_hung lb_X11_hung_104 (P := ¬ (2 : Int32) = 0 ∧ True) (pc' := 108) (ls' := [some (.ref 275), none, none, none, some (.int x4), some (.int x5)]) (st' := [.int (x4 / 2)]) (M' := M2) rfl rfl ⟨(by decide), trivial⟩ ?_
      cases h
      exact hr_Gret mf_X11_hung lb_X11_hung_108 rfl rfl trivial
    · refine hr_Grun mf_X11_hung lb_X11_hung_87 (P := True) (pc' := 92) (ls' := [some (.ref 275), none, none, none, some (.int x4), some (.int x5)]) (st' := [.int x5, .ref 275, .int x4]) (M' := M2) rfl rfl trivial ?_
      refine hr_Fb h (fun v6 M6 e6 h => ?_)
      refine hr_Gcv mf_X11_hung mf_X11_strengthsOf lb_X11_hung_92 (b := 275) (as := [.int x5]) (rest := [.int x4]) (st2 := [.int v6, .int x4]) (v := some (.int v6)) (M1 := M6) rfl rfl rfl rfl rfl rfl K_275 (g_X11_strengthsOf x5 _ _ e6) rfl rfl ?_
      refine hr_Grun mf_X11_hung lb_X11_hung_95 (P := True) (pc' := 78) (ls' := [some (.ref 275), none, none, none, some (.int (x4 + v6)), some (.int (x5 + 1))]) (st' := []) (M' := M6) rfl rfl trivial ?_
      exact ih (x4 + v6) (x5 + 1) M6 _ h
def f_X11_hung (a1 : Int32) (a2 : Int32) (a3 : Int32) (M : PM) : Option (Int32 × PM) :=
  hr_bd (f_X11_layGallery a1 a2 (hr_si M 275 0 0)) (fun v2 M2 =>
  if v2 = 0 then
    some ((-2), M2)
  else
    if a3 = 0 then
      hr_bd (f_X11_fewestRooms M2) (fun v7 M7 =>
      some (v7, M7))
    else if a3 = 1 then
      hr_bd (f_X11_greatestSet M2) (fun v9 M9 =>
      some (v9, M9))
    else if a3 = 2 then
      hr_bd (f_X11_curtains M2) (fun v11 M11 =>
      some (v11, M11))
    else if a3 = 3 then
      hr_bd (f_X11_worst M2) (fun v13 M13 =>
      some (v13, M13))
    else if a3 = 4 then
      f_X11_hung_78 a1 a2 a3 FU 0 0 M2
    else 
      some ((-2), M2))
theorem g_X11_hung (a1 : Int32) (a2 : Int32) (a3 : Int32) : ∀ (M : PM) (r : Int32 × PM), f_X11_hung a1 a2 a3 M = some r → hr_G 248 0 [some (.ref 275), some (.int a1), some (.int a2), some (.int a3), none, none] [] M (some (.int r.1), r.2) := by
  intro M r h
  unfold f_X11_hung at h
  refine hr_Grun mf_X11_hung lb_X11_hung_0 (P := (hr_K 275 = 10 ∧ 275 < hr_n) ∧ True) (pc' := 8) (ls' := [some (.ref 275), some (.int a1), some (.int a2), some (.int a3), none, none]) (st' := [.int a2, .int a1, .ref 275]) (M' := hr_si M 275 0 0) rfl rfl ⟨⟨K_275, L_275⟩, trivial⟩ ?_
  refine hr_Fb h (fun v2 M2 e2 h => ?_)
  refine hr_Gcv mf_X11_hung mf_X11_layGallery lb_X11_hung_8 (b := 275) (as := [.int a1, .int a2]) (rest := []) (st2 := [.int v2]) (v := some (.int v2)) (M1 := M2) rfl rfl rfl rfl rfl rfl K_275 (g_X11_layGallery a1 a2 _ _ e2) rfl rfl ?_
  refine hr_Grun mf_X11_hung lb_X11_hung_11 (P := True) (pc' := if v2 = 0 then 14 else 17) (ls' := [some (.ref 275), some (.int a1), some (.int a2), some (.int a3), none, none]) (st' := []) (M' := M2) rfl rfl trivial ?_
  refine hr_Gif h (fun _ h => ?_) (fun _ h => ?_)
  · refine hr_Grun mf_X11_hung lb_X11_hung_14 (P := True) (pc' := 16) (ls' := [some (.ref 275), some (.int a1), some (.int a2), some (.int a3), none, none]) (st' := [.int (-2)]) (M' := M2) rfl rfl trivial ?_
    cases h
    exact hr_Gret mf_X11_hung lb_X11_hung_16 rfl rfl trivial
  · refine hr_Grun mf_X11_hung lb_X11_hung_17 (P := True) (pc' := if a3 = 0 then 52 else if a3 = 1 then 57 else if a3 = 2 then 62 else if a3 = 3 then 67 else if a3 = 4 then 72 else 109) (ls' := [some (.ref 275), some (.int a1), some (.int a2), some (.int a3), none, none]) (st' := []) (M' := M2) rfl rfl trivial ?_
    refine hr_Gif h (fun _ h => ?_) (fun _ h => ?_)
    · refine hr_Grun mf_X11_hung lb_X11_hung_52 (P := True) (pc' := 53) (ls' := [some (.ref 275), some (.int a1), some (.int a2), some (.int a3), none, none]) (st' := [.ref 275]) (M' := M2) rfl rfl trivial ?_
      refine hr_Fb h (fun v7 M7 e7 h => ?_)
      refine hr_Gcv mf_X11_hung mf_X11_fewestRooms lb_X11_hung_53 (b := 275) (as := []) (rest := []) (st2 := [.int v7]) (v := some (.int v7)) (M1 := M7) rfl rfl rfl rfl rfl rfl K_275 (g_X11_fewestRooms  _ _ e7) rfl rfl ?_
      cases h
      exact hr_Gret mf_X11_hung lb_X11_hung_56 rfl rfl trivial
    refine hr_Gif h (fun _ h => ?_) (fun _ h => ?_)
    · refine hr_Grun mf_X11_hung lb_X11_hung_57 (P := True) (pc' := 58) (ls' := [some (.ref 275), some (.int a1), some (.int a2), some (.int a3), none, none]) (st' := [.ref 275]) (M' := M2) rfl rfl trivial ?_
      refine hr_Fb h (fun v9 M9 e9 h => ?_)
      refine hr_Gcv mf_X11_hung mf_X11_greatestSet lb_X11_hung_58 (b := 275) (as := []) (rest := []) (st2 := [.int v9]) (v := some (.int v9)) (M1 := M9) rfl rfl rfl rfl rfl rfl K_275 (g_X11_greatestSet  _ _ e9) rfl rfl ?_
      cases h
      exact hr_Gret mf_X11_hung lb_X11_hung_61 rfl rfl trivial
    refine hr_Gif h (fun _ h => ?_) (fun _ h => ?_)
    · refine hr_Grun mf_X11_hung lb_X11_hung_62 (P := True) (pc' := 63) (ls' := [some (.ref 275), some (.int a1), some (.int a2), some (.int a3), none, none]) (st' := [.ref 275]) (M' := M2) rfl rfl trivial ?_
      refine hr_Fb h (fun v11 M11 e11 h => ?_)
      refine hr_Gcv mf_X11_hung mf_X11_curtains lb_X11_hung_63 (b := 275) (as := []) (rest := []) (st2 := [.int v11]) (v := some (.int v11)) (M1 := M11) rfl rfl rfl rfl rfl rfl K_275 (g_X11_curtains  _ _ e11) rfl rfl ?_
      cases h
      exact hr_Gret mf_X11_hung lb_X11_hung_66 rfl rfl trivial
    refine hr_Gif h (fun _ h => ?_) (fun _ h => ?_)
    · refine hr_Grun mf_X11_hung lb_X11_hung_67 (P := True) (pc' := 68) (ls' := [some (.ref 275), some (.int a1), some (.int a2), some (.int a3), none, none]) (st' := [.ref 275]) (M' := M2) rfl rfl trivial ?_
      refine hr_Fb h (fun v13 M13 e13 h => ?_)
      refine hr_Gcv mf_X11_hung mf_X11_worst lb_X11_hung_68 (b := 275) (as := []) (rest := []) (st2 := [.int v13]) (v := some (.int v13)) (M1 := M13) rfl rfl rfl rfl rfl rfl K_275 (g_X11_worst  _ _ e13) rfl rfl ?_
      cases h
      exact hr_Gret mf_X11_hung lb_X11_hung_71 rfl rfl trivial
    refine hr_Gif h (fun _ h => ?_) (fun _ h => ?_)
    · refine hr_Grun mf_X11_hung lb_X11_hung_72 (P := True) (pc' := 78) (ls' := [some (.ref 275), some (.int a1), some (.int a2), some (.int a3), some (.int 0), some (.int 0)]) (st' := []) (M' := M2) rfl rfl trivial ?_
      refine hr_Gle (ls := [some (.ref 275), none, none, none, some (.int 0), some (.int 0)]) (hr_le_s (hr_le_n (hr_le_n (hr_le_n (hr_le_s (hr_le_s hr_le_0)))))) ?_
      exact g_X11_hung_78 a1 a2 a3 FU 0 0 M2 _ h
    · refine hr_Grun mf_X11_hung lb_X11_hung_109 (P := True) (pc' := 111) (ls' := [some (.ref 275), some (.int a1), some (.int a2), some (.int a3), none, none]) (st' := [.int (-2)]) (M' := M2) rfl rfl trivial ?_
      cases h
      exact hr_Gret mf_X11_hung lb_X11_hung_111 rfl rfl trivial
