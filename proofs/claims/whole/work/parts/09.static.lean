/-! the static cells -/
theorem hr_Zst_mv {G : PG} {u U : State} (hvm : u.vm.Alike U.vm) (hq : ∀ q : Nat, q < u.heap.size → ¬ G.2.2.1 ≤ q → U.heap[q]? = u.heap[q]?) (h : hr_Zst G u) : hr_Zst G U := by
  obtain ⟨⟨a1, a2⟩, ⟨b1, b2⟩, c1, ⟨adV, d1⟩, e1, f1⟩ := h
  exact ⟨⟨(a1.moved hvm).kept hq, (a2.moved hvm).kept hq⟩, ⟨(b1.moved hvm).kept hq, (b2.moved hvm).kept hq⟩, fun k hk => ⟨((c1 k hk).1.moved hvm).kept hq, fun s hs => (((c1 k hk).2 s hs).moved hvm).kept hq⟩, ⟨adV, (d1.moved hvm).kept hq⟩, (e1.moved hvm).kept hq, (f1.moved hvm).kept hq⟩
theorem hr_Z_warm {G : PG} {s U : State} (hW : s.WarmedH U.vm) (hq : ∀ q : Nat, q < s.heap.size → ¬ G.2.2.1 ≤ q → U.heap[q]? = s.heap[q]?) (h : hr_Z G s) : hr_Z G U :=
  ⟨fun q hq => va_Nw.warmM hW (h.1 q hq), fun q hq => va_Nw.warmF hW (h.2.1 q hq), hr_Zst_mv hW.alike hq h.2.2⟩
theorem hr_Z_calling {G : PG} {U : State} {g : JFrame} {mk : MethodId} {a : Array Value} (h : hr_Z G U) : hr_Z G (U.calling g mk a) :=
  ⟨fun q hq => va_Nw.same rfl (u := U) rfl (h.1 q hq), fun q hq => va_Nw.same rfl (u := U) rfl (h.2.1 q hq), hr_Zst_mv (u := U) (U := U.calling g mk a) (Vm.Alike.refl U.vm) (fun _ _ _ => rfl) h.2.2⟩
def hr_flq19 (o : Nat) (q : Nat × Nat × Nat × Nat) : Bool :=
  decide (q.2.1 ≠ 19) || (decide (tables_1[q.2.2.2]? = some (.fieldLink (hr_cn o) q.1 "HueRash$Line" (hr_lfN q.2.2.1).1 (hr_lfN q.2.2.1).2)) && goodWord (.fieldLink (hr_cn o) q.1 "HueRash$Line" (hr_lfN q.2.2.1).1 (hr_lfN q.2.2.1).2) && decide (q.2.2.1 < 7))
theorem hr_fl19chk : (List.range 14).all (fun o => (hr_flT.getD o []).all (hr_flq19 o)) = true := by decide +kernel
theorem hr_fl_19 {o i s w : Nat} (h : hr_fl o i = some (19, s, w)) : s < 7 ∧ Jvm.Cond.fieldLink (hr_cn o) i "HueRash$Line" (hr_lfN s).1 (hr_lfN s).2 ∈ hr_GT := by
  have hm := hr_lookup h
  have ho : o < 14 := by
    rcases Nat.lt_or_ge o 14 with q | q
    · exact q
    · rw [List.getD_eq_getElem?_getD, List.getElem?_eq_none (show hr_flT.length ≤ o from q)] at hm
      cases hm
  have h1 := List.all_eq_true.mp (List.all_eq_true.mp hr_fl19chk o (List.mem_range.mpr ho)) _ hm
  simp only [hr_flq19, Bool.or_eq_true, Bool.and_eq_true, decide_eq_true_eq] at h1
  rcases h1 with h1 | ⟨⟨h2, h3⟩, h4⟩
  · exact absurd rfl h1
  · exact ⟨h4, hr_GT_1 h2 h3⟩
theorem hr_K_lt343 {a k : Nat} (h : hr_K a = k) (hk : k ≠ 99) : a < 343 := by
  rcases Nat.lt_or_ge a 343 with q | q
  · exact q
  · exact absurd ((hr_K_out q).symm.trans h).symm hk
theorem hr_K_st : ∀ a, a < 343 → ¬ a < 305 → 11 ≤ hr_K a → hr_K a ≤ 18 → a = 305 ∨ a = 306 := by decide +kernel
theorem hr_rad_ge (G : PG) {a : Nat} (h : ¬ a < hr_n) : hr_rad G a = G.2.2.2 a := if_neg h
section HRZ
variable {p : Program} {l : Launch} {e : Env} {R : Room} {s : State} {mi : MethodId} {args : Array Value} {below : List Frame} {meth : Method} {c : Code} {G : PG} {cc : ByteArray} {nL : Nat} {Q : State → Prop} {o d : Nat} {pc : Nat} {ls : PL} {st : List Value} {M : PM}
theorem hr_z_get (A : hr_A p s mi args c cc nL o G) {idx : Nat} (hd : decode cc pc = .ok (.getfield idx, 3)) (a k s' w : Nat) (r : List Value) (hf : hr_fl o idx = some (k, s', w)) (h19 : k = 19) (hk : hr_K a = k) (kk : hr_PW p l e R s mi args below meth c G nL Q (pc + 3) ls (hr_fv M a k s' :: r) M) : hr_PW p l e R s mi args below meth c G nL Q pc ls (.ref a :: r) M := by
  subst h19
  have ha := (hr_K_all a (hr_K_lt343 hk (by decide))).2.2.2.1 hk
  obtain ⟨j, rfl⟩ : ∃ j, a = 307 + j := ⟨a - 307, by omega⟩
  have hj : j < 18 := by omega
  obtain ⟨hs, hl⟩ := hr_fl_19 hf
  intro H locs la hP hS hL
  have hn : ¬ 307 + j < hr_n := by have : hr_n = 305 := rfl; omega
  show W p l e R s mi args below meth c H locs 0 0 Q (F0 mi pc la (.ref (hr_rad G (307 + j)) :: r.map (hr_rv G)))
  rw [hr_rad_ge G hn]
  have hv : hr_rv G (hr_fv M (307 + j) 19 s') = hr_lV G j s' := by
    have hm : M.1 (307 + j) = hr_s0 (307 + j) := hP.2 _ (by omega)
    have h18 : hr_rad G (307 + j + 18) = G.2.2.2 (325 + j) := by
      rw [hr_rad_ge G (by omega), show 307 + j + 18 = 325 + j by omega]
    match s', hs with
    | 0, _ => show Value.int (M.1 (307 + j) 0) = _; rw [hm]; rfl
    | 1, _ => show Value.ref (hr_rad G (307 + j + 18)) = _; rw [h18]; rfl
    | 2, _ => show Value.int (M.1 (307 + j) 2) = _; rw [hm]; rfl
    | 3, _ => show Value.int (M.1 (307 + j) 3) = _; rw [hm]; rfl
    | 4, _ => show Value.int (M.1 (307 + j) 4) = _; rw [hm]; rfl
    | 5, _ => show Value.int (M.1 (307 + j) 5) = _; rw [hm]; rfl
    | 6, _ => show Value.int (M.1 (307 + j) 6) = _; rw [hm]; rfl
  have h := kk H locs la hP hS hL
  rw [List.map_cons, hv] at h
  exact vk_getf A.1 A.2.1 ((A.2.2.2.2.2.2.2.2.2.2.1 j hj).2 s' hs) hS A.2.2.2.2.1 (A.2.2.2.1 _ hl) (fun x h => h) hd h
theorem hr_z_gets1 (A : hr_A p s mi args c cc nL o G) (hd : decode cc pc = .ok (.getstatic 137, 3)) (ho : o = 5) (kk : hr_PW p l e R s mi args below meth c G nL Q (pc + 3) ls (.ref 305 :: st) M) : hr_PW p l e R s mi args below meth c G nL Q pc ls st M := by
  subst ho
  intro H locs la hP hS hL
  have h := kk H locs la hP hS hL
  have hw := A.2.2.2.2.2.2.2.1 (RX5, 137, "ROLL_LIMITS", "[I") (by simp [hr_NF])
  exact va_getsN (host := "HueRash") (ref := "HueRash") A.1 A.2.1 A.2.2.2.2.2.2.2.2.1.1 hS A.2.2.2.2.1 (va_Nw.use rfl hw) (fun x h => h) hd h
theorem hr_z_gets2 (A : hr_A p s mi args c cc nL o G) (hd : decode cc pc = .ok (.getstatic 172, 3)) (ho : o = 5) (kk : hr_PW p l e R s mi args below meth c G nL Q (pc + 3) ls (.ref 306 :: st) M) : hr_PW p l e R s mi args below meth c G nL Q pc ls st M := by
  subst ho
  intro H locs la hP hS hL
  have h := kk H locs la hP hS hL
  have hw := A.2.2.2.2.2.2.2.1 (RX5, 172, "LINES", "[LHueRash$Line;") (by simp [hr_NF])
  exact va_getsN (host := "HueRash") (ref := "HueRash") A.1 A.2.1 A.2.2.2.2.2.2.2.2.2.1.1 hS A.2.2.2.2.1 (va_Nw.use rfl hw) (fun x h => h) hd h
theorem hr_z_iald (A : hr_A p s mi args c cc nL o G) (hd : decode cc pc = .ok (.iaload, 1)) {a : Nat} {i : Int32} {r : List Value} (hk : hr_K a = 12) (ha : ¬ a < hr_n) (hi : vp_in i (hr_N a)) (kk : hr_PW p l e R s mi args below meth c G nL Q (pc + 1) ls (.int (M.1 a i.toNatClampNeg) :: r) M) : hr_PW p l e R s mi args below meth c G nL Q pc ls (.int i :: .ref a :: r) M := by
  have ha1 := (hr_K_all a (hr_K_lt343 hk (by decide))).2.1 hk
  have hn : hr_n = 305 := rfl
  have h5 : a = 305 := by omega
  subst h5
  intro H locs la hP hS hL
  have h := kk H locs la hP hS hL
  have hm : M.1 305 = hr_s0 305 := hP.2 _ (by omega)
  have hN : hr_N 305 = 5 := by decide +kernel
  rw [hN] at hi
  show W p l e R s mi args below meth c H locs 0 0 Q (F0 mi pc la (.int i :: .ref (hr_rad G 305) :: r.map (hr_rv G)))
  rw [hr_rad_ge G (by omega)]
  exact va_ti A.1 A.2.1 A.2.2.2.2.2.2.2.2.1.2 hS hi (v := .int (M.1 305 i.toNatClampNeg)) (by rw [hm]) hd h
theorem hr_z_alen (A : hr_A p s mi args c cc nL o G) (hd : decode cc pc = .ok (.arraylength, 1)) {a : Nat} {r : List Value} (hk : 11 ≤ hr_K a ∧ hr_K a ≤ 18) (ha : ¬ a < hr_n) (kk : hr_PW p l e R s mi args below meth c G nL Q (pc + 1) ls (.int (Int32.ofNat (hr_N a)) :: r) M) : hr_PW p l e R s mi args below meth c G nL Q pc ls (.ref a :: r) M := by
  have hn : hr_n = 305 := rfl
  have h56 := hr_K_st a (hr_K_lt343 rfl (by omega)) (by omega) hk.1 hk.2
  intro H locs la hP hS hL
  have h := kk H locs la hP hS hL
  show W p l e R s mi args below meth c H locs 0 0 Q (F0 mi pc la (.ref (hr_rad G a) :: r.map (hr_rv G)))
  rw [hr_rad_ge G ha]
  rcases h56 with rfl | rfl
  · have hN : hr_N 305 = 5 := by decide +kernel
    rw [hN] at h
    exact va_tlen A.1 A.2.1 A.2.2.2.2.2.2.2.2.1.2 hS rfl hd h
  · have hN : hr_N 306 = 18 := by decide +kernel
    rw [hN] at h
    exact va_tlen A.1 A.2.1 A.2.2.2.2.2.2.2.2.2.1.2 hS rfl hd h
theorem hr_z_aald (A : hr_A p s mi args c cc nL o G) (hd : decode cc pc = .ok (.aaload, 1)) {a : Nat} {i : Int32} {r : List Value} (hk : hr_K a = 18) (hi : vp_in i (hr_N a)) (kk : hr_PW p l e R s mi args below meth c G nL Q (pc + 1) ls (.ref (hr_el (hr_K a) a i.toNatClampNeg) :: r) M) : hr_PW p l e R s mi args below meth c G nL Q pc ls (.int i :: .ref a :: r) M := by
  have h6 := (hr_K_all a (hr_K_lt343 hk (by decide))).2.2.1 hk
  subst h6
  have hn : hr_n = 305 := rfl
  intro H locs la hP hS hL
  have h := kk H locs la hP hS hL
  have hN : hr_N 306 = 18 := by decide +kernel
  rw [hN] at hi
  show W p l e R s mi args below meth c H locs 0 0 Q (F0 mi pc la (.int i :: .ref (hr_rad G 306) :: r.map (hr_rv G)))
  rw [hr_rad_ge G (by omega)]
  have hv : hr_rv G (.ref (hr_el (hr_K 306) 306 i.toNatClampNeg)) = .ref (G.2.2.2 (307 + i.toNatClampNeg)) := by
    show Value.ref (hr_rad G (hr_el (hr_K 306) 306 i.toNatClampNeg)) = _
    rw [hk, show hr_el 18 306 i.toNatClampNeg = 307 + i.toNatClampNeg from by show 306 + 1 + i.toNatClampNeg = _; omega, hr_rad_ge G (by omega)]
  rw [List.map_cons, hv] at h
  exact vb_tq A.1 A.2.1 A.2.2.2.2.2.2.2.2.2.1.2 hS hi rfl hd h
end HRZ
