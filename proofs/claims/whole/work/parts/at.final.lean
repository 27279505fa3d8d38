/-! THE LAW: its loop, its entry; the tail is the skeleton's -/
def lw_offs : Array Int := #[143, 206, 229, 262, 285, 318, 361, 404, 467, 500, 543, 586, 649, 692, 726, 769, 812, 846, 889, 942, 975, 1018, 1051, 1110, 1153, 1206, 1239, 1273, 1316, 1379, 1402, 1425]
theorem lw_d33 : decode code 33 = .ok (.tableswitch 1448 0 31 lw_offs, 143) := by decide +kernel
theorem lw_o (k : Nat) {off : Int} (hk : k < 32) (h : lw_offs[k]? = some off) : lw_offs[((nI k).toInt - 0).toNat]? = some off := by
  rw [q_nInt (by omega), show ((k : Int) - 0).toNat = k by omega]
  exact h
theorem lw_in {k : Nat} (hk : k < 32) : ¬ (nI k).toInt < 0 ∧ ¬ 31 < (nI k).toInt := by
  rw [q_nInt (by omega)]
  omega
section LLP
variable {p : Program} {l : Launch} {e : Env} {s : State} {m : MethodId} {below : List Frame} {meth : Method} {c : Code} {G : PG} {b L cells slots : Nat} {xs : Nat → Int32}
theorem lw_loop (A : hr_LA p s m meth c G b L xs) (hR : cells ≤ 600000 ∧ slots ≤ 7302250) (hL : L ≤ 3072) : ∀ (n i : Nat) (M : PM) (T : Tol) (I : Nat → Tol) (K : Nat → Bool), L + 1 ≤ i + n → i ≤ L → InvM M T I K → hr_LW p l e s m below meth c G b cells slots (lw_Z below #[Value.ref b] s) i 18 [] M := by
  obtain ⟨hx, hb, hml, hts, hown, hK, hZ, hG, hX, hbl, hr, hlk⟩ := id A
  have hbA : ¬ (fun q : Nat => G.2.2.1 ≤ q) b := by show ¬ G.2.2.1 ≤ b; omega
  intro n
  induction n with
  | zero => intro i M T I K h1 h2; omega
  | succ n ih =>
    intro i M T I K h1 h2 hI H locs la hP hS hl
    refine lv_iload_n hx hb (show decode code 18 = .ok (.iload_n 3, 1) by decide +kernel) rfl (lv_at hl 3 rfl) ?_
    refine lv_aload_n hx hb (show decode code 19 = .ok (.aload_n 0, 1) by decide +kernel) rfl (lv_at hl 0 rfl) ?_
    refine va_slen hx hb hX hbl hbA hS (show decode code 20 = .ok (.arraylength, 1) by decide +kernel) ?_
    refine lv_bipush (v := nI 6) hx hb (show decode code 21 = .ok (.bipush 6, 2) by decide +kernel) (by decide) ?_
    refine lv_isub hx hb (show decode code 23 = .ok (.isub, 1) by decide +kernel) ?_
    have eL : Int32.ofNat L - nI 6 = zI ((L : Int) - (6 : Nat)) := q_nsub L 6
    rw [eL]
    refine lv_icmp_gt (tgt := 1487) hx hb (show decode code 24 = .ok (.if_icmp .gt 1463, 3) by decide +kernel) (by decide) (fun _ => ?_) (fun c1 => ?_)
    · refine lv_iconst (v := 1) hx hb (show decode code 1487 = .ok (.iconst 1, 1) by decide +kernel) (by decide) ?_
      refine va_forget (fun q hq => by have h9 := hS.2.2 q hq; rw [← hG]; exact h9) ?_
      refine W.widen (k := 600000) (n := 7302250) hR.1 hR.2 ?_
      exact lw_ret hx hb hr hlk (show decode code 1488 = .ok (.ireturn, 1) by decide +kernel)
    · have hi6 : i + 6 ≤ L := by
        rw [q_znlt (by omega) (by omega)] at c1
        omega
      refine lv_aload_n hx hb (show decode code 27 = .ok (.aload_n 0, 1) by decide +kernel) rfl (lv_at hl 0 rfl) ?_
      refine lv_iload_n hx hb (show decode code 28 = .ok (.iload_n 3, 1) by decide +kernel) rfl (lv_at hl 3 rfl) ?_
      refine va_sld hx hb hX hbl hbA hS (vp_in_nI (show i < L by omega) (by omega)) (show decode code 29 = .ok (.iaload, 1) by decide +kernel) ?_
      refine lv_bipush (v := nI 31) hx hb (show decode code 30 = .ok (.bipush 31, 2) by decide +kernel) (by decide) ?_
      refine lv_iand hx hb (show decode code 32 = .ok (.iand, 1) by decide +kernel) ?_
      obtain ⟨k, hk, ek⟩ := lw_k (xs (nI i).toNatClampNeg)
      rw [ek]
      have kk : ∀ M' T' I' K', InvM M' T' I' K' → hr_LW p l e s m below meth c G b cells slots (lw_Z below #[Value.ref b] s) (i + 6) 18 [] M' := fun M' T' I' K' h' => ih (i + 6) M' T' I' K' (by omega) hi6 h'
      match k, hk with
      | 0, hk => exact lv_tableIn (tgt := 176) hx hb lw_d33 (lw_in hk).1 (lw_in hk).2 (lw_o 0 hk rfl) (by decide) (lw_c0 A hR hi6 hL hI kk H locs la hP hS hl)
      | 1, hk => exact lv_tableIn (tgt := 239) hx hb lw_d33 (lw_in hk).1 (lw_in hk).2 (lw_o 1 hk rfl) (by decide) (lw_c1 A hR hi6 hL hI kk H locs la hP hS hl)
      | 2, hk => exact lv_tableIn (tgt := 262) hx hb lw_d33 (lw_in hk).1 (lw_in hk).2 (lw_o 2 hk rfl) (by decide) (lw_c2 A hR hi6 hL hI kk H locs la hP hS hl)
      | 3, hk => exact lv_tableIn (tgt := 295) hx hb lw_d33 (lw_in hk).1 (lw_in hk).2 (lw_o 3 hk rfl) (by decide) (lw_c3 A hR hi6 hL hI kk H locs la hP hS hl)
      | 4, hk => exact lv_tableIn (tgt := 318) hx hb lw_d33 (lw_in hk).1 (lw_in hk).2 (lw_o 4 hk rfl) (by decide) (lw_c4 A hR hi6 hL hI kk H locs la hP hS hl)
      | 5, hk => exact lv_tableIn (tgt := 351) hx hb lw_d33 (lw_in hk).1 (lw_in hk).2 (lw_o 5 hk rfl) (by decide) (lw_c5 A hR hi6 hL hI kk H locs la hP hS hl)
      | 6, hk => exact lv_tableIn (tgt := 394) hx hb lw_d33 (lw_in hk).1 (lw_in hk).2 (lw_o 6 hk rfl) (by decide) (lw_c6 A hR hi6 hL hI kk H locs la hP hS hl)
      | 7, hk => exact lv_tableIn (tgt := 437) hx hb lw_d33 (lw_in hk).1 (lw_in hk).2 (lw_o 7 hk rfl) (by decide) (lw_c7 A hR hi6 hL hI kk H locs la hP hS hl)
      | 8, hk => exact lv_tableIn (tgt := 500) hx hb lw_d33 (lw_in hk).1 (lw_in hk).2 (lw_o 8 hk rfl) (by decide) (lw_c8 A hR hi6 hL hI kk H locs la hP hS hl)
      | 9, hk => exact lv_tableIn (tgt := 533) hx hb lw_d33 (lw_in hk).1 (lw_in hk).2 (lw_o 9 hk rfl) (by decide) (lw_c9 A hR hi6 hL hI kk H locs la hP hS hl)
      | 10, hk => exact lv_tableIn (tgt := 576) hx hb lw_d33 (lw_in hk).1 (lw_in hk).2 (lw_o 10 hk rfl) (by decide) (lw_c10 A hR hi6 hL hI kk H locs la hP hS hl)
      | 11, hk => exact lv_tableIn (tgt := 619) hx hb lw_d33 (lw_in hk).1 (lw_in hk).2 (lw_o 11 hk rfl) (by decide) (lw_c11 A hR hi6 hL hI kk H locs la hP hS hl)
      | 12, hk => exact lv_tableIn (tgt := 682) hx hb lw_d33 (lw_in hk).1 (lw_in hk).2 (lw_o 12 hk rfl) (by decide) (lw_c12 A hR hi6 hL hI kk H locs la hP hS hl)
      | 13, hk => exact lv_tableIn (tgt := 725) hx hb lw_d33 (lw_in hk).1 (lw_in hk).2 (lw_o 13 hk rfl) (by decide) (lw_c13 A hR hi6 hL hI kk H locs la hP hS hl)
      | 14, hk => exact lv_tableIn (tgt := 759) hx hb lw_d33 (lw_in hk).1 (lw_in hk).2 (lw_o 14 hk rfl) (by decide) (lw_c14 A hR hi6 hL hI kk H locs la hP hS hl)
      | 15, hk => exact lv_tableIn (tgt := 802) hx hb lw_d33 (lw_in hk).1 (lw_in hk).2 (lw_o 15 hk rfl) (by decide) (lw_c15 A hR hi6 hL hI kk H locs la hP hS hl)
      | 16, hk => exact lv_tableIn (tgt := 845) hx hb lw_d33 (lw_in hk).1 (lw_in hk).2 (lw_o 16 hk rfl) (by decide) (lw_c16 A hR hi6 hL hI kk H locs la hP hS hl)
      | 17, hk => exact lv_tableIn (tgt := 879) hx hb lw_d33 (lw_in hk).1 (lw_in hk).2 (lw_o 17 hk rfl) (by decide) (lw_c17 A hR hi6 hL hI kk H locs la hP hS hl)
      | 18, hk => exact lv_tableIn (tgt := 922) hx hb lw_d33 (lw_in hk).1 (lw_in hk).2 (lw_o 18 hk rfl) (by decide) (lw_c18 A hR hi6 hL hI kk H locs la hP hS hl)
      | 19, hk => exact lv_tableIn (tgt := 975) hx hb lw_d33 (lw_in hk).1 (lw_in hk).2 (lw_o 19 hk rfl) (by decide) (lw_c19 A hR hi6 hL hI kk H locs la hP hS hl)
      | 20, hk => exact lv_tableIn (tgt := 1008) hx hb lw_d33 (lw_in hk).1 (lw_in hk).2 (lw_o 20 hk rfl) (by decide) (lw_c20 A hR hi6 hL hI kk H locs la hP hS hl)
      | 21, hk => exact lv_tableIn (tgt := 1051) hx hb lw_d33 (lw_in hk).1 (lw_in hk).2 (lw_o 21 hk rfl) (by decide) (lw_c21 A hR hi6 hL hI kk H locs la hP hS hl)
      | 22, hk => exact lv_tableIn (tgt := 1084) hx hb lw_d33 (lw_in hk).1 (lw_in hk).2 (lw_o 22 hk rfl) (by decide) (lw_c22 A hR hi6 hL hI kk H locs la hP hS hl)
      | 23, hk => exact lv_tableIn (tgt := 1143) hx hb lw_d33 (lw_in hk).1 (lw_in hk).2 (lw_o 23 hk rfl) (by decide) (lw_c23 A hR hi6 hL hI kk H locs la hP hS hl)
      | 24, hk => exact lv_tableIn (tgt := 1186) hx hb lw_d33 (lw_in hk).1 (lw_in hk).2 (lw_o 24 hk rfl) (by decide) (lw_c24 A hR hi6 hL hI kk H locs la hP hS hl)
      | 25, hk => exact lv_tableIn (tgt := 1239) hx hb lw_d33 (lw_in hk).1 (lw_in hk).2 (lw_o 25 hk rfl) (by decide) (lw_c25 A hR hi6 hL hI kk H locs la hP hS hl)
      | 26, hk => exact lv_tableIn (tgt := 1272) hx hb lw_d33 (lw_in hk).1 (lw_in hk).2 (lw_o 26 hk rfl) (by decide) (lw_c26 A hR hi6 hL hI kk H locs la hP hS hl)
      | 27, hk => exact lv_tableIn (tgt := 1306) hx hb lw_d33 (lw_in hk).1 (lw_in hk).2 (lw_o 27 hk rfl) (by decide) (lw_c27 A hR hi6 hL hI kk H locs la hP hS hl)
      | 28, hk => exact lv_tableIn (tgt := 1349) hx hb lw_d33 (lw_in hk).1 (lw_in hk).2 (lw_o 28 hk rfl) (by decide) (lw_c28 A hR hi6 hL hI kk H locs la hP hS hl)
      | 29, hk => exact lv_tableIn (tgt := 1412) hx hb lw_d33 (lw_in hk).1 (lw_in hk).2 (lw_o 29 hk rfl) (by decide) (lw_c29 A hR hi6 hL hI kk H locs la hP hS hl)
      | 30, hk => exact lv_tableIn (tgt := 1435) hx hb lw_d33 (lw_in hk).1 (lw_in hk).2 (lw_o 30 hk rfl) (by decide) (lw_c30 A hR hi6 hL hI kk H locs la hP hS hl)
      | 31, hk => exact lv_tableIn (tgt := 1458) hx hb lw_d33 (lw_in hk).1 (lw_in hk).2 (lw_o 31 hk rfl) (by decide) (lw_c31 A hR hi6 hL hI kk H locs la hP hS hl)
      | k + 32, hk => exact absurd hk (by omega)
end LLP
theorem hr_rbk (G : PG) (c n : Nat) : hr_row (G.2.2.1 + c) (hr_bk G c n) := by
  intro k q h
  unfold hr_bk at h
  have hk : k < n := by
    have h1 := (List.getElem?_eq_some_iff.mp h).1
    rw [List.length_map, List.length_range] at h1
    exact h1
  rw [List.getElem?_map, List.getElem?_range hk] at h
  cases h
  show G.2.2.1 + (c + k) = G.2.2.1 + c + k
  rw [Nat.add_assoc]
theorem hr_rX10 (G : PG) : hr_row G.2.2.1 (hr_oX10 G G.2.2.1) := by
  rw [hr_w10]
  exact hr_rbk G 0 275
set_option maxHeartbeats 4000000 in
set_option maxRecDepth 20000 in
theorem whole_start {p : Program} {e : Env} {s : State} {m : MethodId} {below : List Frame} {meth : Method} {c : Code} (l : Launch) (hflags : l.flags = flags0) {b L : Nat} {xs : Nat → Int32} (hL : L ≤ 3072) (C0 : lw_At p s m meth c b L xs) : W p l e room_1 s m #[Value.ref b] below meth c s.heap [] 0 0 (lw_Z below #[Value.ref b] s) (entryFrame m ([Value.ref b] : List Value).toArray 4) := by
  obtain ⟨hx, hb, hr, hml, hown, hts, hX, hbl, hlocks, hgv⟩ := id C0
  obtain ⟨ad, hzst⟩ := hr_zst hts hgv
  obtain ⟨D, cA, hK⟩ := hr_kk hts
  obtain ⟨G, A⟩ : ∃ G : PG, hr_LA p s m meth c G b L xs := ⟨(D, cA, s.heap.size, ad), hx, hb, hml, fun w hw => hts w (hr_GT_sub hw), hown, hK _, hr_zz hts (hzst D cA), rfl, hX, hbl, hr, hlocks⟩
  have hG : G.2.2.1 = s.heap.size := A.2.2.2.2.2.2.2.1
  have hAO : hr_AO s := ⟨va_AO.of (hts _ (hr_t0 (w := .arrayOver (.object RX4)) (i := 34) (by decide +kernel))), va_AO.of (hts _ (hr_t0 (w := .arrayOver (.object RX6)) (i := 36) (by decide +kernel))), va_AO.of (hts _ (hr_t0 (w := .arrayOver (.object RX8)) (i := 164) (by decide +kernel)))⟩
  have hl := lv_entry ([.ref b]) (n := 4) (Nat.le_of_ble_eq_true rfl)
  rw [lg_entry_eq]
  generalize (lg_sl ([.ref b]) ++ List.replicate (4 - (lg_sl ([.ref b])).length) Slot.unset).toArray = la at hl ⊢
  have hl : lv_has la 4 [(0, .ref b)] := hl
  refine lw_bmk2 A (b := G.2.2.1) (ws := []) (idxN := 7) (idxI := 9) (a := G.2.2.1) (k := 9) (H0 := s.heap) hAO hr_iX10 rfl (by decide) (hr_iT (i := 19) ⟨by decide +kernel, by decide +kernel⟩) (hr_iT (i := 20) ⟨by decide +kernel, by decide +kernel⟩) (hr_iT (i := 1) ⟨by decide +kernel, by decide +kernel⟩) (by decide +kernel) (hr_iT (i := 21) ⟨by decide +kernel, by decide +kernel⟩) (hr_iT (i := 22) ⟨by decide +kernel, by decide +kernel⟩) (hr_iT (i := 23) ⟨by decide +kernel, by decide +kernel⟩) (hr_iT (i := 1) ⟨by decide +kernel, by decide +kernel⟩) rfl (by decide +kernel) ⟨Nat.le_of_ble_eq_true rfl, Nat.le_of_ble_eq_true rfl⟩ (fun k q h => by simp at h) (hr_row.nil _) va_S.rf (by omega) (by omega) (Nat.le_of_ble_eq_true rfl) (Nat.le_of_ble_eq_true rfl) (hr_rX10 G) rfl (lv_size hl) (Nat.le_of_ble_eq_true rfl) (show decode code 0 = .ok (.new 7, 3) by decide +kernel) (show decode code 3 = .ok (.dup, 1) by decide +kernel) (show decode code 4 = .ok (.invokespecial 9, 3) by decide +kernel) (fun H1 L1 hP hr0 hv hS => ?_)
  rw [List.nil_append] at hP hr0
  refine lv_astore_n (lv' := [(1, .ref G.2.2.1), (0, .ref b)]) hx hb (show decode code 7 = .ok (.astore_n 1, 1) by decide +kernel) rfl hl (by decide) rfl (fun la1 hl => ?_)
  refine lw_bmk A (b := G.2.2.1) (ws := hr_oX10 G G.2.2.1) (idxN := 10) (idxI := 12) (a := G.2.2.1 + 275) (k := 10) (H0 := s.heap) hr_iX11 (by rw [show (hr_oX10 G G.2.2.1).length = 275 from hr_sX10_24_l G _]) (by decide) (hr_iT (i := 1186) ⟨by decide +kernel, by decide +kernel⟩) (hr_iT (i := 1187) ⟨by decide +kernel, by decide +kernel⟩) (hr_iT (i := 11) ⟨by decide +kernel, by decide +kernel⟩) (by decide +kernel) (hr_iT (i := 1188) ⟨by decide +kernel, by decide +kernel⟩) (hr_iT (i := 1189) ⟨by decide +kernel, by decide +kernel⟩) (hr_iT (i := 1190) ⟨by decide +kernel, by decide +kernel⟩) (hr_iT (i := 11) ⟨by decide +kernel, by decide +kernel⟩) rfl (by decide +kernel) ⟨Nat.le_of_ble_eq_true rfl, Nat.le_of_ble_eq_true rfl⟩ hP hr0 hS (by omega) (by omega) (Nat.le_of_ble_eq_true rfl) (Nat.le_of_ble_eq_true rfl) (hr_rX11 G _) rfl (lv_size hl) (Nat.le_of_ble_eq_true rfl) (show decode code 8 = .ok (.new 10, 3) by decide +kernel) (show decode code 11 = .ok (.dup, 1) by decide +kernel) (show decode code 12 = .ok (.invokespecial 12, 3) by decide +kernel) (fun H2 L2 hP hr0 hv hS => ?_)
  refine lv_astore_n (lv' := [(2, .ref (G.2.2.1 + 275)), (1, .ref G.2.2.1), (0, .ref b)]) hx hb (show decode code 15 = .ok (.astore_n 2, 1) by decide +kernel) rfl hl (by decide) rfl (fun la2 hl => ?_)
  refine lv_iconst (v := nI 0) hx hb (show decode code 16 = .ok (.iconst 0, 1) by decide +kernel) (by decide) ?_
  refine lv_istore_n (lv' := [(3, .int (nI 0)), (2, .ref (G.2.2.1 + 275)), (1, .ref G.2.2.1), (0, .ref b)]) hx hb (show decode code 17 = .ok (.istore_n 3, 1) by decide +kernel) rfl hl (by decide) rfl (fun la3 hl => ?_)
  exact lw_loop A ⟨Nat.le_of_ble_eq_true rfl, Nat.le_of_ble_eq_true rfl⟩ hL (L + 1) 0 hr_M0 _ _ _ (by omega) (Nat.zero_le _) Inv0 H2 L2 la3 ⟨hr_P0 G hP, hr_MS0⟩ hS (lv_sub hl [3, 2, 1, 0] rfl)
set_option maxHeartbeats 4000000 in
theorem lw_walk (l : Launch) (hflags : l.flags = flags0) (b : Addr) (xs : List Int32) : MetFree l x (headSpec (Jvm.Cond.code x code maxLocals ret :: tables_1) room_1) (lw_P b xs) (fun _ _ _ _ _ => True) lw_Q := by
  refine MetFree.of_bodyS (code := code) (maxLocals := maxLocals) (ret := ret) (by decide) ?_ ?_
  · intro args s m h hn
    obtain ⟨meth, c, h1, h2, h3, h4, h5, h6, -, -⟩ := Cond.code_spec hn (atoms_spec (ws := Jvm.Cond.code x code maxLocals ret :: tables_1) h _ List.mem_cons_self)
    exact ⟨meth, c, h1, h2, h3, h4, h5, h6⟩
  · intro p e s m args below meth c s₁ B hml0 hP _
    obtain ⟨rfl, hx, hbd, hgv⟩ := hP
    obtain ⟨scr, harrAt, hlist, hof, hsmall⟩ := hx
    obtain ⟨hcb, hkn, -, -⟩ := State.arrayAt?_spec harrAt
    have hown : s.vm.findClass R_law = some m.cls := findClass_of_methodNamed B.named
    have hts0 : ∀ c ∈ (Jvm.Cond.code x code maxLocals ret :: tables_1), c.before #[Value.ref b] s = true := atoms_spec (ws := Jvm.Cond.code x code maxLocals ret :: tables_1) B.pre
    have hts : ∀ w ∈ lw_tbl, w.before #[Value.ref b] s = true := k2_hts_sels lw_privs (fun w hw => hts0 w (List.mem_cons_of_mem _ hw)) lw_privs_ok
    have hml : c.maxLocals = 4 := B.maxLocals_eq (hts0 _ List.mem_cons_self)
    have X₀ : Stand p l e room_1 s m #[Value.ref b] below meth c s₁ [] 0 0 := Stand.of_body B
    have hh0 : s₁.heap = s.heap := by rw [B.state]; rfl
    have hsz : scr.slots.size = xs.length := by rw [← Array.length_toList, hlist, List.length_map]
    have hval : ∀ j : Nat, j < xs.length → scr.slots[j]? = some (.int (xs.getD j 0)) := fun j hj => by
      rw [← Array.getElem?_toList, hlist]
      simp [hj]
    have hbl : b < s.heap.size := (Array.getElem?_eq_some_iff.mp hcb).1
    have hX : va_X b xs.length (fun j => xs.getD j 0) s s.heap := ⟨scr, hcb, hof, hkn, hsz, hval⟩
    have K : W p l e room_1 s m #[Value.ref b] below meth c s₁.heap [] 0 0 (lw_Z below #[Value.ref b] s) (entryFrame m ([Value.ref b] : List Value).toArray 4) := by
      rw [hh0]
      exact whole_start l hflags hbd ⟨B.exec, B.bytes, B.returns, hml, hown, hts, hX, hbl, B.notSynchronized, hgv⟩
    obtain ⟨t, a1, o, b1, b2, b3⟩ := K s₁ rfl X₀
    exact ⟨t, o, a1, b1, b2, b3⟩
theorem lw_pre_spec {args : Array Value} {s : State} (h : (Jvm.Cond.and given_1 narrow_1).before args s = true) (hr : rest_1_c.before args s = true) : ∃ (b : Addr) (xs : List Int32), lw_P b xs args s := by
  have hs := flat_of_before _ h
  have hq := flat_of_before _ hr
  have hc : (Cond.count 1).before args s = true := hs _ (by decide +kernel)
  have harr : (Cond.arrayOf (.arg 0) .int).before args s = true := hs _ (by decide +kernel)
  have hle : (Cond.le (.length (.arg 0)) (.int 3072)).before args s = true := hs _ (by decide +kernel)
  have hlen : (Cond.isInt (.length (.arg 0))).before args s = true := hq _ (by decide +kernel)
  have hall : (Cond.all (.arg 0) (.isInt (.elem (.arg 0) (.index 0)))).before args s = true := hq _ (by decide +kernel)
  obtain ⟨b, xs, hb, hx⟩ := State.ints_of_pre rfl harr hlen hall
  have hsm : xs.length < 2 ^ 31 := hx.choose_spec.2.2.2
  have hev : (Term.length (.arg 0)).eval args s none [] s = some (.int xs.length.toInt32) := hx.length_eval hb
  have hv := Cond.le_ints hev (show (Term.int 3072).eval args s none [] s = some (.int 3072) from rfl)
  have hd : xs.length.toInt32 ≤ 3072 := by
    simpa [Cond.before, Cond.holds, hv] using hle
  have hN : xs.length ≤ 3072 := (Int32.ofNat_le_ofNat hsm (by decide)).mp (show Int32.ofNat xs.length ≤ Int32.ofNat 3072 from hd)
  exact ⟨b, xs, Cond.one_arg hc (show args[0]? = some (.ref b) from hb), hx, hN, h⟩
theorem lw_comes (l : Launch) (hflags : l.flags = flags0) : Comes l x (Jvm.Cond.code x code maxLocals ret :: tables_1) room_1 (fun tb e args s => Calls_1 tb e args s ∧ rest_1 tb e args s ∧ Pre_1 tb e args s)
    (fun _ _ args s o t => lw_Q args s o t) := by
  intro p e ha hc hk s m args below hf hfit hheap happ hpre
  obtain ⟨b, xs, hP⟩ := lw_pre_spec hpre.2.2 hpre.2.1
  obtain ⟨k, o, h1, h2, h3, hQ⟩ := lw_walk l hflags b xs p e ha hc hk s m args below hf ((Spec.applies_iff_loose hf).mp happ).1 hP trivial
  exact ⟨k, o, h1, h2, h3, hQ⟩
theorem lw_frame {s t : State} {o : Outcome} {args : Array Value} (h : Framed s o t [] 600000 7302250) :
    Framed s o t (fieldLocs frame_1_writes args s ++ arrayLocs frame_1_arrays args s ++ staticLocs frame_1_statics s) 600000 7302250 := h
theorem lw_limb (L : Cond) (hL : ∀ (args : Array Value) (s t : State), L.after args s (.returned (some (.int 1))) t = true) :
    ArmFor flags0 classFile x code maxLocals ret World_1 tables_1 room_1 Calls_1 rest_1 Pre_1
      (fun tb e a s o t => postC L tb e a s o t ∧ Framed s o t (fieldLocs frame_1_writes a s ++ arrayLocs frame_1_arrays a s ++ staticLocs frame_1_statics s) 600000 7302250) := by
  intro l hflags _ _ p e ha hc hk s m args below hf hfit hheap happ hpre
  obtain ⟨k, o, h1, h2, h3, rfl, hF⟩ := lw_comes l hflags p e ha hc hk s m args below hf hfit hheap happ hpre
  exact ⟨k, _, h1, h2, h3, hL args s _, lw_frame hF⟩
theorem i_vc : Claimed_1_1 ∧ Claimed_1_2 := ⟨lw_limb limb_1_1 (fun args s t => by simp [limb_1_1, Cond.after, Cond.holds, Cond.value]), lw_limb limb_1_2 (fun args s t => Cond.after_iff.mpr (by
  first | (rw [show limb_1_2 = Cond.eq .result (.int 1) from rfl, Cond.eq_ints (x := 1) (y := 1) rfl rfl]; simp; done) | (simp [limb_1_2, Cond.value, Term.eval]; done)))⟩
