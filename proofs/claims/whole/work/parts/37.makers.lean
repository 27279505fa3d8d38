/-! printed by gen36.py -/
theorem lv_size {ls : Array Slot} {nL : Nat} {l : List (Nat × Value)} (h : lv_has ls nL l) : ls.size = nL := h.1
theorem hr_rX0 (G : PG) (b : Nat) : hr_row b (hr_oX0 G b) := hr_rowL rfl
theorem hr_rX1 (G : PG) (b : Nat) : hr_row b (hr_oX1 G b) := hr_rowL rfl
theorem hr_rX2 (G : PG) (b : Nat) : hr_row b (hr_oX2 G b) := hr_rowL rfl
theorem hr_rX4 (G : PG) (b : Nat) : hr_row b (hr_oX4 G b) := hr_rowL rfl
theorem hr_rX6 (G : PG) (b : Nat) : hr_row b (hr_oX6 G b) := hr_rowL rfl
theorem hr_rX7 (G : PG) (b : Nat) : hr_row b (hr_oX7 G b) := hr_rowL rfl
theorem hr_rX9 (G : PG) (b : Nat) : hr_row b (hr_oX9 G b) := hr_rowL rfl
def hr_dX5 : List Value := [.null, .null, .int 0, .int 0, .null, .int 0, .int 0, .int 0, .int 0, .int 0, .null, .null, .int 0, .int 0, .int 0]
theorem hr_v170 : Jvm.Cond.methodLink (hr_cn 5) 3 Lib.objectInit ∈ hr_GT := hr_iT (i := 170) ⟨by decide +kernel, by decide +kernel⟩
theorem hr_v171 : Jvm.Cond.classLink (hr_cn 5) 9 (hr_C 3).1 ∈ hr_GT := hr_iT (i := 171) ⟨by decide +kernel, by decide +kernel⟩
theorem hr_v37 : Jvm.Cond.instantiable (hr_C 3).1 (hr_C 3).2.2 ∈ hr_GT := hr_iT (i := 37) ⟨by decide +kernel, by decide +kernel⟩
theorem hr_v3 : Jvm.Cond.initialized (hr_C 3).1 ∈ hr_GT := hr_iT (i := 3) ⟨by decide +kernel, by decide +kernel⟩
theorem hr_v172 : Jvm.Cond.methodLink (hr_cn 5) 11 yX4_init ∈ hr_GT := hr_iT (i := 172) ⟨by decide +kernel, by decide +kernel⟩
theorem hr_v39 : Jvm.Cond.instanceMethod yX4_init ∈ hr_GT := hr_iT (i := 39) ⟨by decide +kernel, by decide +kernel⟩
theorem hr_v40 : Jvm.Cond.code yX4_init cX4_init 1 none ∈ hr_GT := hr_iT (i := 40) ⟨by decide +kernel, by decide +kernel⟩
def hr_sX5_1 (G : PG) (b : Nat) : va_W := ([(b, .inr (4, [.ref (b + 1), .null, .int 0, .int 0, .null, .int 0, .int 0, .int 0, .int 0, .int 0, .null, .null, .int 0, .int 0, .int 0]))] ++ hr_oX4 G (b + 1))
theorem hr_v173 : Jvm.Cond.classLink (hr_cn 5) 18 (hr_C 5).1 ∈ hr_GT := hr_iT (i := 173) ⟨by decide +kernel, by decide +kernel⟩
theorem hr_v87 : Jvm.Cond.instantiable (hr_C 5).1 (hr_C 5).2.2 ∈ hr_GT := hr_iT (i := 87) ⟨by decide +kernel, by decide +kernel⟩
theorem hr_v4 : Jvm.Cond.initialized (hr_C 5).1 ∈ hr_GT := hr_iT (i := 4) ⟨by decide +kernel, by decide +kernel⟩
theorem hr_v174 : Jvm.Cond.methodLink (hr_cn 5) 20 yX6_init ∈ hr_GT := hr_iT (i := 174) ⟨by decide +kernel, by decide +kernel⟩
theorem hr_v89 : Jvm.Cond.instanceMethod yX6_init ∈ hr_GT := hr_iT (i := 89) ⟨by decide +kernel, by decide +kernel⟩
theorem hr_v90 : Jvm.Cond.code yX6_init cX6_init 1 none ∈ hr_GT := hr_iT (i := 90) ⟨by decide +kernel, by decide +kernel⟩
def hr_sX5_2 (G : PG) (b : Nat) : va_W := (([(b, .inr (4, [.ref (b + 1), .ref (b + 10), .int 0, .int 0, .null, .int 0, .int 0, .int 0, .int 0, .int 0, .null, .null, .int 0, .int 0, .int 0]))] ++ hr_oX4 G (b + 1)) ++ hr_oX6 G (b + 10))
def hr_sX5_3 (G : PG) (b : Nat) : va_W := ((([(b, .inr (4, [.ref (b + 1), .ref (b + 10), .int 0, .int 0, .ref (b + 14), .int 0, .int 0, .int 0, .int 0, .int 0, .null, .null, .int 0, .int 0, .int 0]))] ++ hr_oX4 G (b + 1)) ++ hr_oX6 G (b + 10)) ++ [(b + 14, .inl (G.2.1 0, 0, .inl fun _ => 0))])
def hr_sX5_4 (G : PG) (b : Nat) : va_W := ((([(b, .inr (4, [.ref (b + 1), .ref (b + 10), .int 0, .int 0, .ref (b + 14), .int 0, .int 0, .int 0, .int 0, .int 0, .ref (b + 15), .null, .int 0, .int 0, .int 0]))] ++ hr_oX4 G (b + 1)) ++ hr_oX6 G (b + 10)) ++ [(b + 14, .inl (G.2.1 0, 0, .inl fun _ => 0)), (b + 15, .inl (G.2.1 1, 3, .inl fun _ => 0))])
def hr_sX5_5 (G : PG) (b : Nat) : va_W := ((([(b, .inr (4, [.ref (b + 1), .ref (b + 10), .int 0, .int 0, .ref (b + 14), .int 0, .int 0, .int 0, .int 0, .int 0, .ref (b + 15), .ref (b + 16), .int 0, .int 0, .int 0]))] ++ hr_oX4 G (b + 1)) ++ hr_oX6 G (b + 10)) ++ [(b + 14, .inl (G.2.1 0, 0, .inl fun _ => 0)), (b + 15, .inl (G.2.1 1, 3, .inl fun _ => 0)), (b + 16, .inl (G.2.1 1, 3, .inl fun _ => 0))])
def hr_oX5 (G : PG) (b : Nat) : va_W := ((([(b, .inr (4, [.ref (b + 1), .ref (b + 10), .int 0, .int 0, .ref (b + 14), .int 0, .int 0, .int 0, .int 0, .int 0, .ref (b + 15), .ref (b + 16), .int 0, .int 0, .int 0]))] ++ hr_oX4 G (b + 1)) ++ hr_oX6 G (b + 10)) ++ [(b + 14, .inl (G.2.1 0, 0, .inl fun _ => 0)), (b + 15, .inl (G.2.1 1, 3, .inl fun _ => 0)), (b + 16, .inl (G.2.1 1, 3, .inl fun _ => 0))])
set_option maxHeartbeats 4000000 in
set_option maxRecDepth 8000 in
theorem hr_iX5 {l : Launch} {G : PG} {b : Nat} : hr_Bt l G yX5_init cX5_init 1 2 16 409 b 4 hr_dX5 (hr_oX5 G b) := by
  refine hr_Bof (o := 5) (by decide +kernel) rfl rfl ?_
  intro p e s mi below meth c A hr hlk hsz hP
  have hx := A.1
  have hb := A.2.1
  have hw := A.2.2.2.1
  have hl := lv_entry [Value.ref b] (n := 1) (Nat.le_of_ble_eq_true rfl)
  have hS := va_S.rf (A := fun y => b ≤ y) (H0 := s.heap)
  have hr0 := hr_row1 b (.inr (4, hr_dX5))
  refine lv_aload_n hx hb (show decode cX5_init 0 = .ok (.aload_n 0, 1) by decide +kernel) rfl (lv_at hl 0 rfl) ?_
  refine W.objInit hx hb A.2.2.2.2.1 (hw _ hr_v170) (hw _ hr_w25) (hw _ hr_w26) rfl A.2.2.1.symm rfl (show decode cX5_init 1 = .ok (.invokespecial 3, 3) by decide +kernel) (Nat.le_of_ble_eq_true rfl) (Nat.le_of_ble_eq_true rfl) ?_
  refine lv_aload_n hx hb (show decode cX5_init 4 = .ok (.aload_n 0, 1) by decide +kernel) rfl (lv_at hl 0 rfl) ?_
  refine hr_bmk A (idxN := 9) (idxI := 11) (a := b + 1) (k := 3) hr_iX4 rfl (by decide) hr_v171 hr_v37 hr_v3 (by decide +kernel) hr_v172 hr_v39 hr_v40 hr_v3 rfl (by decide +kernel) ⟨Nat.le_of_ble_eq_true rfl, Nat.le_of_ble_eq_true rfl⟩ hP hr0 hS (by omega) (by rw [hsz]; exact Nat.le_refl _) (Nat.le_of_ble_eq_true rfl) (Nat.le_of_ble_eq_true rfl) (hr_rX4 G _) rfl (lv_size hl) (Nat.le_of_ble_eq_true rfl) (show decode cX5_init 5 = .ok (.new 9, 3) by decide +kernel) (show decode cX5_init 8 = .ok (.dup, 1) by decide +kernel) (show decode cX5_init 9 = .ok (.invokespecial 11, 3) by decide +kernel) (fun H1 L1 hP hr0 hv hS => ?_)
  refine hr_bput A (show hr_fl 5 12 = some (4, 0, (hr_fl 5 12).get!.2.2) by decide +kernel) (by decide) hP hr0.D hS 0 rfl (Nat.le_of_ble_eq_true rfl) (ty := .object RX4) (by decide +kernel) rfl rfl (by decide +kernel) (show decode cX5_init 12 = .ok (.putfield 12, 3) by decide +kernel) (fun H2 L2 hP hD hS => ?_)
  have hr0 := hr0.set (k := 0) (x := .inr (4, [.ref (b + 1), .null, .int 0, .int 0, .null, .int 0, .int 0, .int 0, .int 0, .int 0, .null, .null, .int 0, .int 0, .int 0])) rfl
  have hP : va_P G.1 vwCl (hr_sX5_1 G b) _ := hP
  have hr0 : hr_row b (hr_sX5_1 G b) := hr0
  refine lv_aload_n hx hb (show decode cX5_init 15 = .ok (.aload_n 0, 1) by decide +kernel) rfl (lv_at hl 0 rfl) ?_
  refine hr_bmk A (idxN := 18) (idxI := 20) (a := b + 10) (k := 5) hr_iX6 rfl (by decide) hr_v173 hr_v87 hr_v4 (by decide +kernel) hr_v174 hr_v89 hr_v90 hr_v4 rfl (by decide +kernel) ⟨Nat.le_of_ble_eq_true rfl, Nat.le_of_ble_eq_true rfl⟩ hP hr0 hS (by omega) (by rw [hsz]; exact Nat.le_refl _) (Nat.le_of_ble_eq_true rfl) (Nat.le_of_ble_eq_true rfl) (hr_rX6 G _) rfl (lv_size hl) (Nat.le_of_ble_eq_true rfl) (show decode cX5_init 16 = .ok (.new 18, 3) by decide +kernel) (show decode cX5_init 19 = .ok (.dup, 1) by decide +kernel) (show decode cX5_init 20 = .ok (.invokespecial 20, 3) by decide +kernel) (fun H3 L3 hP hr0 hv hS => ?_)
  refine hr_bput A (show hr_fl 5 21 = some (4, 1, (hr_fl 5 21).get!.2.2) by decide +kernel) (by decide) hP hr0.D hS 0 rfl (Nat.le_of_ble_eq_true rfl) (ty := .object RX6) (by decide +kernel) rfl rfl (by decide +kernel) (show decode cX5_init 23 = .ok (.putfield 21, 3) by decide +kernel) (fun H4 L4 hP hD hS => ?_)
  have hr0 := hr0.set (k := 0) (x := .inr (4, [.ref (b + 1), .ref (b + 10), .int 0, .int 0, .null, .int 0, .int 0, .int 0, .int 0, .int 0, .null, .null, .int 0, .int 0, .int 0])) rfl
  have hP : va_P G.1 vwCl (hr_sX5_2 G b) _ := hP
  have hr0 : hr_row b (hr_sX5_2 G b) := hr0
  refine lv_aload_n hx hb (show decode cX5_init 26 = .ok (.aload_n 0, 1) by decide +kernel) rfl (lv_at hl 0 rfl) ?_
  refine lv_iconst (v := 0) hx hb (show decode cX5_init 27 = .ok (.iconst 0, 1) by decide +kernel) (by decide) ?_
  refine hr_bnewa A (t := .byte) hr_w85 0 rfl hP hr0.D hr0 hS (by omega) (by rw [hsz]; exact Nat.le_refl _) (N' := 0) (a0 := (0, .inl fun _ => 0)) (fun cA => rfl) (by decide +kernel) (by decide +kernel) (by decide +kernel) (Nat.le_of_ble_eq_true rfl) (Nat.le_of_ble_eq_true rfl) (show decode cX5_init 28 = .ok (.newarray .byte, 2) by decide +kernel) (fun H5 hP hD hS => ?_)
  have hr0 := hr0.push (x := .inl (G.2.1 0, 0, .inl fun _ => 0)) rfl
  refine hr_bput A (show hr_fl 5 25 = some (4, 4, (hr_fl 5 25).get!.2.2) by decide +kernel) (by decide) hP hr0.D hS 0 rfl (Nat.le_of_ble_eq_true rfl) (ty := .array .byte) (by decide +kernel) rfl rfl (by decide +kernel) (show decode cX5_init 30 = .ok (.putfield 25, 3) by decide +kernel) (fun H6 L6 hP hD hS => ?_)
  have hr0 := hr0.set (k := 0) (x := .inr (4, [.ref (b + 1), .ref (b + 10), .int 0, .int 0, .ref (b + 14), .int 0, .int 0, .int 0, .int 0, .int 0, .null, .null, .int 0, .int 0, .int 0])) rfl
  have hP : va_P G.1 vwCl (hr_sX5_3 G b) _ := hP
  have hr0 : hr_row b (hr_sX5_3 G b) := hr0
  refine lv_aload_n hx hb (show decode cX5_init 33 = .ok (.aload_n 0, 1) by decide +kernel) rfl (lv_at hl 0 rfl) ?_
  refine lv_iconst (v := 3) hx hb (show decode cX5_init 34 = .ok (.iconst 3, 1) by decide +kernel) (by decide) ?_
  refine hr_bnewa A (t := .int) hr_w86 1 rfl hP hr0.D hr0 hS (by omega) (by rw [hsz]; exact Nat.le_refl _) (N' := 3) (a0 := (3, .inl fun _ => 0)) (fun cA => rfl) (by decide +kernel) (by decide +kernel) (by decide +kernel) (Nat.le_of_ble_eq_true rfl) (Nat.le_of_ble_eq_true rfl) (show decode cX5_init 35 = .ok (.newarray .int, 2) by decide +kernel) (fun H7 hP hD hS => ?_)
  have hr0 := hr0.push (x := .inl (G.2.1 1, 3, .inl fun _ => 0)) rfl
  refine hr_bput A (show hr_fl 5 29 = some (4, 10, (hr_fl 5 29).get!.2.2) by decide +kernel) (by decide) hP hr0.D hS 0 rfl (Nat.le_of_ble_eq_true rfl) (ty := .array .int) (by decide +kernel) rfl rfl (by decide +kernel) (show decode cX5_init 37 = .ok (.putfield 29, 3) by decide +kernel) (fun H8 L8 hP hD hS => ?_)
  have hr0 := hr0.set (k := 0) (x := .inr (4, [.ref (b + 1), .ref (b + 10), .int 0, .int 0, .ref (b + 14), .int 0, .int 0, .int 0, .int 0, .int 0, .ref (b + 15), .null, .int 0, .int 0, .int 0])) rfl
  have hP : va_P G.1 vwCl (hr_sX5_4 G b) _ := hP
  have hr0 : hr_row b (hr_sX5_4 G b) := hr0
  refine lv_aload_n hx hb (show decode cX5_init 40 = .ok (.aload_n 0, 1) by decide +kernel) rfl (lv_at hl 0 rfl) ?_
  refine lv_iconst (v := 3) hx hb (show decode cX5_init 41 = .ok (.iconst 3, 1) by decide +kernel) (by decide) ?_
  refine hr_bnewa A (t := .int) hr_w86 1 rfl hP hr0.D hr0 hS (by omega) (by rw [hsz]; exact Nat.le_refl _) (N' := 3) (a0 := (3, .inl fun _ => 0)) (fun cA => rfl) (by decide +kernel) (by decide +kernel) (by decide +kernel) (Nat.le_of_ble_eq_true rfl) (Nat.le_of_ble_eq_true rfl) (show decode cX5_init 42 = .ok (.newarray .int, 2) by decide +kernel) (fun H9 hP hD hS => ?_)
  have hr0 := hr0.push (x := .inl (G.2.1 1, 3, .inl fun _ => 0)) rfl
  refine hr_bput A (show hr_fl 5 33 = some (4, 11, (hr_fl 5 33).get!.2.2) by decide +kernel) (by decide) hP hr0.D hS 0 rfl (Nat.le_of_ble_eq_true rfl) (ty := .array .int) (by decide +kernel) rfl rfl (by decide +kernel) (show decode cX5_init 44 = .ok (.putfield 33, 3) by decide +kernel) (fun H10 L10 hP hD hS => ?_)
  have hr0 := hr0.set (k := 0) (x := .inr (4, [.ref (b + 1), .ref (b + 10), .int 0, .int 0, .ref (b + 14), .int 0, .int 0, .int 0, .int 0, .int 0, .ref (b + 15), .ref (b + 16), .int 0, .int 0, .int 0])) rfl
  have hP : va_P G.1 vwCl (hr_sX5_5 G b) _ := hP
  have hr0 : hr_row b (hr_sX5_5 G b) := hr0
  exact W.vret hx hb hr (fun t ht _ => ⟨rfl, by rw [ht]; exact hP, fun q hq => by rw [ht]; exact hS.2.1 q (by omega) (by omega)⟩) hS.2.2 (show decode cX5_init 47 = .ok (.return_, 1) by decide +kernel) hlk
set_option maxRecDepth 8000 in
theorem hr_rX5 (G : PG) (b : Nat) : hr_row b (hr_oX5 G b) := hr_rowL rfl
def hr_dX8 : List Value := [.null, .int 0, .int 0, .int 0, .null, .null, .null]
theorem hr_v32 : Jvm.Cond.methodLink (hr_cn 8) 3 Lib.objectInit ∈ hr_GT := hr_iT (i := 32) ⟨by decide +kernel, by decide +kernel⟩
def hr_sX8_1 (G : PG) (b : Nat) : va_W := [(b, .inr (7, [.ref (b + 1), .int 0, .int 0, .int 0, .null, .null, .null])), (b + 1, .inl (G.2.1 0, 600, .inl fun _ => 0))]
def hr_sX8_2 (G : PG) (b : Nat) : va_W := [(b, .inr (7, [.ref (b + 1), .int 0, .int 0, .int (-1), .null, .null, .null])), (b + 1, .inl (G.2.1 0, 600, .inl fun _ => 0))]
def hr_sX8_3 (G : PG) (b : Nat) : va_W := [(b, .inr (7, [.ref (b + 1), .int 0, .int 0, .int (-1), .ref (b + 2), .null, .null])), (b + 1, .inl (G.2.1 0, 600, .inl fun _ => 0)), (b + 2, .inl (G.2.1 1, 5, .inl fun _ => 0))]
theorem hr_v33 : Jvm.Cond.classLink (hr_cn 8) 23 RX4 ∈ hr_GT := hr_iT (i := 33) ⟨by decide +kernel, by decide +kernel⟩
def hr_sX8_4 (G : PG) (b : Nat) : va_W := [(b, .inr (7, [.ref (b + 1), .int 0, .int 0, .int (-1), .ref (b + 2), .ref (b + 3), .null])), (b + 1, .inl (G.2.1 0, 600, .inl fun _ => 0)), (b + 2, .inl (G.2.1 1, 5, .inl fun _ => 0)), (b + 3, .inl (G.2.1 4, 2, .inr (.inr (.inr (.inr (fun _ => none))))))]
theorem hr_v35 : Jvm.Cond.classLink (hr_cn 8) 29 RX6 ∈ hr_GT := hr_iT (i := 35) ⟨by decide +kernel, by decide +kernel⟩
def hr_sX8_5 (G : PG) (b : Nat) : va_W := [(b, .inr (7, [.ref (b + 1), .int 0, .int 0, .int (-1), .ref (b + 2), .ref (b + 3), .ref (b + 4)])), (b + 1, .inl (G.2.1 0, 600, .inl fun _ => 0)), (b + 2, .inl (G.2.1 1, 5, .inl fun _ => 0)), (b + 3, .inl (G.2.1 4, 2, .inr (.inr (.inr (.inr (fun _ => none)))))), (b + 4, .inl (G.2.1 5, 8, .inr (.inr (.inr (.inr (fun _ => none))))))]
theorem hr_v38 : Jvm.Cond.methodLink (hr_cn 8) 35 yX4_init ∈ hr_GT := hr_iT (i := 38) ⟨by decide +kernel, by decide +kernel⟩
def hr_sX8_6 (G : PG) (b : Nat) : va_W := ([(b, .inr (7, [.ref (b + 1), .int 0, .int 0, .int (-1), .ref (b + 2), .ref (b + 3), .ref (b + 4)])), (b + 1, .inl (G.2.1 0, 600, .inl fun _ => 0)), (b + 2, .inl (G.2.1 1, 5, .inl fun _ => 0)), (b + 3, .inl (G.2.1 4, 2, .inr (.inr (.inr (.inr (va_up (fun _ => none) 0 (some (b + 5)))))))), (b + 4, .inl (G.2.1 5, 8, .inr (.inr (.inr (.inr (fun _ => none))))))] ++ hr_oX4 G (b + 5))
def hr_sX8_7 (G : PG) (b : Nat) : va_W := (([(b, .inr (7, [.ref (b + 1), .int 0, .int 0, .int (-1), .ref (b + 2), .ref (b + 3), .ref (b + 4)])), (b + 1, .inl (G.2.1 0, 600, .inl fun _ => 0)), (b + 2, .inl (G.2.1 1, 5, .inl fun _ => 0)), (b + 3, .inl (G.2.1 4, 2, .inr (.inr (.inr (.inr (va_up (va_up (fun _ => none) 0 (some (b + 5))) 1 (some (b + 14)))))))), (b + 4, .inl (G.2.1 5, 8, .inr (.inr (.inr (.inr (fun _ => none))))))] ++ hr_oX4 G (b + 5)) ++ hr_oX4 G (b + 14))
theorem hr_v88 : Jvm.Cond.methodLink (hr_cn 8) 36 yX6_init ∈ hr_GT := hr_iT (i := 88) ⟨by decide +kernel, by decide +kernel⟩
def hr_sX8_8 (G : PG) (b : Nat) : va_W := ((([(b, .inr (7, [.ref (b + 1), .int 0, .int 0, .int (-1), .ref (b + 2), .ref (b + 3), .ref (b + 4)])), (b + 1, .inl (G.2.1 0, 600, .inl fun _ => 0)), (b + 2, .inl (G.2.1 1, 5, .inl fun _ => 0)), (b + 3, .inl (G.2.1 4, 2, .inr (.inr (.inr (.inr (va_up (va_up (fun _ => none) 0 (some (b + 5))) 1 (some (b + 14)))))))), (b + 4, .inl (G.2.1 5, 8, .inr (.inr (.inr (.inr (va_up (fun _ => none) 0 (some (b + 23))))))))] ++ hr_oX4 G (b + 5)) ++ hr_oX4 G (b + 14)) ++ hr_oX6 G (b + 23))
def hr_sX8_9 (G : PG) (b : Nat) : va_W := (((([(b, .inr (7, [.ref (b + 1), .int 0, .int 0, .int (-1), .ref (b + 2), .ref (b + 3), .ref (b + 4)])), (b + 1, .inl (G.2.1 0, 600, .inl fun _ => 0)), (b + 2, .inl (G.2.1 1, 5, .inl fun _ => 0)), (b + 3, .inl (G.2.1 4, 2, .inr (.inr (.inr (.inr (va_up (va_up (fun _ => none) 0 (some (b + 5))) 1 (some (b + 14)))))))), (b + 4, .inl (G.2.1 5, 8, .inr (.inr (.inr (.inr (va_up (va_up (fun _ => none) 0 (some (b + 23))) 1 (some (b + 27))))))))] ++ hr_oX4 G (b + 5)) ++ hr_oX4 G (b + 14)) ++ hr_oX6 G (b + 23)) ++ hr_oX6 G (b + 27))
def hr_sX8_10 (G : PG) (b : Nat) : va_W := ((((([(b, .inr (7, [.ref (b + 1), .int 0, .int 0, .int (-1), .ref (b + 2), .ref (b + 3), .ref (b + 4)])), (b + 1, .inl (G.2.1 0, 600, .inl fun _ => 0)), (b + 2, .inl (G.2.1 1, 5, .inl fun _ => 0)), (b + 3, .inl (G.2.1 4, 2, .inr (.inr (.inr (.inr (va_up (va_up (fun _ => none) 0 (some (b + 5))) 1 (some (b + 14)))))))), (b + 4, .inl (G.2.1 5, 8, .inr (.inr (.inr (.inr (va_up (va_up (va_up (fun _ => none) 0 (some (b + 23))) 1 (some (b + 27))) 2 (some (b + 31))))))))] ++ hr_oX4 G (b + 5)) ++ hr_oX4 G (b + 14)) ++ hr_oX6 G (b + 23)) ++ hr_oX6 G (b + 27)) ++ hr_oX6 G (b + 31))
def hr_sX8_11 (G : PG) (b : Nat) : va_W := (((((([(b, .inr (7, [.ref (b + 1), .int 0, .int 0, .int (-1), .ref (b + 2), .ref (b + 3), .ref (b + 4)])), (b + 1, .inl (G.2.1 0, 600, .inl fun _ => 0)), (b + 2, .inl (G.2.1 1, 5, .inl fun _ => 0)), (b + 3, .inl (G.2.1 4, 2, .inr (.inr (.inr (.inr (va_up (va_up (fun _ => none) 0 (some (b + 5))) 1 (some (b + 14)))))))), (b + 4, .inl (G.2.1 5, 8, .inr (.inr (.inr (.inr (va_up (va_up (va_up (va_up (fun _ => none) 0 (some (b + 23))) 1 (some (b + 27))) 2 (some (b + 31))) 3 (some (b + 35))))))))] ++ hr_oX4 G (b + 5)) ++ hr_oX4 G (b + 14)) ++ hr_oX6 G (b + 23)) ++ hr_oX6 G (b + 27)) ++ hr_oX6 G (b + 31)) ++ hr_oX6 G (b + 35))
def hr_sX8_12 (G : PG) (b : Nat) : va_W := ((((((([(b, .inr (7, [.ref (b + 1), .int 0, .int 0, .int (-1), .ref (b + 2), .ref (b + 3), .ref (b + 4)])), (b + 1, .inl (G.2.1 0, 600, .inl fun _ => 0)), (b + 2, .inl (G.2.1 1, 5, .inl fun _ => 0)), (b + 3, .inl (G.2.1 4, 2, .inr (.inr (.inr (.inr (va_up (va_up (fun _ => none) 0 (some (b + 5))) 1 (some (b + 14)))))))), (b + 4, .inl (G.2.1 5, 8, .inr (.inr (.inr (.inr (va_up (va_up (va_up (va_up (va_up (fun _ => none) 0 (some (b + 23))) 1 (some (b + 27))) 2 (some (b + 31))) 3 (some (b + 35))) 4 (some (b + 39))))))))] ++ hr_oX4 G (b + 5)) ++ hr_oX4 G (b + 14)) ++ hr_oX6 G (b + 23)) ++ hr_oX6 G (b + 27)) ++ hr_oX6 G (b + 31)) ++ hr_oX6 G (b + 35)) ++ hr_oX6 G (b + 39))
def hr_sX8_13 (G : PG) (b : Nat) : va_W := (((((((([(b, .inr (7, [.ref (b + 1), .int 0, .int 0, .int (-1), .ref (b + 2), .ref (b + 3), .ref (b + 4)])), (b + 1, .inl (G.2.1 0, 600, .inl fun _ => 0)), (b + 2, .inl (G.2.1 1, 5, .inl fun _ => 0)), (b + 3, .inl (G.2.1 4, 2, .inr (.inr (.inr (.inr (va_up (va_up (fun _ => none) 0 (some (b + 5))) 1 (some (b + 14)))))))), (b + 4, .inl (G.2.1 5, 8, .inr (.inr (.inr (.inr (va_up (va_up (va_up (va_up (va_up (va_up (fun _ => none) 0 (some (b + 23))) 1 (some (b + 27))) 2 (some (b + 31))) 3 (some (b + 35))) 4 (some (b + 39))) 5 (some (b + 43))))))))] ++ hr_oX4 G (b + 5)) ++ hr_oX4 G (b + 14)) ++ hr_oX6 G (b + 23)) ++ hr_oX6 G (b + 27)) ++ hr_oX6 G (b + 31)) ++ hr_oX6 G (b + 35)) ++ hr_oX6 G (b + 39)) ++ hr_oX6 G (b + 43))
def hr_sX8_14 (G : PG) (b : Nat) : va_W := ((((((((([(b, .inr (7, [.ref (b + 1), .int 0, .int 0, .int (-1), .ref (b + 2), .ref (b + 3), .ref (b + 4)])), (b + 1, .inl (G.2.1 0, 600, .inl fun _ => 0)), (b + 2, .inl (G.2.1 1, 5, .inl fun _ => 0)), (b + 3, .inl (G.2.1 4, 2, .inr (.inr (.inr (.inr (va_up (va_up (fun _ => none) 0 (some (b + 5))) 1 (some (b + 14)))))))), (b + 4, .inl (G.2.1 5, 8, .inr (.inr (.inr (.inr (va_up (va_up (va_up (va_up (va_up (va_up (va_up (fun _ => none) 0 (some (b + 23))) 1 (some (b + 27))) 2 (some (b + 31))) 3 (some (b + 35))) 4 (some (b + 39))) 5 (some (b + 43))) 6 (some (b + 47))))))))] ++ hr_oX4 G (b + 5)) ++ hr_oX4 G (b + 14)) ++ hr_oX6 G (b + 23)) ++ hr_oX6 G (b + 27)) ++ hr_oX6 G (b + 31)) ++ hr_oX6 G (b + 35)) ++ hr_oX6 G (b + 39)) ++ hr_oX6 G (b + 43)) ++ hr_oX6 G (b + 47))
def hr_sX8_15 (G : PG) (b : Nat) : va_W := (((((((((([(b, .inr (7, [.ref (b + 1), .int 0, .int 0, .int (-1), .ref (b + 2), .ref (b + 3), .ref (b + 4)])), (b + 1, .inl (G.2.1 0, 600, .inl fun _ => 0)), (b + 2, .inl (G.2.1 1, 5, .inl fun _ => 0)), (b + 3, .inl (G.2.1 4, 2, .inr (.inr (.inr (.inr (va_up (va_up (fun _ => none) 0 (some (b + 5))) 1 (some (b + 14)))))))), (b + 4, .inl (G.2.1 5, 8, .inr (.inr (.inr (.inr (va_up (va_up (va_up (va_up (va_up (va_up (va_up (va_up (fun _ => none) 0 (some (b + 23))) 1 (some (b + 27))) 2 (some (b + 31))) 3 (some (b + 35))) 4 (some (b + 39))) 5 (some (b + 43))) 6 (some (b + 47))) 7 (some (b + 51))))))))] ++ hr_oX4 G (b + 5)) ++ hr_oX4 G (b + 14)) ++ hr_oX6 G (b + 23)) ++ hr_oX6 G (b + 27)) ++ hr_oX6 G (b + 31)) ++ hr_oX6 G (b + 35)) ++ hr_oX6 G (b + 39)) ++ hr_oX6 G (b + 43)) ++ hr_oX6 G (b + 47)) ++ hr_oX6 G (b + 51))
def hr_oX8 (G : PG) (b : Nat) : va_W := (((((((((([(b, .inr (7, [.ref (b + 1), .int 0, .int 0, .int (-1), .ref (b + 2), .ref (b + 3), .ref (b + 4)])), (b + 1, .inl (G.2.1 0, 600, .inl fun _ => 0)), (b + 2, .inl (G.2.1 1, 5, .inl fun _ => 0)), (b + 3, .inl (G.2.1 4, 2, .inr (.inr (.inr (.inr (va_up (va_up (fun _ => none) 0 (some (b + 5))) 1 (some (b + 14)))))))), (b + 4, .inl (G.2.1 5, 8, .inr (.inr (.inr (.inr (va_up (va_up (va_up (va_up (va_up (va_up (va_up (va_up (fun _ => none) 0 (some (b + 23))) 1 (some (b + 27))) 2 (some (b + 31))) 3 (some (b + 35))) 4 (some (b + 39))) 5 (some (b + 43))) 6 (some (b + 47))) 7 (some (b + 51))))))))] ++ hr_oX4 G (b + 5)) ++ hr_oX4 G (b + 14)) ++ hr_oX6 G (b + 23)) ++ hr_oX6 G (b + 27)) ++ hr_oX6 G (b + 31)) ++ hr_oX6 G (b + 35)) ++ hr_oX6 G (b + 39)) ++ hr_oX6 G (b + 43)) ++ hr_oX6 G (b + 47)) ++ hr_oX6 G (b + 51))
set_option maxHeartbeats 4000000 in
set_option maxRecDepth 8000 in
theorem hr_iX8 {l : Launch} {G : PG} {b : Nat} : hr_Bt2 l G yX8_init cX8_init 2 2 54 2177 b 7 hr_dX8 (hr_oX8 G b) := by
  refine hr_Bof2 (o := 8) (by decide +kernel) rfl rfl ?_
  intro p e s mi below meth c A hAO hr hlk hsz hP
  have hx := A.1
  have hb := A.2.1
  have hw := A.2.2.2.1
  have hl := lv_entry [Value.ref b] (n := 2) (Nat.le_of_ble_eq_true rfl)
  have hS := va_S.rf (A := fun y => b ≤ y) (H0 := s.heap)
  have hr0 := hr_row1 b (.inr (7, hr_dX8))
  refine lv_aload_n hx hb (show decode cX8_init 0 = .ok (.aload_n 0, 1) by decide +kernel) rfl (lv_at hl 0 rfl) ?_
  refine W.objInit hx hb A.2.2.2.2.1 (hw _ hr_v32) (hw _ hr_w25) (hw _ hr_w26) rfl A.2.2.1.symm rfl (show decode cX8_init 1 = .ok (.invokespecial 3, 3) by decide +kernel) (Nat.le_of_ble_eq_true rfl) (Nat.le_of_ble_eq_true rfl) ?_
  refine lv_aload_n hx hb (show decode cX8_init 4 = .ok (.aload_n 0, 1) by decide +kernel) rfl (lv_at hl 0 rfl) ?_
  refine lv_sipush (v := 600) hx hb (show decode cX8_init 5 = .ok (.sipush 600, 3) by decide +kernel) (by decide) ?_
  refine hr_bnewa A (t := .byte) hr_w85 0 rfl hP hr0.D hr0 hS (by omega) (by rw [hsz]; exact Nat.le_refl _) (N' := 600) (a0 := (600, .inl fun _ => 0)) (fun cA => rfl) (by decide +kernel) (by decide +kernel) (by decide +kernel) (Nat.le_of_ble_eq_true rfl) (Nat.le_of_ble_eq_true rfl) (show decode cX8_init 8 = .ok (.newarray .byte, 2) by decide +kernel) (fun H1 hP hD hS => ?_)
  have hr0 := hr0.push (x := .inl (G.2.1 0, 600, .inl fun _ => 0)) rfl
  refine hr_bput A (show hr_fl 8 9 = some (7, 0, (hr_fl 8 9).get!.2.2) by decide +kernel) (by decide) hP hr0.D hS 0 rfl (Nat.le_of_ble_eq_true rfl) (ty := .array .byte) (by decide +kernel) rfl rfl (by decide +kernel) (show decode cX8_init 10 = .ok (.putfield 9, 3) by decide +kernel) (fun H2 L2 hP hD hS => ?_)
  have hr0 := hr0.set (k := 0) (x := .inr (7, [.ref (b + 1), .int 0, .int 0, .int 0, .null, .null, .null])) rfl
  have hP : va_P G.1 vwCl (hr_sX8_1 G b) _ := hP
  have hr0 : hr_row b (hr_sX8_1 G b) := hr0
  refine lv_aload_n hx hb (show decode cX8_init 13 = .ok (.aload_n 0, 1) by decide +kernel) rfl (lv_at hl 0 rfl) ?_
  refine lv_iconst (v := (-1)) hx hb (show decode cX8_init 14 = .ok (.iconst (-1), 1) by decide +kernel) (by decide) ?_
  refine hr_bput A (show hr_fl 8 15 = some (7, 3, (hr_fl 8 15).get!.2.2) by decide +kernel) (by decide) hP hr0.D hS 0 rfl (Nat.le_of_ble_eq_true rfl) (ty := .int) (by decide +kernel) rfl rfl (by decide +kernel) (show decode cX8_init 15 = .ok (.putfield 15, 3) by decide +kernel) (fun H3 L3 hP hD hS => ?_)
  have hr0 := hr0.set (k := 0) (x := .inr (7, [.ref (b + 1), .int 0, .int 0, .int (-1), .null, .null, .null])) rfl
  have hP : va_P G.1 vwCl (hr_sX8_2 G b) _ := hP
  have hr0 : hr_row b (hr_sX8_2 G b) := hr0
  refine lv_aload_n hx hb (show decode cX8_init 18 = .ok (.aload_n 0, 1) by decide +kernel) rfl (lv_at hl 0 rfl) ?_
  refine lv_iconst (v := 5) hx hb (show decode cX8_init 19 = .ok (.iconst 5, 1) by decide +kernel) (by decide) ?_
  refine hr_bnewa A (t := .int) hr_w86 1 rfl hP hr0.D hr0 hS (by omega) (by rw [hsz]; exact Nat.le_refl _) (N' := 5) (a0 := (5, .inl fun _ => 0)) (fun cA => rfl) (by decide +kernel) (by decide +kernel) (by decide +kernel) (Nat.le_of_ble_eq_true rfl) (Nat.le_of_ble_eq_true rfl) (show decode cX8_init 20 = .ok (.newarray .int, 2) by decide +kernel) (fun H4 hP hD hS => ?_)
  have hr0 := hr0.push (x := .inl (G.2.1 1, 5, .inl fun _ => 0)) rfl
  refine hr_bput A (show hr_fl 8 19 = some (7, 4, (hr_fl 8 19).get!.2.2) by decide +kernel) (by decide) hP hr0.D hS 0 rfl (Nat.le_of_ble_eq_true rfl) (ty := .array .int) (by decide +kernel) rfl rfl (by decide +kernel) (show decode cX8_init 22 = .ok (.putfield 19, 3) by decide +kernel) (fun H5 L5 hP hD hS => ?_)
  have hr0 := hr0.set (k := 0) (x := .inr (7, [.ref (b + 1), .int 0, .int 0, .int (-1), .ref (b + 2), .null, .null])) rfl
  have hP : va_P G.1 vwCl (hr_sX8_3 G b) _ := hP
  have hr0 : hr_row b (hr_sX8_3 G b) := hr0
  refine lv_aload_n hx hb (show decode cX8_init 25 = .ok (.aload_n 0, 1) by decide +kernel) rfl (lv_at hl 0 rfl) ?_
  refine lv_iconst (v := 2) hx hb (show decode cX8_init 26 = .ok (.iconst 2, 1) by decide +kernel) (by decide) ?_
  refine hr_banew A (t0 := 4) hr_v33 hAO.1 rfl (a := b + 3) rfl hP hr0 hS (by omega) (by rw [hsz]; exact Nat.le_refl _) (N' := 2) (by decide) (by decide) (by decide) (Nat.le_of_ble_eq_true rfl) (Nat.le_of_ble_eq_true rfl) (show decode cX8_init 27 = .ok (.anewarray 23, 3) by decide +kernel) (fun H6 hP hr0 hS => ?_)
  refine hr_bput A (show hr_fl 8 25 = some (7, 5, (hr_fl 8 25).get!.2.2) by decide +kernel) (by decide) hP hr0.D hS 0 rfl (Nat.le_of_ble_eq_true rfl) (ty := .array (.object RX4)) (by decide +kernel) rfl rfl (by decide +kernel) (show decode cX8_init 30 = .ok (.putfield 25, 3) by decide +kernel) (fun H7 L7 hP hD hS => ?_)
  have hr0 := hr0.set (k := 0) (x := .inr (7, [.ref (b + 1), .int 0, .int 0, .int (-1), .ref (b + 2), .ref (b + 3), .null])) rfl
  have hP : va_P G.1 vwCl (hr_sX8_4 G b) _ := hP
  have hr0 : hr_row b (hr_sX8_4 G b) := hr0
  refine lv_aload_n hx hb (show decode cX8_init 33 = .ok (.aload_n 0, 1) by decide +kernel) rfl (lv_at hl 0 rfl) ?_
  refine lv_bipush (v := 8) hx hb (show decode cX8_init 34 = .ok (.bipush 8, 2) by decide +kernel) (by decide) ?_
  refine hr_banew A (t0 := 5) hr_v35 hAO.2.1 rfl (a := b + 4) rfl hP hr0 hS (by omega) (by rw [hsz]; exact Nat.le_refl _) (N' := 8) (by decide) (by decide) (by decide) (Nat.le_of_ble_eq_true rfl) (Nat.le_of_ble_eq_true rfl) (show decode cX8_init 36 = .ok (.anewarray 29, 3) by decide +kernel) (fun H8 hP hr0 hS => ?_)
  refine hr_bput A (show hr_fl 8 31 = some (7, 6, (hr_fl 8 31).get!.2.2) by decide +kernel) (by decide) hP hr0.D hS 0 rfl (Nat.le_of_ble_eq_true rfl) (ty := .array (.object RX6)) (by decide +kernel) rfl rfl (by decide +kernel) (show decode cX8_init 39 = .ok (.putfield 31, 3) by decide +kernel) (fun H9 L9 hP hD hS => ?_)
  have hr0 := hr0.set (k := 0) (x := .inr (7, [.ref (b + 1), .int 0, .int 0, .int (-1), .ref (b + 2), .ref (b + 3), .ref (b + 4)])) rfl
  have hP : va_P G.1 vwCl (hr_sX8_5 G b) _ := hP
  have hr0 : hr_row b (hr_sX8_5 G b) := hr0
  refine lv_iconst (v := 0) hx hb (show decode cX8_init 42 = .ok (.iconst 0, 1) by decide +kernel) (by decide) ?_
  refine lv_istore_n (lv' := [(1, .int 0), (0, .ref b)]) hx hb (show decode cX8_init 43 = .ok (.istore_n 1, 1) by decide +kernel) rfl hl (by decide) rfl (fun la1 hl => ?_)
  refine lv_iload_n hx hb (show decode cX8_init 44 = .ok (.iload_n 1, 1) by decide +kernel) rfl (lv_at hl 0 rfl) ?_
  refine lv_iconst (v := 2) hx hb (show decode cX8_init 45 = .ok (.iconst 2, 1) by decide +kernel) (by decide) ?_
  refine lv_icmp_ge hx hb (show decode cX8_init 46 = .ok (.if_icmp .ge 22, 3) by decide +kernel) rfl (fun hz => absurd hz (by decide)) (fun _ => ?_)
  refine lv_aload_n hx hb (show decode cX8_init 49 = .ok (.aload_n 0, 1) by decide +kernel) rfl (lv_at hl 1 rfl) ?_
  refine hr_bget A (show hr_fl 8 25 = some (7, 5, (hr_fl 8 25).get!.2.2) by decide +kernel) (by decide) hP 0 rfl rfl (show decode cX8_init 50 = .ok (.getfield 25, 3) by decide +kernel) ?_
  refine lv_iload_n hx hb (show decode cX8_init 53 = .ok (.iload_n 1, 1) by decide +kernel) rfl (lv_at hl 0 rfl) ?_
  refine hr_bmk A (idxN := 23) (idxI := 35) (a := b + 5) (k := 3) hr_iX4 rfl (by decide) hr_v33 hr_v37 hr_v3 (by decide +kernel) hr_v38 hr_v39 hr_v40 hr_v3 rfl (by decide +kernel) ⟨Nat.le_of_ble_eq_true rfl, Nat.le_of_ble_eq_true rfl⟩ hP hr0 hS (by omega) (by rw [hsz]; exact Nat.le_refl _) (Nat.le_of_ble_eq_true rfl) (Nat.le_of_ble_eq_true rfl) (hr_rX4 G _) rfl (lv_size hl) (Nat.le_of_ble_eq_true rfl) (show decode cX8_init 54 = .ok (.new 23, 3) by decide +kernel) (show decode cX8_init 57 = .ok (.dup, 1) by decide +kernel) (show decode cX8_init 58 = .ok (.invokespecial 35, 3) by decide +kernel) (fun H10 L10 hP hr0 hv hS => ?_)
  refine hr_bast A hP hr0 hS 3 4 _ 3 (by decide) rfl rfl hv (by unfold vp_in; decide +kernel) (show decode cX8_init 61 = .ok (.aastore, 1) by decide +kernel) (fun H11 L11 hP hr0 hS => ?_)
  have hP : va_P G.1 vwCl (hr_sX8_6 G b) _ := hP
  have hr0 : hr_row b (hr_sX8_6 G b) := hr0
  refine lv_iinc (k := 0) (v := 1) (lv' := [(1, .int 1), (0, .ref b)]) hx hb (show decode cX8_init 62 = .ok (.iinc 1 1, 3) by decide +kernel) hl rfl (by decide) (by decide) rfl (fun la2 hl => ?_)
  refine lv_goto hx hb (show decode cX8_init 65 = .ok (.goto (-21), 3) by decide +kernel) (tgt := 44) rfl ?_
  refine lv_iload_n hx hb (show decode cX8_init 44 = .ok (.iload_n 1, 1) by decide +kernel) rfl (lv_at hl 0 rfl) ?_
  refine lv_iconst (v := 2) hx hb (show decode cX8_init 45 = .ok (.iconst 2, 1) by decide +kernel) (by decide) ?_
  refine lv_icmp_ge hx hb (show decode cX8_init 46 = .ok (.if_icmp .ge 22, 3) by decide +kernel) rfl (fun hz => absurd hz (by decide)) (fun _ => ?_)
  refine lv_aload_n hx hb (show decode cX8_init 49 = .ok (.aload_n 0, 1) by decide +kernel) rfl (lv_at hl 1 rfl) ?_
  refine hr_bget A (show hr_fl 8 25 = some (7, 5, (hr_fl 8 25).get!.2.2) by decide +kernel) (by decide) hP 0 rfl rfl (show decode cX8_init 50 = .ok (.getfield 25, 3) by decide +kernel) ?_
  refine lv_iload_n hx hb (show decode cX8_init 53 = .ok (.iload_n 1, 1) by decide +kernel) rfl (lv_at hl 0 rfl) ?_
  refine hr_bmk A (idxN := 23) (idxI := 35) (a := b + 14) (k := 3) hr_iX4 rfl (by decide) hr_v33 hr_v37 hr_v3 (by decide +kernel) hr_v38 hr_v39 hr_v40 hr_v3 rfl (by decide +kernel) ⟨Nat.le_of_ble_eq_true rfl, Nat.le_of_ble_eq_true rfl⟩ hP hr0 hS (by omega) (by rw [hsz]; exact Nat.le_refl _) (Nat.le_of_ble_eq_true rfl) (Nat.le_of_ble_eq_true rfl) (hr_rX4 G _) rfl (lv_size hl) (Nat.le_of_ble_eq_true rfl) (show decode cX8_init 54 = .ok (.new 23, 3) by decide +kernel) (show decode cX8_init 57 = .ok (.dup, 1) by decide +kernel) (show decode cX8_init 58 = .ok (.invokespecial 35, 3) by decide +kernel) (fun H12 L12 hP hr0 hv hS => ?_)
  refine hr_bast A hP hr0 hS 3 4 _ 3 (by decide) rfl rfl hv (by unfold vp_in; decide +kernel) (show decode cX8_init 61 = .ok (.aastore, 1) by decide +kernel) (fun H13 L13 hP hr0 hS => ?_)
  have hP : va_P G.1 vwCl (hr_sX8_7 G b) _ := hP
  have hr0 : hr_row b (hr_sX8_7 G b) := hr0
  refine lv_iinc (k := 0) (v := 2) (lv' := [(1, .int 2), (0, .ref b)]) hx hb (show decode cX8_init 62 = .ok (.iinc 1 1, 3) by decide +kernel) hl rfl (by decide) (by decide) rfl (fun la3 hl => ?_)
  refine lv_goto hx hb (show decode cX8_init 65 = .ok (.goto (-21), 3) by decide +kernel) (tgt := 44) rfl ?_
  refine lv_iload_n hx hb (show decode cX8_init 44 = .ok (.iload_n 1, 1) by decide +kernel) rfl (lv_at hl 0 rfl) ?_
  refine lv_iconst (v := 2) hx hb (show decode cX8_init 45 = .ok (.iconst 2, 1) by decide +kernel) (by decide) ?_
  refine lv_icmp_ge hx hb (show decode cX8_init 46 = .ok (.if_icmp .ge 22, 3) by decide +kernel) rfl (fun _ => ?_) (fun hz => absurd (by decide) hz)
  refine lv_iconst (v := 0) hx hb (show decode cX8_init 68 = .ok (.iconst 0, 1) by decide +kernel) (by decide) ?_
  refine lv_istore_n (lv' := [(1, .int 0), (0, .ref b)]) hx hb (show decode cX8_init 69 = .ok (.istore_n 1, 1) by decide +kernel) rfl hl (by decide) rfl (fun la4 hl => ?_)
  refine lv_iload_n hx hb (show decode cX8_init 70 = .ok (.iload_n 1, 1) by decide +kernel) rfl (lv_at hl 0 rfl) ?_
  refine lv_bipush (v := 8) hx hb (show decode cX8_init 71 = .ok (.bipush 8, 2) by decide +kernel) (by decide) ?_
  refine lv_icmp_ge hx hb (show decode cX8_init 73 = .ok (.if_icmp .ge 22, 3) by decide +kernel) rfl (fun hz => absurd hz (by decide)) (fun _ => ?_)
  refine lv_aload_n hx hb (show decode cX8_init 76 = .ok (.aload_n 0, 1) by decide +kernel) rfl (lv_at hl 1 rfl) ?_
  refine hr_bget A (show hr_fl 8 31 = some (7, 6, (hr_fl 8 31).get!.2.2) by decide +kernel) (by decide) hP 0 rfl rfl (show decode cX8_init 77 = .ok (.getfield 31, 3) by decide +kernel) ?_
  refine lv_iload_n hx hb (show decode cX8_init 80 = .ok (.iload_n 1, 1) by decide +kernel) rfl (lv_at hl 0 rfl) ?_
  refine hr_bmk A (idxN := 29) (idxI := 36) (a := b + 23) (k := 5) hr_iX6 rfl (by decide) hr_v35 hr_v87 hr_v4 (by decide +kernel) hr_v88 hr_v89 hr_v90 hr_v4 rfl (by decide +kernel) ⟨Nat.le_of_ble_eq_true rfl, Nat.le_of_ble_eq_true rfl⟩ hP hr0 hS (by omega) (by rw [hsz]; exact Nat.le_refl _) (Nat.le_of_ble_eq_true rfl) (Nat.le_of_ble_eq_true rfl) (hr_rX6 G _) rfl (lv_size hl) (Nat.le_of_ble_eq_true rfl) (show decode cX8_init 81 = .ok (.new 29, 3) by decide +kernel) (show decode cX8_init 84 = .ok (.dup, 1) by decide +kernel) (show decode cX8_init 85 = .ok (.invokespecial 36, 3) by decide +kernel) (fun H14 L14 hP hr0 hv hS => ?_)
  refine hr_bast A hP hr0 hS 4 5 _ 5 (by decide) rfl rfl hv (by unfold vp_in; decide +kernel) (show decode cX8_init 88 = .ok (.aastore, 1) by decide +kernel) (fun H15 L15 hP hr0 hS => ?_)
  have hP : va_P G.1 vwCl (hr_sX8_8 G b) _ := hP
  have hr0 : hr_row b (hr_sX8_8 G b) := hr0
  refine lv_iinc (k := 0) (v := 1) (lv' := [(1, .int 1), (0, .ref b)]) hx hb (show decode cX8_init 89 = .ok (.iinc 1 1, 3) by decide +kernel) hl rfl (by decide) (by decide) rfl (fun la5 hl => ?_)
  refine lv_goto hx hb (show decode cX8_init 92 = .ok (.goto (-22), 3) by decide +kernel) (tgt := 70) rfl ?_
  refine lv_iload_n hx hb (show decode cX8_init 70 = .ok (.iload_n 1, 1) by decide +kernel) rfl (lv_at hl 0 rfl) ?_
  refine lv_bipush (v := 8) hx hb (show decode cX8_init 71 = .ok (.bipush 8, 2) by decide +kernel) (by decide) ?_
  refine lv_icmp_ge hx hb (show decode cX8_init 73 = .ok (.if_icmp .ge 22, 3) by decide +kernel) rfl (fun hz => absurd hz (by decide)) (fun _ => ?_)
  refine lv_aload_n hx hb (show decode cX8_init 76 = .ok (.aload_n 0, 1) by decide +kernel) rfl (lv_at hl 1 rfl) ?_
  refine hr_bget A (show hr_fl 8 31 = some (7, 6, (hr_fl 8 31).get!.2.2) by decide +kernel) (by decide) hP 0 rfl rfl (show decode cX8_init 77 = .ok (.getfield 31, 3) by decide +kernel) ?_
  refine lv_iload_n hx hb (show decode cX8_init 80 = .ok (.iload_n 1, 1) by decide +kernel) rfl (lv_at hl 0 rfl) ?_
  refine hr_bmk A (idxN := 29) (idxI := 36) (a := b + 27) (k := 5) hr_iX6 rfl (by decide) hr_v35 hr_v87 hr_v4 (by decide +kernel) hr_v88 hr_v89 hr_v90 hr_v4 rfl (by decide +kernel) ⟨Nat.le_of_ble_eq_true rfl, Nat.le_of_ble_eq_true rfl⟩ hP hr0 hS (by omega) (by rw [hsz]; exact Nat.le_refl _) (Nat.le_of_ble_eq_true rfl) (Nat.le_of_ble_eq_true rfl) (hr_rX6 G _) rfl (lv_size hl) (Nat.le_of_ble_eq_true rfl) (show decode cX8_init 81 = .ok (.new 29, 3) by decide +kernel) (show decode cX8_init 84 = .ok (.dup, 1) by decide +kernel) (show decode cX8_init 85 = .ok (.invokespecial 36, 3) by decide +kernel) (fun H16 L16 hP hr0 hv hS => ?_)
  refine hr_bast A hP hr0 hS 4 5 _ 5 (by decide) rfl rfl hv (by unfold vp_in; decide +kernel) (show decode cX8_init 88 = .ok (.aastore, 1) by decide +kernel) (fun H17 L17 hP hr0 hS => ?_)
  have hP : va_P G.1 vwCl (hr_sX8_9 G b) _ := hP
  have hr0 : hr_row b (hr_sX8_9 G b) := hr0
  refine lv_iinc (k := 0) (v := 2) (lv' := [(1, .int 2), (0, .ref b)]) hx hb (show decode cX8_init 89 = .ok (.iinc 1 1, 3) by decide +kernel) hl rfl (by decide) (by decide) rfl (fun la6 hl => ?_)
  refine lv_goto hx hb (show decode cX8_init 92 = .ok (.goto (-22), 3) by decide +kernel) (tgt := 70) rfl ?_
  refine lv_iload_n hx hb (show decode cX8_init 70 = .ok (.iload_n 1, 1) by decide +kernel) rfl (lv_at hl 0 rfl) ?_
  refine lv_bipush (v := 8) hx hb (show decode cX8_init 71 = .ok (.bipush 8, 2) by decide +kernel) (by decide) ?_
  refine lv_icmp_ge hx hb (show decode cX8_init 73 = .ok (.if_icmp .ge 22, 3) by decide +kernel) rfl (fun hz => absurd hz (by decide)) (fun _ => ?_)
  refine lv_aload_n hx hb (show decode cX8_init 76 = .ok (.aload_n 0, 1) by decide +kernel) rfl (lv_at hl 1 rfl) ?_
  refine hr_bget A (show hr_fl 8 31 = some (7, 6, (hr_fl 8 31).get!.2.2) by decide +kernel) (by decide) hP 0 rfl rfl (show decode cX8_init 77 = .ok (.getfield 31, 3) by decide +kernel) ?_
  refine lv_iload_n hx hb (show decode cX8_init 80 = .ok (.iload_n 1, 1) by decide +kernel) rfl (lv_at hl 0 rfl) ?_
  refine hr_bmk A (idxN := 29) (idxI := 36) (a := b + 31) (k := 5) hr_iX6 rfl (by decide) hr_v35 hr_v87 hr_v4 (by decide +kernel) hr_v88 hr_v89 hr_v90 hr_v4 rfl (by decide +kernel) ⟨Nat.le_of_ble_eq_true rfl, Nat.le_of_ble_eq_true rfl⟩ hP hr0 hS (by omega) (by rw [hsz]; exact Nat.le_refl _) (Nat.le_of_ble_eq_true rfl) (Nat.le_of_ble_eq_true rfl) (hr_rX6 G _) rfl (lv_size hl) (Nat.le_of_ble_eq_true rfl) (show decode cX8_init 81 = .ok (.new 29, 3) by decide +kernel) (show decode cX8_init 84 = .ok (.dup, 1) by decide +kernel) (show decode cX8_init 85 = .ok (.invokespecial 36, 3) by decide +kernel) (fun H18 L18 hP hr0 hv hS => ?_)
  refine hr_bast A hP hr0 hS 4 5 _ 5 (by decide) rfl rfl hv (by unfold vp_in; decide +kernel) (show decode cX8_init 88 = .ok (.aastore, 1) by decide +kernel) (fun H19 L19 hP hr0 hS => ?_)
  have hP : va_P G.1 vwCl (hr_sX8_10 G b) _ := hP
  have hr0 : hr_row b (hr_sX8_10 G b) := hr0
  refine lv_iinc (k := 0) (v := 3) (lv' := [(1, .int 3), (0, .ref b)]) hx hb (show decode cX8_init 89 = .ok (.iinc 1 1, 3) by decide +kernel) hl rfl (by decide) (by decide) rfl (fun la7 hl => ?_)
  refine lv_goto hx hb (show decode cX8_init 92 = .ok (.goto (-22), 3) by decide +kernel) (tgt := 70) rfl ?_
  refine lv_iload_n hx hb (show decode cX8_init 70 = .ok (.iload_n 1, 1) by decide +kernel) rfl (lv_at hl 0 rfl) ?_
  refine lv_bipush (v := 8) hx hb (show decode cX8_init 71 = .ok (.bipush 8, 2) by decide +kernel) (by decide) ?_
  refine lv_icmp_ge hx hb (show decode cX8_init 73 = .ok (.if_icmp .ge 22, 3) by decide +kernel) rfl (fun hz => absurd hz (by decide)) (fun _ => ?_)
  refine lv_aload_n hx hb (show decode cX8_init 76 = .ok (.aload_n 0, 1) by decide +kernel) rfl (lv_at hl 1 rfl) ?_
  refine hr_bget A (show hr_fl 8 31 = some (7, 6, (hr_fl 8 31).get!.2.2) by decide +kernel) (by decide) hP 0 rfl rfl (show decode cX8_init 77 = .ok (.getfield 31, 3) by decide +kernel) ?_
  refine lv_iload_n hx hb (show decode cX8_init 80 = .ok (.iload_n 1, 1) by decide +kernel) rfl (lv_at hl 0 rfl) ?_
  refine hr_bmk A (idxN := 29) (idxI := 36) (a := b + 35) (k := 5) hr_iX6 rfl (by decide) hr_v35 hr_v87 hr_v4 (by decide +kernel) hr_v88 hr_v89 hr_v90 hr_v4 rfl (by decide +kernel) ⟨Nat.le_of_ble_eq_true rfl, Nat.le_of_ble_eq_true rfl⟩ hP hr0 hS (by omega) (by rw [hsz]; exact Nat.le_refl _) (Nat.le_of_ble_eq_true rfl) (Nat.le_of_ble_eq_true rfl) (hr_rX6 G _) rfl (lv_size hl) (Nat.le_of_ble_eq_true rfl) (show decode cX8_init 81 = .ok (.new 29, 3) by decide +kernel) (show decode cX8_init 84 = .ok (.dup, 1) by decide +kernel) (show decode cX8_init 85 = .ok (.invokespecial 36, 3) by decide +kernel) (fun H20 L20 hP hr0 hv hS => ?_)
  refine hr_bast A hP hr0 hS 4 5 _ 5 (by decide) rfl rfl hv (by unfold vp_in; decide +kernel) (show decode cX8_init 88 = .ok (.aastore, 1) by decide +kernel) (fun H21 L21 hP hr0 hS => ?_)
  have hP : va_P G.1 vwCl (hr_sX8_11 G b) _ := hP
  have hr0 : hr_row b (hr_sX8_11 G b) := hr0
  refine lv_iinc (k := 0) (v := 4) (lv' := [(1, .int 4), (0, .ref b)]) hx hb (show decode cX8_init 89 = .ok (.iinc 1 1, 3) by decide +kernel) hl rfl (by decide) (by decide) rfl (fun la8 hl => ?_)
  refine lv_goto hx hb (show decode cX8_init 92 = .ok (.goto (-22), 3) by decide +kernel) (tgt := 70) rfl ?_
  refine lv_iload_n hx hb (show decode cX8_init 70 = .ok (.iload_n 1, 1) by decide +kernel) rfl (lv_at hl 0 rfl) ?_
  refine lv_bipush (v := 8) hx hb (show decode cX8_init 71 = .ok (.bipush 8, 2) by decide +kernel) (by decide) ?_
  refine lv_icmp_ge hx hb (show decode cX8_init 73 = .ok (.if_icmp .ge 22, 3) by decide +kernel) rfl (fun hz => absurd hz (by decide)) (fun _ => ?_)
  refine lv_aload_n hx hb (show decode cX8_init 76 = .ok (.aload_n 0, 1) by decide +kernel) rfl (lv_at hl 1 rfl) ?_
  refine hr_bget A (show hr_fl 8 31 = some (7, 6, (hr_fl 8 31).get!.2.2) by decide +kernel) (by decide) hP 0 rfl rfl (show decode cX8_init 77 = .ok (.getfield 31, 3) by decide +kernel) ?_
  refine lv_iload_n hx hb (show decode cX8_init 80 = .ok (.iload_n 1, 1) by decide +kernel) rfl (lv_at hl 0 rfl) ?_
  refine hr_bmk A (idxN := 29) (idxI := 36) (a := b + 39) (k := 5) hr_iX6 rfl (by decide) hr_v35 hr_v87 hr_v4 (by decide +kernel) hr_v88 hr_v89 hr_v90 hr_v4 rfl (by decide +kernel) ⟨Nat.le_of_ble_eq_true rfl, Nat.le_of_ble_eq_true rfl⟩ hP hr0 hS (by omega) (by rw [hsz]; exact Nat.le_refl _) (Nat.le_of_ble_eq_true rfl) (Nat.le_of_ble_eq_true rfl) (hr_rX6 G _) rfl (lv_size hl) (Nat.le_of_ble_eq_true rfl) (show decode cX8_init 81 = .ok (.new 29, 3) by decide +kernel) (show decode cX8_init 84 = .ok (.dup, 1) by decide +kernel) (show decode cX8_init 85 = .ok (.invokespecial 36, 3) by decide +kernel) (fun H22 L22 hP hr0 hv hS => ?_)
  refine hr_bast A hP hr0 hS 4 5 _ 5 (by decide) rfl rfl hv (by unfold vp_in; decide +kernel) (show decode cX8_init 88 = .ok (.aastore, 1) by decide +kernel) (fun H23 L23 hP hr0 hS => ?_)
  have hP : va_P G.1 vwCl (hr_sX8_12 G b) _ := hP
  have hr0 : hr_row b (hr_sX8_12 G b) := hr0
  refine lv_iinc (k := 0) (v := 5) (lv' := [(1, .int 5), (0, .ref b)]) hx hb (show decode cX8_init 89 = .ok (.iinc 1 1, 3) by decide +kernel) hl rfl (by decide) (by decide) rfl (fun la9 hl => ?_)
  refine lv_goto hx hb (show decode cX8_init 92 = .ok (.goto (-22), 3) by decide +kernel) (tgt := 70) rfl ?_
  refine lv_iload_n hx hb (show decode cX8_init 70 = .ok (.iload_n 1, 1) by decide +kernel) rfl (lv_at hl 0 rfl) ?_
  refine lv_bipush (v := 8) hx hb (show decode cX8_init 71 = .ok (.bipush 8, 2) by decide +kernel) (by decide) ?_
  refine lv_icmp_ge hx hb (show decode cX8_init 73 = .ok (.if_icmp .ge 22, 3) by decide +kernel) rfl (fun hz => absurd hz (by decide)) (fun _ => ?_)
  refine lv_aload_n hx hb (show decode cX8_init 76 = .ok (.aload_n 0, 1) by decide +kernel) rfl (lv_at hl 1 rfl) ?_
  refine hr_bget A (show hr_fl 8 31 = some (7, 6, (hr_fl 8 31).get!.2.2) by decide +kernel) (by decide) hP 0 rfl rfl (show decode cX8_init 77 = .ok (.getfield 31, 3) by decide +kernel) ?_
  refine lv_iload_n hx hb (show decode cX8_init 80 = .ok (.iload_n 1, 1) by decide +kernel) rfl (lv_at hl 0 rfl) ?_
  refine hr_bmk A (idxN := 29) (idxI := 36) (a := b + 43) (k := 5) hr_iX6 rfl (by decide) hr_v35 hr_v87 hr_v4 (by decide +kernel) hr_v88 hr_v89 hr_v90 hr_v4 rfl (by decide +kernel) ⟨Nat.le_of_ble_eq_true rfl, Nat.le_of_ble_eq_true rfl⟩ hP hr0 hS (by omega) (by rw [hsz]; exact Nat.le_refl _) (Nat.le_of_ble_eq_true rfl) (Nat.le_of_ble_eq_true rfl) (hr_rX6 G _) rfl (lv_size hl) (Nat.le_of_ble_eq_true rfl) (show decode cX8_init 81 = .ok (.new 29, 3) by decide +kernel) (show decode cX8_init 84 = .ok (.dup, 1) by decide +kernel) (show decode cX8_init 85 = .ok (.invokespecial 36, 3) by decide +kernel) (fun H24 L24 hP hr0 hv hS => ?_)
  refine hr_bast A hP hr0 hS 4 5 _ 5 (by decide) rfl rfl hv (by unfold vp_in; decide +kernel) (show decode cX8_init 88 = .ok (.aastore, 1) by decide +kernel) (fun H25 L25 hP hr0 hS => ?_)
  have hP : va_P G.1 vwCl (hr_sX8_13 G b) _ := hP
  have hr0 : hr_row b (hr_sX8_13 G b) := hr0
  refine lv_iinc (k := 0) (v := 6) (lv' := [(1, .int 6), (0, .ref b)]) hx hb (show decode cX8_init 89 = .ok (.iinc 1 1, 3) by decide +kernel) hl rfl (by decide) (by decide) rfl (fun la10 hl => ?_)
  refine lv_goto hx hb (show decode cX8_init 92 = .ok (.goto (-22), 3) by decide +kernel) (tgt := 70) rfl ?_
  refine lv_iload_n hx hb (show decode cX8_init 70 = .ok (.iload_n 1, 1) by decide +kernel) rfl (lv_at hl 0 rfl) ?_
  refine lv_bipush (v := 8) hx hb (show decode cX8_init 71 = .ok (.bipush 8, 2) by decide +kernel) (by decide) ?_
  refine lv_icmp_ge hx hb (show decode cX8_init 73 = .ok (.if_icmp .ge 22, 3) by decide +kernel) rfl (fun hz => absurd hz (by decide)) (fun _ => ?_)
  refine lv_aload_n hx hb (show decode cX8_init 76 = .ok (.aload_n 0, 1) by decide +kernel) rfl (lv_at hl 1 rfl) ?_
  refine hr_bget A (show hr_fl 8 31 = some (7, 6, (hr_fl 8 31).get!.2.2) by decide +kernel) (by decide) hP 0 rfl rfl (show decode cX8_init 77 = .ok (.getfield 31, 3) by decide +kernel) ?_
  refine lv_iload_n hx hb (show decode cX8_init 80 = .ok (.iload_n 1, 1) by decide +kernel) rfl (lv_at hl 0 rfl) ?_
  refine hr_bmk A (idxN := 29) (idxI := 36) (a := b + 47) (k := 5) hr_iX6 rfl (by decide) hr_v35 hr_v87 hr_v4 (by decide +kernel) hr_v88 hr_v89 hr_v90 hr_v4 rfl (by decide +kernel) ⟨Nat.le_of_ble_eq_true rfl, Nat.le_of_ble_eq_true rfl⟩ hP hr0 hS (by omega) (by rw [hsz]; exact Nat.le_refl _) (Nat.le_of_ble_eq_true rfl) (Nat.le_of_ble_eq_true rfl) (hr_rX6 G _) rfl (lv_size hl) (Nat.le_of_ble_eq_true rfl) (show decode cX8_init 81 = .ok (.new 29, 3) by decide +kernel) (show decode cX8_init 84 = .ok (.dup, 1) by decide +kernel) (show decode cX8_init 85 = .ok (.invokespecial 36, 3) by decide +kernel) (fun H26 L26 hP hr0 hv hS => ?_)
  refine hr_bast A hP hr0 hS 4 5 _ 5 (by decide) rfl rfl hv (by unfold vp_in; decide +kernel) (show decode cX8_init 88 = .ok (.aastore, 1) by decide +kernel) (fun H27 L27 hP hr0 hS => ?_)
  have hP : va_P G.1 vwCl (hr_sX8_14 G b) _ := hP
  have hr0 : hr_row b (hr_sX8_14 G b) := hr0
  refine lv_iinc (k := 0) (v := 7) (lv' := [(1, .int 7), (0, .ref b)]) hx hb (show decode cX8_init 89 = .ok (.iinc 1 1, 3) by decide +kernel) hl rfl (by decide) (by decide) rfl (fun la11 hl => ?_)
  refine lv_goto hx hb (show decode cX8_init 92 = .ok (.goto (-22), 3) by decide +kernel) (tgt := 70) rfl ?_
  refine lv_iload_n hx hb (show decode cX8_init 70 = .ok (.iload_n 1, 1) by decide +kernel) rfl (lv_at hl 0 rfl) ?_
  refine lv_bipush (v := 8) hx hb (show decode cX8_init 71 = .ok (.bipush 8, 2) by decide +kernel) (by decide) ?_
  refine lv_icmp_ge hx hb (show decode cX8_init 73 = .ok (.if_icmp .ge 22, 3) by decide +kernel) rfl (fun hz => absurd hz (by decide)) (fun _ => ?_)
  refine lv_aload_n hx hb (show decode cX8_init 76 = .ok (.aload_n 0, 1) by decide +kernel) rfl (lv_at hl 1 rfl) ?_
  refine hr_bget A (show hr_fl 8 31 = some (7, 6, (hr_fl 8 31).get!.2.2) by decide +kernel) (by decide) hP 0 rfl rfl (show decode cX8_init 77 = .ok (.getfield 31, 3) by decide +kernel) ?_
  refine lv_iload_n hx hb (show decode cX8_init 80 = .ok (.iload_n 1, 1) by decide +kernel) rfl (lv_at hl 0 rfl) ?_
  refine hr_bmk A (idxN := 29) (idxI := 36) (a := b + 51) (k := 5) hr_iX6 rfl (by decide) hr_v35 hr_v87 hr_v4 (by decide +kernel) hr_v88 hr_v89 hr_v90 hr_v4 rfl (by decide +kernel) ⟨Nat.le_of_ble_eq_true rfl, Nat.le_of_ble_eq_true rfl⟩ hP hr0 hS (by omega) (by rw [hsz]; exact Nat.le_refl _) (Nat.le_of_ble_eq_true rfl) (Nat.le_of_ble_eq_true rfl) (hr_rX6 G _) rfl (lv_size hl) (Nat.le_of_ble_eq_true rfl) (show decode cX8_init 81 = .ok (.new 29, 3) by decide +kernel) (show decode cX8_init 84 = .ok (.dup, 1) by decide +kernel) (show decode cX8_init 85 = .ok (.invokespecial 36, 3) by decide +kernel) (fun H28 L28 hP hr0 hv hS => ?_)
  refine hr_bast A hP hr0 hS 4 5 _ 5 (by decide) rfl rfl hv (by unfold vp_in; decide +kernel) (show decode cX8_init 88 = .ok (.aastore, 1) by decide +kernel) (fun H29 L29 hP hr0 hS => ?_)
  have hP : va_P G.1 vwCl (hr_sX8_15 G b) _ := hP
  have hr0 : hr_row b (hr_sX8_15 G b) := hr0
  refine lv_iinc (k := 0) (v := 8) (lv' := [(1, .int 8), (0, .ref b)]) hx hb (show decode cX8_init 89 = .ok (.iinc 1 1, 3) by decide +kernel) hl rfl (by decide) (by decide) rfl (fun la12 hl => ?_)
  refine lv_goto hx hb (show decode cX8_init 92 = .ok (.goto (-22), 3) by decide +kernel) (tgt := 70) rfl ?_
  refine lv_iload_n hx hb (show decode cX8_init 70 = .ok (.iload_n 1, 1) by decide +kernel) rfl (lv_at hl 0 rfl) ?_
  refine lv_bipush (v := 8) hx hb (show decode cX8_init 71 = .ok (.bipush 8, 2) by decide +kernel) (by decide) ?_
  refine lv_icmp_ge hx hb (show decode cX8_init 73 = .ok (.if_icmp .ge 22, 3) by decide +kernel) rfl (fun _ => ?_) (fun hz => absurd (by decide) hz)
  exact W.vret hx hb hr (fun t ht _ => ⟨rfl, by rw [ht]; exact hP, fun q hq => by rw [ht]; exact hS.2.1 q (by omega) (by omega)⟩) hS.2.2 (show decode cX8_init 95 = .ok (.return_, 1) by decide +kernel) hlk
set_option maxRecDepth 8000 in
theorem hr_rX8 (G : PG) (b : Nat) : hr_row b (hr_oX8 G b) := hr_rowL rfl
