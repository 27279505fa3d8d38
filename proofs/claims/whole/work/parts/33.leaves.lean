/-! leaf constructors, printed by gen32.py -/
theorem hr_w85 : Jvm.Cond.arrayClass .byte ∈ hr_GT := hr_iT (i := 85) ⟨by decide +kernel, by decide +kernel⟩
theorem hr_w225 : Jvm.Cond.arrayClass .boolean ∈ hr_GT := hr_iT (i := 225) ⟨by decide +kernel, by decide +kernel⟩
theorem hr_w423 : Jvm.Cond.arrayClass .long ∈ hr_GT := hr_iT (i := 423) ⟨by decide +kernel, by decide +kernel⟩
theorem hr_w331 : Jvm.Cond.methodLink (hr_cn 0) 3 Lib.objectInit ∈ hr_GT := hr_iT (i := 331) ⟨by decide +kernel, by decide +kernel⟩
def hr_dX0 : List Value := [.null, .null, .null, .null, .null, .null, .int 0, .int 0, .int 0, .int 0]
def hr_oX0 (G : PG) (b : Nat) : va_W := [(b, .inr (0, [.ref (b + 1), .ref (b + 2), .ref (b + 3), .ref (b + 4), .ref (b + 5), .ref (b + 6), .int 0, .int 0, .int 0, .int 0])), (b + 1, .inl (G.2.1 1, 90, .inl fun _ => 0)), (b + 2, .inl (G.2.1 1, 9, .inl fun _ => 0)), (b + 3, .inl (G.2.1 3, 1000, .inl fun _ => 0)), (b + 4, .inl (G.2.1 1, 1001, .inl fun _ => 0)), (b + 5, .inl (G.2.1 1, 1001, .inl fun _ => 0)), (b + 6, .inl (G.2.1 1, 1001, .inl fun _ => 0))]
set_option maxRecDepth 8000 in
theorem hr_iX0 {l : Launch} {G : PG} {b : Nat} : hr_Bt l G yX0_init cX0_init 1 1 6 4102 b 0 hr_dX0 (hr_oX0 G b) := by
  refine hr_Bof (o := 0) (by decide +kernel) rfl rfl ?_
  intro p e s mi below meth c A hr hlk hsz hP
  have hx := A.1
  have hb := A.2.1
  have hw := A.2.2.2.1
  refine lv_aload_n hx hb (show decode cX0_init 0 = .ok (.aload_n 0, 1) by decide +kernel) rfl rfl ?_
  refine W.objInit hx hb A.2.2.2.2.1 (hw _ hr_w331) (hw _ hr_w25) (hw _ hr_w26) rfl A.2.2.1.symm rfl (show decode cX0_init 1 = .ok (.invokespecial 3, 3) by decide +kernel) (Nat.le_of_ble_eq_true rfl) (Nat.le_of_ble_eq_true rfl) ?_
  refine lv_aload_n hx hb (show decode cX0_init 4 = .ok (.aload_n 0, 1) by decide +kernel) rfl rfl ?_
  refine lv_bipush hx hb (show decode cX0_init 5 = .ok (.bipush 90, 2) by decide +kernel) rfl ?_
  refine hr_bnewa A (t := .int) hr_w86 1 rfl hP (hr_D1 _ _) (hr_row1 _ _) va_S.rf (by omega) (by rw [hsz]; exact Nat.le_refl _) (N' := 90) (a0 := (90, .inl fun _ => 0)) (fun cA => rfl) (by decide +kernel) (by decide +kernel) (by decide +kernel) (by decide +kernel) (by decide +kernel) (show decode cX0_init 7 = .ok (.newarray .int, 2) by decide +kernel) (fun H1 hP hD hS => ?_)
  refine hr_bput A (show hr_fl 0 9 = some (0, 0, (hr_fl 0 9).get!.2.2) by decide +kernel) (by decide) hP hD hS 0 rfl (Nat.le_of_ble_eq_true rfl) (ty := .array .int) (by decide +kernel) rfl rfl (by decide +kernel) (show decode cX0_init 9 = .ok (.putfield 9, 3) by decide +kernel) (fun H2 L2 hP hD hS => ?_)
  refine lv_aload_n hx hb (show decode cX0_init 12 = .ok (.aload_n 0, 1) by decide +kernel) rfl rfl ?_
  refine lv_bipush hx hb (show decode cX0_init 13 = .ok (.bipush 9, 2) by decide +kernel) rfl ?_
  refine hr_bnewa A (t := .int) hr_w86 1 rfl hP hD (((hr_row1 _ _).push rfl).set rfl) hS (by omega) (by rw [hsz]; exact Nat.le_refl _) (N' := 9) (a0 := (9, .inl fun _ => 0)) (fun cA => rfl) (by decide +kernel) (by decide +kernel) (by decide +kernel) (by decide +kernel) (by decide +kernel) (show decode cX0_init 15 = .ok (.newarray .int, 2) by decide +kernel) (fun H3 hP hD hS => ?_)
  refine hr_bput A (show hr_fl 0 15 = some (0, 1, (hr_fl 0 15).get!.2.2) by decide +kernel) (by decide) hP hD hS 0 rfl (Nat.le_of_ble_eq_true rfl) (ty := .array .int) (by decide +kernel) rfl rfl (by decide +kernel) (show decode cX0_init 17 = .ok (.putfield 15, 3) by decide +kernel) (fun H4 L4 hP hD hS => ?_)
  refine lv_aload_n hx hb (show decode cX0_init 20 = .ok (.aload_n 0, 1) by decide +kernel) rfl rfl ?_
  refine lv_sipush hx hb (show decode cX0_init 21 = .ok (.sipush 1000, 3) by decide +kernel) rfl ?_
  refine hr_bnewa A (t := .boolean) hr_w225 3 rfl hP hD (((((hr_row1 _ _).push rfl).set rfl).push rfl).set rfl) hS (by omega) (by rw [hsz]; exact Nat.le_refl _) (N' := 1000) (a0 := (1000, .inl fun _ => 0)) (fun cA => rfl) (by decide +kernel) (by decide +kernel) (by decide +kernel) (by decide +kernel) (by decide +kernel) (show decode cX0_init 24 = .ok (.newarray .boolean, 2) by decide +kernel) (fun H5 hP hD hS => ?_)
  refine hr_bput A (show hr_fl 0 18 = some (0, 2, (hr_fl 0 18).get!.2.2) by decide +kernel) (by decide) hP hD hS 0 rfl (Nat.le_of_ble_eq_true rfl) (ty := .array .boolean) (by decide +kernel) rfl rfl (by decide +kernel) (show decode cX0_init 26 = .ok (.putfield 18, 3) by decide +kernel) (fun H6 L6 hP hD hS => ?_)
  refine lv_aload_n hx hb (show decode cX0_init 29 = .ok (.aload_n 0, 1) by decide +kernel) rfl rfl ?_
  refine lv_sipush hx hb (show decode cX0_init 30 = .ok (.sipush 1001, 3) by decide +kernel) rfl ?_
  refine hr_bnewa A (t := .int) hr_w86 1 rfl hP hD (((((((hr_row1 _ _).push rfl).set rfl).push rfl).set rfl).push rfl).set rfl) hS (by omega) (by rw [hsz]; exact Nat.le_refl _) (N' := 1001) (a0 := (1001, .inl fun _ => 0)) (fun cA => rfl) (by decide +kernel) (by decide +kernel) (by decide +kernel) (by decide +kernel) (by decide +kernel) (show decode cX0_init 33 = .ok (.newarray .int, 2) by decide +kernel) (fun H7 hP hD hS => ?_)
  refine hr_bput A (show hr_fl 0 22 = some (0, 3, (hr_fl 0 22).get!.2.2) by decide +kernel) (by decide) hP hD hS 0 rfl (Nat.le_of_ble_eq_true rfl) (ty := .array .int) (by decide +kernel) rfl rfl (by decide +kernel) (show decode cX0_init 35 = .ok (.putfield 22, 3) by decide +kernel) (fun H8 L8 hP hD hS => ?_)
  refine lv_aload_n hx hb (show decode cX0_init 38 = .ok (.aload_n 0, 1) by decide +kernel) rfl rfl ?_
  refine lv_sipush hx hb (show decode cX0_init 39 = .ok (.sipush 1001, 3) by decide +kernel) rfl ?_
  refine hr_bnewa A (t := .int) hr_w86 1 rfl hP hD (((((((((hr_row1 _ _).push rfl).set rfl).push rfl).set rfl).push rfl).set rfl).push rfl).set rfl) hS (by omega) (by rw [hsz]; exact Nat.le_refl _) (N' := 1001) (a0 := (1001, .inl fun _ => 0)) (fun cA => rfl) (by decide +kernel) (by decide +kernel) (by decide +kernel) (by decide +kernel) (by decide +kernel) (show decode cX0_init 42 = .ok (.newarray .int, 2) by decide +kernel) (fun H9 hP hD hS => ?_)
  refine hr_bput A (show hr_fl 0 25 = some (0, 4, (hr_fl 0 25).get!.2.2) by decide +kernel) (by decide) hP hD hS 0 rfl (Nat.le_of_ble_eq_true rfl) (ty := .array .int) (by decide +kernel) rfl rfl (by decide +kernel) (show decode cX0_init 44 = .ok (.putfield 25, 3) by decide +kernel) (fun H10 L10 hP hD hS => ?_)
  refine lv_aload_n hx hb (show decode cX0_init 47 = .ok (.aload_n 0, 1) by decide +kernel) rfl rfl ?_
  refine lv_sipush hx hb (show decode cX0_init 48 = .ok (.sipush 1001, 3) by decide +kernel) rfl ?_
  refine hr_bnewa A (t := .int) hr_w86 1 rfl hP hD (((((((((((hr_row1 _ _).push rfl).set rfl).push rfl).set rfl).push rfl).set rfl).push rfl).set rfl).push rfl).set rfl) hS (by omega) (by rw [hsz]; exact Nat.le_refl _) (N' := 1001) (a0 := (1001, .inl fun _ => 0)) (fun cA => rfl) (by decide +kernel) (by decide +kernel) (by decide +kernel) (by decide +kernel) (by decide +kernel) (show decode cX0_init 51 = .ok (.newarray .int, 2) by decide +kernel) (fun H11 hP hD hS => ?_)
  refine hr_bput A (show hr_fl 0 28 = some (0, 5, (hr_fl 0 28).get!.2.2) by decide +kernel) (by decide) hP hD hS 0 rfl (Nat.le_of_ble_eq_true rfl) (ty := .array .int) (by decide +kernel) rfl rfl (by decide +kernel) (show decode cX0_init 53 = .ok (.putfield 28, 3) by decide +kernel) (fun H12 L12 hP hD hS => ?_)
  exact W.vret hx hb hr (fun t ht _ => ⟨rfl, by rw [ht]; exact hP, fun q hq => by rw [ht]; exact hS.2.1 q (by omega) (by omega)⟩) hS.2.2 (show decode cX0_init 56 = .ok (.return_, 1) by decide +kernel) hlk
theorem hr_w231 : Jvm.Cond.methodLink (hr_cn 1) 3 Lib.objectInit ∈ hr_GT := hr_iT (i := 231) ⟨by decide +kernel, by decide +kernel⟩
def hr_dX1 : List Value := [.int 0, .null, .null, .null, .null, .null, .int 0, .int 0, .int 0, .null, .null, .int 0, .null, .int 0]
def hr_oX1 (G : PG) (b : Nat) : va_W := [(b, .inr (1, [.int 0, .ref (b + 1), .ref (b + 2), .ref (b + 3), .ref (b + 4), .ref (b + 5), .int 0, .int 0, .int (-1), .ref (b + 6), .ref (b + 7), .int 0, .ref (b + 8), .int (-1)])), (b + 1, .inl (G.2.1 1, 10, .inl fun _ => 0)), (b + 2, .inl (G.2.1 1, 10, .inl fun _ => 0)), (b + 3, .inl (G.2.1 1, 10, .inl fun _ => 0)), (b + 4, .inl (G.2.1 1, 10240, .inl fun _ => 0)), (b + 5, .inl (G.2.1 1, 10, .inl fun _ => 0)), (b + 6, .inl (G.2.1 1, 1024, .inl fun _ => 0)), (b + 7, .inl (G.2.1 3, 1024, .inl fun _ => 0)), (b + 8, .inl (G.2.1 1, 10, .inl fun _ => 0))]
set_option maxRecDepth 8000 in
theorem hr_iX1 {l : Launch} {G : PG} {b : Nat} : hr_Bt l G yX1_init cX1_init 1 1 8 12338 b 1 hr_dX1 (hr_oX1 G b) := by
  refine hr_Bof (o := 1) (by decide +kernel) rfl rfl ?_
  intro p e s mi below meth c A hr hlk hsz hP
  have hx := A.1
  have hb := A.2.1
  have hw := A.2.2.2.1
  refine lv_aload_n hx hb (show decode cX1_init 0 = .ok (.aload_n 0, 1) by decide +kernel) rfl rfl ?_
  refine W.objInit hx hb A.2.2.2.2.1 (hw _ hr_w231) (hw _ hr_w25) (hw _ hr_w26) rfl A.2.2.1.symm rfl (show decode cX1_init 1 = .ok (.invokespecial 3, 3) by decide +kernel) (Nat.le_of_ble_eq_true rfl) (Nat.le_of_ble_eq_true rfl) ?_
  refine lv_aload_n hx hb (show decode cX1_init 4 = .ok (.aload_n 0, 1) by decide +kernel) rfl rfl ?_
  refine lv_bipush hx hb (show decode cX1_init 5 = .ok (.bipush 10, 2) by decide +kernel) rfl ?_
  refine hr_bnewa A (t := .int) hr_w86 1 rfl hP (hr_D1 _ _) (hr_row1 _ _) va_S.rf (by omega) (by rw [hsz]; exact Nat.le_refl _) (N' := 10) (a0 := (10, .inl fun _ => 0)) (fun cA => rfl) (by decide +kernel) (by decide +kernel) (by decide +kernel) (by decide +kernel) (by decide +kernel) (show decode cX1_init 7 = .ok (.newarray .int, 2) by decide +kernel) (fun H1 hP hD hS => ?_)
  refine hr_bput A (show hr_fl 1 9 = some (1, 1, (hr_fl 1 9).get!.2.2) by decide +kernel) (by decide) hP hD hS 0 rfl (Nat.le_of_ble_eq_true rfl) (ty := .array .int) (by decide +kernel) rfl rfl (by decide +kernel) (show decode cX1_init 9 = .ok (.putfield 9, 3) by decide +kernel) (fun H2 L2 hP hD hS => ?_)
  refine lv_aload_n hx hb (show decode cX1_init 12 = .ok (.aload_n 0, 1) by decide +kernel) rfl rfl ?_
  refine lv_bipush hx hb (show decode cX1_init 13 = .ok (.bipush 10, 2) by decide +kernel) rfl ?_
  refine hr_bnewa A (t := .int) hr_w86 1 rfl hP hD (((hr_row1 _ _).push rfl).set rfl) hS (by omega) (by rw [hsz]; exact Nat.le_refl _) (N' := 10) (a0 := (10, .inl fun _ => 0)) (fun cA => rfl) (by decide +kernel) (by decide +kernel) (by decide +kernel) (by decide +kernel) (by decide +kernel) (show decode cX1_init 15 = .ok (.newarray .int, 2) by decide +kernel) (fun H3 hP hD hS => ?_)
  refine hr_bput A (show hr_fl 1 15 = some (1, 2, (hr_fl 1 15).get!.2.2) by decide +kernel) (by decide) hP hD hS 0 rfl (Nat.le_of_ble_eq_true rfl) (ty := .array .int) (by decide +kernel) rfl rfl (by decide +kernel) (show decode cX1_init 17 = .ok (.putfield 15, 3) by decide +kernel) (fun H4 L4 hP hD hS => ?_)
  refine lv_aload_n hx hb (show decode cX1_init 20 = .ok (.aload_n 0, 1) by decide +kernel) rfl rfl ?_
  refine lv_bipush hx hb (show decode cX1_init 21 = .ok (.bipush 10, 2) by decide +kernel) rfl ?_
  refine hr_bnewa A (t := .int) hr_w86 1 rfl hP hD (((((hr_row1 _ _).push rfl).set rfl).push rfl).set rfl) hS (by omega) (by rw [hsz]; exact Nat.le_refl _) (N' := 10) (a0 := (10, .inl fun _ => 0)) (fun cA => rfl) (by decide +kernel) (by decide +kernel) (by decide +kernel) (by decide +kernel) (by decide +kernel) (show decode cX1_init 23 = .ok (.newarray .int, 2) by decide +kernel) (fun H5 hP hD hS => ?_)
  refine hr_bput A (show hr_fl 1 18 = some (1, 3, (hr_fl 1 18).get!.2.2) by decide +kernel) (by decide) hP hD hS 0 rfl (Nat.le_of_ble_eq_true rfl) (ty := .array .int) (by decide +kernel) rfl rfl (by decide +kernel) (show decode cX1_init 25 = .ok (.putfield 18, 3) by decide +kernel) (fun H6 L6 hP hD hS => ?_)
  refine lv_aload_n hx hb (show decode cX1_init 28 = .ok (.aload_n 0, 1) by decide +kernel) rfl rfl ?_
  refine lv_sipush hx hb (show decode cX1_init 29 = .ok (.sipush 10240, 3) by decide +kernel) rfl ?_
  refine hr_bnewa A (t := .int) hr_w86 1 rfl hP hD (((((((hr_row1 _ _).push rfl).set rfl).push rfl).set rfl).push rfl).set rfl) hS (by omega) (by rw [hsz]; exact Nat.le_refl _) (N' := 10240) (a0 := (10240, .inl fun _ => 0)) (fun cA => rfl) (by decide +kernel) (by decide +kernel) (by decide +kernel) (by decide +kernel) (by decide +kernel) (show decode cX1_init 32 = .ok (.newarray .int, 2) by decide +kernel) (fun H7 hP hD hS => ?_)
  refine hr_bput A (show hr_fl 1 21 = some (1, 4, (hr_fl 1 21).get!.2.2) by decide +kernel) (by decide) hP hD hS 0 rfl (Nat.le_of_ble_eq_true rfl) (ty := .array .int) (by decide +kernel) rfl rfl (by decide +kernel) (show decode cX1_init 34 = .ok (.putfield 21, 3) by decide +kernel) (fun H8 L8 hP hD hS => ?_)
  refine lv_aload_n hx hb (show decode cX1_init 37 = .ok (.aload_n 0, 1) by decide +kernel) rfl rfl ?_
  refine lv_bipush hx hb (show decode cX1_init 38 = .ok (.bipush 10, 2) by decide +kernel) rfl ?_
  refine hr_bnewa A (t := .int) hr_w86 1 rfl hP hD (((((((((hr_row1 _ _).push rfl).set rfl).push rfl).set rfl).push rfl).set rfl).push rfl).set rfl) hS (by omega) (by rw [hsz]; exact Nat.le_refl _) (N' := 10) (a0 := (10, .inl fun _ => 0)) (fun cA => rfl) (by decide +kernel) (by decide +kernel) (by decide +kernel) (by decide +kernel) (by decide +kernel) (show decode cX1_init 40 = .ok (.newarray .int, 2) by decide +kernel) (fun H9 hP hD hS => ?_)
  refine hr_bput A (show hr_fl 1 24 = some (1, 5, (hr_fl 1 24).get!.2.2) by decide +kernel) (by decide) hP hD hS 0 rfl (Nat.le_of_ble_eq_true rfl) (ty := .array .int) (by decide +kernel) rfl rfl (by decide +kernel) (show decode cX1_init 42 = .ok (.putfield 24, 3) by decide +kernel) (fun H10 L10 hP hD hS => ?_)
  refine lv_aload_n hx hb (show decode cX1_init 45 = .ok (.aload_n 0, 1) by decide +kernel) rfl rfl ?_
  refine lv_iconst hx hb (show decode cX1_init 46 = .ok (.iconst (-1), 1) by decide +kernel) rfl ?_
  refine hr_bput A (show hr_fl 1 27 = some (1, 8, (hr_fl 1 27).get!.2.2) by decide +kernel) (by decide) hP hD hS 0 rfl (Nat.le_of_ble_eq_true rfl) (ty := .int) (by decide +kernel) rfl rfl (by decide +kernel) (show decode cX1_init 47 = .ok (.putfield 27, 3) by decide +kernel) (fun H11 L11 hP hD hS => ?_)
  refine lv_aload_n hx hb (show decode cX1_init 50 = .ok (.aload_n 0, 1) by decide +kernel) rfl rfl ?_
  refine lv_sipush hx hb (show decode cX1_init 51 = .ok (.sipush 1024, 3) by decide +kernel) rfl ?_
  refine hr_bnewa A (t := .int) hr_w86 1 rfl hP hD ((((((((((((hr_row1 _ _).push rfl).set rfl).push rfl).set rfl).push rfl).set rfl).push rfl).set rfl).push rfl).set rfl).set rfl) hS (by omega) (by rw [hsz]; exact Nat.le_refl _) (N' := 1024) (a0 := (1024, .inl fun _ => 0)) (fun cA => rfl) (by decide +kernel) (by decide +kernel) (by decide +kernel) (by decide +kernel) (by decide +kernel) (show decode cX1_init 54 = .ok (.newarray .int, 2) by decide +kernel) (fun H12 hP hD hS => ?_)
  refine hr_bput A (show hr_fl 1 31 = some (1, 9, (hr_fl 1 31).get!.2.2) by decide +kernel) (by decide) hP hD hS 0 rfl (Nat.le_of_ble_eq_true rfl) (ty := .array .int) (by decide +kernel) rfl rfl (by decide +kernel) (show decode cX1_init 56 = .ok (.putfield 31, 3) by decide +kernel) (fun H13 L13 hP hD hS => ?_)
  refine lv_aload_n hx hb (show decode cX1_init 59 = .ok (.aload_n 0, 1) by decide +kernel) rfl rfl ?_
  refine lv_sipush hx hb (show decode cX1_init 60 = .ok (.sipush 1024, 3) by decide +kernel) rfl ?_
  refine hr_bnewa A (t := .boolean) hr_w225 3 rfl hP hD ((((((((((((((hr_row1 _ _).push rfl).set rfl).push rfl).set rfl).push rfl).set rfl).push rfl).set rfl).push rfl).set rfl).set rfl).push rfl).set rfl) hS (by omega) (by rw [hsz]; exact Nat.le_refl _) (N' := 1024) (a0 := (1024, .inl fun _ => 0)) (fun cA => rfl) (by decide +kernel) (by decide +kernel) (by decide +kernel) (by decide +kernel) (by decide +kernel) (show decode cX1_init 63 = .ok (.newarray .boolean, 2) by decide +kernel) (fun H14 hP hD hS => ?_)
  refine hr_bput A (show hr_fl 1 34 = some (1, 10, (hr_fl 1 34).get!.2.2) by decide +kernel) (by decide) hP hD hS 0 rfl (Nat.le_of_ble_eq_true rfl) (ty := .array .boolean) (by decide +kernel) rfl rfl (by decide +kernel) (show decode cX1_init 65 = .ok (.putfield 34, 3) by decide +kernel) (fun H15 L15 hP hD hS => ?_)
  refine lv_aload_n hx hb (show decode cX1_init 68 = .ok (.aload_n 0, 1) by decide +kernel) rfl rfl ?_
  refine lv_bipush hx hb (show decode cX1_init 69 = .ok (.bipush 10, 2) by decide +kernel) rfl ?_
  refine hr_bnewa A (t := .int) hr_w86 1 rfl hP hD ((((((((((((((((hr_row1 _ _).push rfl).set rfl).push rfl).set rfl).push rfl).set rfl).push rfl).set rfl).push rfl).set rfl).set rfl).push rfl).set rfl).push rfl).set rfl) hS (by omega) (by rw [hsz]; exact Nat.le_refl _) (N' := 10) (a0 := (10, .inl fun _ => 0)) (fun cA => rfl) (by decide +kernel) (by decide +kernel) (by decide +kernel) (by decide +kernel) (by decide +kernel) (show decode cX1_init 71 = .ok (.newarray .int, 2) by decide +kernel) (fun H16 hP hD hS => ?_)
  refine hr_bput A (show hr_fl 1 38 = some (1, 12, (hr_fl 1 38).get!.2.2) by decide +kernel) (by decide) hP hD hS 0 rfl (Nat.le_of_ble_eq_true rfl) (ty := .array .int) (by decide +kernel) rfl rfl (by decide +kernel) (show decode cX1_init 73 = .ok (.putfield 38, 3) by decide +kernel) (fun H17 L17 hP hD hS => ?_)
  refine lv_aload_n hx hb (show decode cX1_init 76 = .ok (.aload_n 0, 1) by decide +kernel) rfl rfl ?_
  refine lv_iconst hx hb (show decode cX1_init 77 = .ok (.iconst (-1), 1) by decide +kernel) rfl ?_
  refine hr_bput A (show hr_fl 1 41 = some (1, 13, (hr_fl 1 41).get!.2.2) by decide +kernel) (by decide) hP hD hS 0 rfl (Nat.le_of_ble_eq_true rfl) (ty := .int) (by decide +kernel) rfl rfl (by decide +kernel) (show decode cX1_init 78 = .ok (.putfield 41, 3) by decide +kernel) (fun H18 L18 hP hD hS => ?_)
  exact W.vret hx hb hr (fun t ht _ => ⟨rfl, by rw [ht]; exact hP, fun q hq => by rw [ht]; exact hS.2.1 q (by omega) (by omega)⟩) hS.2.2 (show decode cX1_init 81 = .ok (.return_, 1) by decide +kernel) hlk
theorem hr_w41 : Jvm.Cond.methodLink (hr_cn 4) 3 Lib.objectInit ∈ hr_GT := hr_iT (i := 41) ⟨by decide +kernel, by decide +kernel⟩
def hr_dX4 : List Value := [.int 0, .int 0, .null, .null, .null, .null, .null, .null, .null, .null, .int 0]
def hr_oX4 (G : PG) (b : Nat) : va_W := [(b, .inr (3, [.int 0, .int 0, .ref (b + 1), .ref (b + 2), .ref (b + 3), .ref (b + 4), .ref (b + 5), .ref (b + 6), .ref (b + 7), .ref (b + 8), .int 0])), (b + 1, .inl (G.2.1 1, 30, .inl fun _ => 0)), (b + 2, .inl (G.2.1 1, 18, .inl fun _ => 0)), (b + 3, .inl (G.2.1 1, 20, .inl fun _ => 0)), (b + 4, .inl (G.2.1 1, 100, .inl fun _ => 0)), (b + 5, .inl (G.2.1 1, 10, .inl fun _ => 0)), (b + 6, .inl (G.2.1 1, 30, .inl fun _ => 0)), (b + 7, .inl (G.2.1 1, 28, .inl fun _ => 0)), (b + 8, .inl (G.2.1 1, 30, .inl fun _ => 0))]
set_option maxRecDepth 8000 in
theorem hr_iX4 {l : Launch} {G : PG} {b : Nat} : hr_Bt l G yX4_init cX4_init 1 1 8 266 b 3 hr_dX4 (hr_oX4 G b) := by
  refine hr_Bof (o := 4) (by decide +kernel) rfl rfl ?_
  intro p e s mi below meth c A hr hlk hsz hP
  have hx := A.1
  have hb := A.2.1
  have hw := A.2.2.2.1
  refine lv_aload_n hx hb (show decode cX4_init 0 = .ok (.aload_n 0, 1) by decide +kernel) rfl rfl ?_
  refine W.objInit hx hb A.2.2.2.2.1 (hw _ hr_w41) (hw _ hr_w25) (hw _ hr_w26) rfl A.2.2.1.symm rfl (show decode cX4_init 1 = .ok (.invokespecial 3, 3) by decide +kernel) (Nat.le_of_ble_eq_true rfl) (Nat.le_of_ble_eq_true rfl) ?_
  refine lv_aload_n hx hb (show decode cX4_init 4 = .ok (.aload_n 0, 1) by decide +kernel) rfl rfl ?_
  refine lv_bipush hx hb (show decode cX4_init 5 = .ok (.bipush 30, 2) by decide +kernel) rfl ?_
  refine hr_bnewa A (t := .int) hr_w86 1 rfl hP (hr_D1 _ _) (hr_row1 _ _) va_S.rf (by omega) (by rw [hsz]; exact Nat.le_refl _) (N' := 30) (a0 := (30, .inl fun _ => 0)) (fun cA => rfl) (by decide +kernel) (by decide +kernel) (by decide +kernel) (by decide +kernel) (by decide +kernel) (show decode cX4_init 7 = .ok (.newarray .int, 2) by decide +kernel) (fun H1 hP hD hS => ?_)
  refine hr_bput A (show hr_fl 4 9 = some (3, 2, (hr_fl 4 9).get!.2.2) by decide +kernel) (by decide) hP hD hS 0 rfl (Nat.le_of_ble_eq_true rfl) (ty := .array .int) (by decide +kernel) rfl rfl (by decide +kernel) (show decode cX4_init 9 = .ok (.putfield 9, 3) by decide +kernel) (fun H2 L2 hP hD hS => ?_)
  refine lv_aload_n hx hb (show decode cX4_init 12 = .ok (.aload_n 0, 1) by decide +kernel) rfl rfl ?_
  refine lv_bipush hx hb (show decode cX4_init 13 = .ok (.bipush 18, 2) by decide +kernel) rfl ?_
  refine hr_bnewa A (t := .int) hr_w86 1 rfl hP hD (((hr_row1 _ _).push rfl).set rfl) hS (by omega) (by rw [hsz]; exact Nat.le_refl _) (N' := 18) (a0 := (18, .inl fun _ => 0)) (fun cA => rfl) (by decide +kernel) (by decide +kernel) (by decide +kernel) (by decide +kernel) (by decide +kernel) (show decode cX4_init 15 = .ok (.newarray .int, 2) by decide +kernel) (fun H3 hP hD hS => ?_)
  refine hr_bput A (show hr_fl 4 15 = some (3, 3, (hr_fl 4 15).get!.2.2) by decide +kernel) (by decide) hP hD hS 0 rfl (Nat.le_of_ble_eq_true rfl) (ty := .array .int) (by decide +kernel) rfl rfl (by decide +kernel) (show decode cX4_init 17 = .ok (.putfield 15, 3) by decide +kernel) (fun H4 L4 hP hD hS => ?_)
  refine lv_aload_n hx hb (show decode cX4_init 20 = .ok (.aload_n 0, 1) by decide +kernel) rfl rfl ?_
  refine lv_bipush hx hb (show decode cX4_init 21 = .ok (.bipush 20, 2) by decide +kernel) rfl ?_
  refine hr_bnewa A (t := .int) hr_w86 1 rfl hP hD (((((hr_row1 _ _).push rfl).set rfl).push rfl).set rfl) hS (by omega) (by rw [hsz]; exact Nat.le_refl _) (N' := 20) (a0 := (20, .inl fun _ => 0)) (fun cA => rfl) (by decide +kernel) (by decide +kernel) (by decide +kernel) (by decide +kernel) (by decide +kernel) (show decode cX4_init 23 = .ok (.newarray .int, 2) by decide +kernel) (fun H5 hP hD hS => ?_)
  refine hr_bput A (show hr_fl 4 18 = some (3, 4, (hr_fl 4 18).get!.2.2) by decide +kernel) (by decide) hP hD hS 0 rfl (Nat.le_of_ble_eq_true rfl) (ty := .array .int) (by decide +kernel) rfl rfl (by decide +kernel) (show decode cX4_init 25 = .ok (.putfield 18, 3) by decide +kernel) (fun H6 L6 hP hD hS => ?_)
  refine lv_aload_n hx hb (show decode cX4_init 28 = .ok (.aload_n 0, 1) by decide +kernel) rfl rfl ?_
  refine lv_bipush hx hb (show decode cX4_init 29 = .ok (.bipush 100, 2) by decide +kernel) rfl ?_
  refine hr_bnewa A (t := .int) hr_w86 1 rfl hP hD (((((((hr_row1 _ _).push rfl).set rfl).push rfl).set rfl).push rfl).set rfl) hS (by omega) (by rw [hsz]; exact Nat.le_refl _) (N' := 100) (a0 := (100, .inl fun _ => 0)) (fun cA => rfl) (by decide +kernel) (by decide +kernel) (by decide +kernel) (by decide +kernel) (by decide +kernel) (show decode cX4_init 31 = .ok (.newarray .int, 2) by decide +kernel) (fun H7 hP hD hS => ?_)
  refine hr_bput A (show hr_fl 4 21 = some (3, 5, (hr_fl 4 21).get!.2.2) by decide +kernel) (by decide) hP hD hS 0 rfl (Nat.le_of_ble_eq_true rfl) (ty := .array .int) (by decide +kernel) rfl rfl (by decide +kernel) (show decode cX4_init 33 = .ok (.putfield 21, 3) by decide +kernel) (fun H8 L8 hP hD hS => ?_)
  refine lv_aload_n hx hb (show decode cX4_init 36 = .ok (.aload_n 0, 1) by decide +kernel) rfl rfl ?_
  refine lv_bipush hx hb (show decode cX4_init 37 = .ok (.bipush 10, 2) by decide +kernel) rfl ?_
  refine hr_bnewa A (t := .int) hr_w86 1 rfl hP hD (((((((((hr_row1 _ _).push rfl).set rfl).push rfl).set rfl).push rfl).set rfl).push rfl).set rfl) hS (by omega) (by rw [hsz]; exact Nat.le_refl _) (N' := 10) (a0 := (10, .inl fun _ => 0)) (fun cA => rfl) (by decide +kernel) (by decide +kernel) (by decide +kernel) (by decide +kernel) (by decide +kernel) (show decode cX4_init 39 = .ok (.newarray .int, 2) by decide +kernel) (fun H9 hP hD hS => ?_)
  refine hr_bput A (show hr_fl 4 24 = some (3, 6, (hr_fl 4 24).get!.2.2) by decide +kernel) (by decide) hP hD hS 0 rfl (Nat.le_of_ble_eq_true rfl) (ty := .array .int) (by decide +kernel) rfl rfl (by decide +kernel) (show decode cX4_init 41 = .ok (.putfield 24, 3) by decide +kernel) (fun H10 L10 hP hD hS => ?_)
  refine lv_aload_n hx hb (show decode cX4_init 44 = .ok (.aload_n 0, 1) by decide +kernel) rfl rfl ?_
  refine lv_bipush hx hb (show decode cX4_init 45 = .ok (.bipush 30, 2) by decide +kernel) rfl ?_
  refine hr_bnewa A (t := .int) hr_w86 1 rfl hP hD (((((((((((hr_row1 _ _).push rfl).set rfl).push rfl).set rfl).push rfl).set rfl).push rfl).set rfl).push rfl).set rfl) hS (by omega) (by rw [hsz]; exact Nat.le_refl _) (N' := 30) (a0 := (30, .inl fun _ => 0)) (fun cA => rfl) (by decide +kernel) (by decide +kernel) (by decide +kernel) (by decide +kernel) (by decide +kernel) (show decode cX4_init 47 = .ok (.newarray .int, 2) by decide +kernel) (fun H11 hP hD hS => ?_)
  refine hr_bput A (show hr_fl 4 27 = some (3, 7, (hr_fl 4 27).get!.2.2) by decide +kernel) (by decide) hP hD hS 0 rfl (Nat.le_of_ble_eq_true rfl) (ty := .array .int) (by decide +kernel) rfl rfl (by decide +kernel) (show decode cX4_init 49 = .ok (.putfield 27, 3) by decide +kernel) (fun H12 L12 hP hD hS => ?_)
  refine lv_aload_n hx hb (show decode cX4_init 52 = .ok (.aload_n 0, 1) by decide +kernel) rfl rfl ?_
  refine lv_bipush hx hb (show decode cX4_init 53 = .ok (.bipush 28, 2) by decide +kernel) rfl ?_
  refine hr_bnewa A (t := .int) hr_w86 1 rfl hP hD (((((((((((((hr_row1 _ _).push rfl).set rfl).push rfl).set rfl).push rfl).set rfl).push rfl).set rfl).push rfl).set rfl).push rfl).set rfl) hS (by omega) (by rw [hsz]; exact Nat.le_refl _) (N' := 28) (a0 := (28, .inl fun _ => 0)) (fun cA => rfl) (by decide +kernel) (by decide +kernel) (by decide +kernel) (by decide +kernel) (by decide +kernel) (show decode cX4_init 55 = .ok (.newarray .int, 2) by decide +kernel) (fun H13 hP hD hS => ?_)
  refine hr_bput A (show hr_fl 4 30 = some (3, 8, (hr_fl 4 30).get!.2.2) by decide +kernel) (by decide) hP hD hS 0 rfl (Nat.le_of_ble_eq_true rfl) (ty := .array .int) (by decide +kernel) rfl rfl (by decide +kernel) (show decode cX4_init 57 = .ok (.putfield 30, 3) by decide +kernel) (fun H14 L14 hP hD hS => ?_)
  refine lv_aload_n hx hb (show decode cX4_init 60 = .ok (.aload_n 0, 1) by decide +kernel) rfl rfl ?_
  refine lv_bipush hx hb (show decode cX4_init 61 = .ok (.bipush 30, 2) by decide +kernel) rfl ?_
  refine hr_bnewa A (t := .int) hr_w86 1 rfl hP hD (((((((((((((((hr_row1 _ _).push rfl).set rfl).push rfl).set rfl).push rfl).set rfl).push rfl).set rfl).push rfl).set rfl).push rfl).set rfl).push rfl).set rfl) hS (by omega) (by rw [hsz]; exact Nat.le_refl _) (N' := 30) (a0 := (30, .inl fun _ => 0)) (fun cA => rfl) (by decide +kernel) (by decide +kernel) (by decide +kernel) (by decide +kernel) (by decide +kernel) (show decode cX4_init 63 = .ok (.newarray .int, 2) by decide +kernel) (fun H15 hP hD hS => ?_)
  refine hr_bput A (show hr_fl 4 33 = some (3, 9, (hr_fl 4 33).get!.2.2) by decide +kernel) (by decide) hP hD hS 0 rfl (Nat.le_of_ble_eq_true rfl) (ty := .array .int) (by decide +kernel) rfl rfl (by decide +kernel) (show decode cX4_init 65 = .ok (.putfield 33, 3) by decide +kernel) (fun H16 L16 hP hD hS => ?_)
  exact W.vret hx hb hr (fun t ht _ => ⟨rfl, by rw [ht]; exact hP, fun q hq => by rw [ht]; exact hS.2.1 q (by omega) (by omega)⟩) hS.2.2 (show decode cX4_init 68 = .ok (.return_, 1) by decide +kernel) hlk
theorem hr_w399 : Jvm.Cond.methodLink (hr_cn 7) 3 Lib.objectInit ∈ hr_GT := hr_iT (i := 399) ⟨by decide +kernel, by decide +kernel⟩
def hr_dX7 : List Value := [.null, .null, .null, .long 0, .int 0, .int 0]
def hr_oX7 (G : PG) (b : Nat) : va_W := [(b, .inr (6, [.ref (b + 1), .ref (b + 2), .ref (b + 3), .long 0, .int 0, .int 0])), (b + 1, .inl (G.2.1 2, 80, .inr (.inl fun _ => 0))), (b + 2, .inl (G.2.1 1, 8, .inl fun _ => 0)), (b + 3, .inl (G.2.1 1, 8, .inl fun _ => 0))]
set_option maxRecDepth 8000 in
theorem hr_iX7 {l : Launch} {G : PG} {b : Nat} : hr_Bt l G yX7_init cX7_init 1 1 3 96 b 6 hr_dX7 (hr_oX7 G b) := by
  refine hr_Bof (o := 7) (by decide +kernel) rfl rfl ?_
  intro p e s mi below meth c A hr hlk hsz hP
  have hx := A.1
  have hb := A.2.1
  have hw := A.2.2.2.1
  refine lv_aload_n hx hb (show decode cX7_init 0 = .ok (.aload_n 0, 1) by decide +kernel) rfl rfl ?_
  refine W.objInit hx hb A.2.2.2.2.1 (hw _ hr_w399) (hw _ hr_w25) (hw _ hr_w26) rfl A.2.2.1.symm rfl (show decode cX7_init 1 = .ok (.invokespecial 3, 3) by decide +kernel) (Nat.le_of_ble_eq_true rfl) (Nat.le_of_ble_eq_true rfl) ?_
  refine lv_aload_n hx hb (show decode cX7_init 4 = .ok (.aload_n 0, 1) by decide +kernel) rfl rfl ?_
  refine lv_bipush hx hb (show decode cX7_init 5 = .ok (.bipush 80, 2) by decide +kernel) rfl ?_
  refine hr_bnewa A (t := .long) hr_w423 2 rfl hP (hr_D1 _ _) (hr_row1 _ _) va_S.rf (by omega) (by rw [hsz]; exact Nat.le_refl _) (N' := 80) (a0 := (80, .inr (.inl fun _ => 0))) (fun cA => rfl) (by decide +kernel) (by decide +kernel) (by decide +kernel) (by decide +kernel) (by decide +kernel) (show decode cX7_init 7 = .ok (.newarray .long, 2) by decide +kernel) (fun H1 hP hD hS => ?_)
  refine hr_bput A (show hr_fl 7 9 = some (6, 0, (hr_fl 7 9).get!.2.2) by decide +kernel) (by decide) hP hD hS 0 rfl (Nat.le_of_ble_eq_true rfl) (ty := .array .long) (by decide +kernel) rfl rfl (by decide +kernel) (show decode cX7_init 9 = .ok (.putfield 9, 3) by decide +kernel) (fun H2 L2 hP hD hS => ?_)
  refine lv_aload_n hx hb (show decode cX7_init 12 = .ok (.aload_n 0, 1) by decide +kernel) rfl rfl ?_
  refine lv_bipush hx hb (show decode cX7_init 13 = .ok (.bipush 8, 2) by decide +kernel) rfl ?_
  refine hr_bnewa A (t := .int) hr_w86 1 rfl hP hD (((hr_row1 _ _).push rfl).set rfl) hS (by omega) (by rw [hsz]; exact Nat.le_refl _) (N' := 8) (a0 := (8, .inl fun _ => 0)) (fun cA => rfl) (by decide +kernel) (by decide +kernel) (by decide +kernel) (by decide +kernel) (by decide +kernel) (show decode cX7_init 15 = .ok (.newarray .int, 2) by decide +kernel) (fun H3 hP hD hS => ?_)
  refine hr_bput A (show hr_fl 7 15 = some (6, 1, (hr_fl 7 15).get!.2.2) by decide +kernel) (by decide) hP hD hS 0 rfl (Nat.le_of_ble_eq_true rfl) (ty := .array .int) (by decide +kernel) rfl rfl (by decide +kernel) (show decode cX7_init 17 = .ok (.putfield 15, 3) by decide +kernel) (fun H4 L4 hP hD hS => ?_)
  refine lv_aload_n hx hb (show decode cX7_init 20 = .ok (.aload_n 0, 1) by decide +kernel) rfl rfl ?_
  refine lv_bipush hx hb (show decode cX7_init 21 = .ok (.bipush 8, 2) by decide +kernel) rfl ?_
  refine hr_bnewa A (t := .int) hr_w86 1 rfl hP hD (((((hr_row1 _ _).push rfl).set rfl).push rfl).set rfl) hS (by omega) (by rw [hsz]; exact Nat.le_refl _) (N' := 8) (a0 := (8, .inl fun _ => 0)) (fun cA => rfl) (by decide +kernel) (by decide +kernel) (by decide +kernel) (by decide +kernel) (by decide +kernel) (show decode cX7_init 23 = .ok (.newarray .int, 2) by decide +kernel) (fun H5 hP hD hS => ?_)
  refine hr_bput A (show hr_fl 7 19 = some (6, 2, (hr_fl 7 19).get!.2.2) by decide +kernel) (by decide) hP hD hS 0 rfl (Nat.le_of_ble_eq_true rfl) (ty := .array .int) (by decide +kernel) rfl rfl (by decide +kernel) (show decode cX7_init 25 = .ok (.putfield 19, 3) by decide +kernel) (fun H6 L6 hP hD hS => ?_)
  exact W.vret hx hb hr (fun t ht _ => ⟨rfl, by rw [ht]; exact hP, fun q hq => by rw [ht]; exact hS.2.1 q (by omega) (by omega)⟩) hS.2.2 (show decode cX7_init 28 = .ok (.return_, 1) by decide +kernel) hlk
theorem hr_w285 : Jvm.Cond.methodLink (hr_cn 9) 3 Lib.objectInit ∈ hr_GT := hr_iT (i := 285) ⟨by decide +kernel, by decide +kernel⟩
def hr_dX9 : List Value := [.int 0, .int 0, .int 0, .int 0, .null, .null, .null, .null, .null, .int 0, .null, .null, .int 0]
def hr_oX9 (G : PG) (b : Nat) : va_W := [(b, .inr (8, [.int 0, .int 0, .int 0, .int 0, .ref (b + 1), .ref (b + 2), .ref (b + 3), .ref (b + 4), .ref (b + 5), .int 0, .ref (b + 6), .ref (b + 7), .int 0])), (b + 1, .inl (G.2.1 1, 9, .inl fun _ => 0)), (b + 2, .inl (G.2.1 1, 9, .inl fun _ => 0)), (b + 3, .inl (G.2.1 1, 6, .inl fun _ => 0)), (b + 4, .inl (G.2.1 1, 6, .inl fun _ => 0)), (b + 5, .inl (G.2.1 1, 6, .inl fun _ => 0)), (b + 6, .inl (G.2.1 1, 15, .inl fun _ => 0)), (b + 7, .inl (G.2.1 1, 15, .inl fun _ => 0))]
set_option maxRecDepth 8000 in
theorem hr_iX9 {l : Launch} {G : PG} {b : Nat} : hr_Bt l G yX9_init cX9_init 1 1 7 66 b 8 hr_dX9 (hr_oX9 G b) := by
  refine hr_Bof (o := 9) (by decide +kernel) rfl rfl ?_
  intro p e s mi below meth c A hr hlk hsz hP
  have hx := A.1
  have hb := A.2.1
  have hw := A.2.2.2.1
  refine lv_aload_n hx hb (show decode cX9_init 0 = .ok (.aload_n 0, 1) by decide +kernel) rfl rfl ?_
  refine W.objInit hx hb A.2.2.2.2.1 (hw _ hr_w285) (hw _ hr_w25) (hw _ hr_w26) rfl A.2.2.1.symm rfl (show decode cX9_init 1 = .ok (.invokespecial 3, 3) by decide +kernel) (Nat.le_of_ble_eq_true rfl) (Nat.le_of_ble_eq_true rfl) ?_
  refine lv_aload_n hx hb (show decode cX9_init 4 = .ok (.aload_n 0, 1) by decide +kernel) rfl rfl ?_
  refine lv_bipush hx hb (show decode cX9_init 5 = .ok (.bipush 9, 2) by decide +kernel) rfl ?_
  refine hr_bnewa A (t := .int) hr_w86 1 rfl hP (hr_D1 _ _) (hr_row1 _ _) va_S.rf (by omega) (by rw [hsz]; exact Nat.le_refl _) (N' := 9) (a0 := (9, .inl fun _ => 0)) (fun cA => rfl) (by decide +kernel) (by decide +kernel) (by decide +kernel) (by decide +kernel) (by decide +kernel) (show decode cX9_init 7 = .ok (.newarray .int, 2) by decide +kernel) (fun H1 hP hD hS => ?_)
  refine hr_bput A (show hr_fl 9 9 = some (8, 4, (hr_fl 9 9).get!.2.2) by decide +kernel) (by decide) hP hD hS 0 rfl (Nat.le_of_ble_eq_true rfl) (ty := .array .int) (by decide +kernel) rfl rfl (by decide +kernel) (show decode cX9_init 9 = .ok (.putfield 9, 3) by decide +kernel) (fun H2 L2 hP hD hS => ?_)
  refine lv_aload_n hx hb (show decode cX9_init 12 = .ok (.aload_n 0, 1) by decide +kernel) rfl rfl ?_
  refine lv_bipush hx hb (show decode cX9_init 13 = .ok (.bipush 9, 2) by decide +kernel) rfl ?_
  refine hr_bnewa A (t := .int) hr_w86 1 rfl hP hD (((hr_row1 _ _).push rfl).set rfl) hS (by omega) (by rw [hsz]; exact Nat.le_refl _) (N' := 9) (a0 := (9, .inl fun _ => 0)) (fun cA => rfl) (by decide +kernel) (by decide +kernel) (by decide +kernel) (by decide +kernel) (by decide +kernel) (show decode cX9_init 15 = .ok (.newarray .int, 2) by decide +kernel) (fun H3 hP hD hS => ?_)
  refine hr_bput A (show hr_fl 9 15 = some (8, 5, (hr_fl 9 15).get!.2.2) by decide +kernel) (by decide) hP hD hS 0 rfl (Nat.le_of_ble_eq_true rfl) (ty := .array .int) (by decide +kernel) rfl rfl (by decide +kernel) (show decode cX9_init 17 = .ok (.putfield 15, 3) by decide +kernel) (fun H4 L4 hP hD hS => ?_)
  refine lv_aload_n hx hb (show decode cX9_init 20 = .ok (.aload_n 0, 1) by decide +kernel) rfl rfl ?_
  refine lv_bipush hx hb (show decode cX9_init 21 = .ok (.bipush 6, 2) by decide +kernel) rfl ?_
  refine hr_bnewa A (t := .int) hr_w86 1 rfl hP hD (((((hr_row1 _ _).push rfl).set rfl).push rfl).set rfl) hS (by omega) (by rw [hsz]; exact Nat.le_refl _) (N' := 6) (a0 := (6, .inl fun _ => 0)) (fun cA => rfl) (by decide +kernel) (by decide +kernel) (by decide +kernel) (by decide +kernel) (by decide +kernel) (show decode cX9_init 23 = .ok (.newarray .int, 2) by decide +kernel) (fun H5 hP hD hS => ?_)
  refine hr_bput A (show hr_fl 9 18 = some (8, 6, (hr_fl 9 18).get!.2.2) by decide +kernel) (by decide) hP hD hS 0 rfl (Nat.le_of_ble_eq_true rfl) (ty := .array .int) (by decide +kernel) rfl rfl (by decide +kernel) (show decode cX9_init 25 = .ok (.putfield 18, 3) by decide +kernel) (fun H6 L6 hP hD hS => ?_)
  refine lv_aload_n hx hb (show decode cX9_init 28 = .ok (.aload_n 0, 1) by decide +kernel) rfl rfl ?_
  refine lv_bipush hx hb (show decode cX9_init 29 = .ok (.bipush 6, 2) by decide +kernel) rfl ?_
  refine hr_bnewa A (t := .int) hr_w86 1 rfl hP hD (((((((hr_row1 _ _).push rfl).set rfl).push rfl).set rfl).push rfl).set rfl) hS (by omega) (by rw [hsz]; exact Nat.le_refl _) (N' := 6) (a0 := (6, .inl fun _ => 0)) (fun cA => rfl) (by decide +kernel) (by decide +kernel) (by decide +kernel) (by decide +kernel) (by decide +kernel) (show decode cX9_init 31 = .ok (.newarray .int, 2) by decide +kernel) (fun H7 hP hD hS => ?_)
  refine hr_bput A (show hr_fl 9 21 = some (8, 7, (hr_fl 9 21).get!.2.2) by decide +kernel) (by decide) hP hD hS 0 rfl (Nat.le_of_ble_eq_true rfl) (ty := .array .int) (by decide +kernel) rfl rfl (by decide +kernel) (show decode cX9_init 33 = .ok (.putfield 21, 3) by decide +kernel) (fun H8 L8 hP hD hS => ?_)
  refine lv_aload_n hx hb (show decode cX9_init 36 = .ok (.aload_n 0, 1) by decide +kernel) rfl rfl ?_
  refine lv_bipush hx hb (show decode cX9_init 37 = .ok (.bipush 6, 2) by decide +kernel) rfl ?_
  refine hr_bnewa A (t := .int) hr_w86 1 rfl hP hD (((((((((hr_row1 _ _).push rfl).set rfl).push rfl).set rfl).push rfl).set rfl).push rfl).set rfl) hS (by omega) (by rw [hsz]; exact Nat.le_refl _) (N' := 6) (a0 := (6, .inl fun _ => 0)) (fun cA => rfl) (by decide +kernel) (by decide +kernel) (by decide +kernel) (by decide +kernel) (by decide +kernel) (show decode cX9_init 39 = .ok (.newarray .int, 2) by decide +kernel) (fun H9 hP hD hS => ?_)
  refine hr_bput A (show hr_fl 9 24 = some (8, 8, (hr_fl 9 24).get!.2.2) by decide +kernel) (by decide) hP hD hS 0 rfl (Nat.le_of_ble_eq_true rfl) (ty := .array .int) (by decide +kernel) rfl rfl (by decide +kernel) (show decode cX9_init 41 = .ok (.putfield 24, 3) by decide +kernel) (fun H10 L10 hP hD hS => ?_)
  refine lv_aload_n hx hb (show decode cX9_init 44 = .ok (.aload_n 0, 1) by decide +kernel) rfl rfl ?_
  refine lv_bipush hx hb (show decode cX9_init 45 = .ok (.bipush 15, 2) by decide +kernel) rfl ?_
  refine hr_bnewa A (t := .int) hr_w86 1 rfl hP hD (((((((((((hr_row1 _ _).push rfl).set rfl).push rfl).set rfl).push rfl).set rfl).push rfl).set rfl).push rfl).set rfl) hS (by omega) (by rw [hsz]; exact Nat.le_refl _) (N' := 15) (a0 := (15, .inl fun _ => 0)) (fun cA => rfl) (by decide +kernel) (by decide +kernel) (by decide +kernel) (by decide +kernel) (by decide +kernel) (show decode cX9_init 47 = .ok (.newarray .int, 2) by decide +kernel) (fun H11 hP hD hS => ?_)
  refine hr_bput A (show hr_fl 9 27 = some (8, 10, (hr_fl 9 27).get!.2.2) by decide +kernel) (by decide) hP hD hS 0 rfl (Nat.le_of_ble_eq_true rfl) (ty := .array .int) (by decide +kernel) rfl rfl (by decide +kernel) (show decode cX9_init 49 = .ok (.putfield 27, 3) by decide +kernel) (fun H12 L12 hP hD hS => ?_)
  refine lv_aload_n hx hb (show decode cX9_init 52 = .ok (.aload_n 0, 1) by decide +kernel) rfl rfl ?_
  refine lv_bipush hx hb (show decode cX9_init 53 = .ok (.bipush 15, 2) by decide +kernel) rfl ?_
  refine hr_bnewa A (t := .int) hr_w86 1 rfl hP hD (((((((((((((hr_row1 _ _).push rfl).set rfl).push rfl).set rfl).push rfl).set rfl).push rfl).set rfl).push rfl).set rfl).push rfl).set rfl) hS (by omega) (by rw [hsz]; exact Nat.le_refl _) (N' := 15) (a0 := (15, .inl fun _ => 0)) (fun cA => rfl) (by decide +kernel) (by decide +kernel) (by decide +kernel) (by decide +kernel) (by decide +kernel) (show decode cX9_init 55 = .ok (.newarray .int, 2) by decide +kernel) (fun H13 hP hD hS => ?_)
  refine hr_bput A (show hr_fl 9 30 = some (8, 11, (hr_fl 9 30).get!.2.2) by decide +kernel) (by decide) hP hD hS 0 rfl (Nat.le_of_ble_eq_true rfl) (ty := .array .int) (by decide +kernel) rfl rfl (by decide +kernel) (show decode cX9_init 57 = .ok (.putfield 30, 3) by decide +kernel) (fun H14 L14 hP hD hS => ?_)
  exact W.vret hx hb hr (fun t ht _ => ⟨rfl, by rw [ht]; exact hP, fun q hq => by rw [ht]; exact hS.2.1 q (by omega) (by omega)⟩) hS.2.2 (show decode cX9_init 60 = .ok (.return_, 1) by decide +kernel) hlk
