/-! printed by gen32.py -/
theorem hr_w372 : Jvm.Cond.methodLink (hr_cn 2) 3 Lib.objectInit ∈ hr_GT := hr_iT (i := 372) ⟨by decide +kernel, by decide +kernel⟩
def hr_dX2 : List Value := [.null, .null, .null, .null, .null, .null]
def hr_oX2 (G : PG) (b : Nat) : va_W := [(b, .inr (2, [.ref (b + 1), .ref (b + 2), .ref (b + 3), .ref (b + 4), .ref (b + 5), .ref (b + 6)])), (b + 1, .inl (G.2.1 1, 4, .inl (upd (upd (upd (upd (fun _ => 0) 0 (-1)) 1 (-1)) 2 (-1)) 3 (-1)))), (b + 2, .inl (G.2.1 1, 4, .inl fun _ => 0)), (b + 3, .inl (G.2.1 1, 6280, .inl fun _ => 0)), (b + 4, .inl (G.2.1 1, 6280, .inl fun _ => 0)), (b + 5, .inl (G.2.1 1, 6280, .inl fun _ => 0)), (b + 6, .inl (G.2.1 1, 56, .inl fun _ => 0))]
set_option maxRecDepth 8000 in
theorem hr_iX2 {l : Launch} {G : PG} {b : Nat} : hr_Bt l G yX2_init cX2_init 1 1 6 18904 b 2 hr_dX2 (hr_oX2 G b) := by
  refine hr_Bof (o := 2) (by decide +kernel) rfl rfl ?_
  intro p e s mi below meth c A hr hlk hsz hP
  have hx := A.1
  have hb := A.2.1
  have hw := A.2.2.2.1
  refine lv_aload_n hx hb (show decode cX2_init 0 = .ok (.aload_n 0, 1) by decide +kernel) rfl rfl ?_
  refine W.objInit hx hb A.2.2.2.2.1 (hw _ hr_w372) (hw _ hr_w25) (hw _ hr_w26) rfl A.2.2.1.symm rfl (show decode cX2_init 1 = .ok (.invokespecial 3, 3) by decide +kernel) (Nat.le_of_ble_eq_true rfl) (Nat.le_of_ble_eq_true rfl) ?_
  refine lv_aload_n hx hb (show decode cX2_init 4 = .ok (.aload_n 0, 1) by decide +kernel) rfl rfl ?_
  refine lv_iconst hx hb (show decode cX2_init 5 = .ok (.iconst 4, 1) by decide +kernel) rfl ?_
  refine hr_bnewa A (t := .int) hr_w86 1 rfl hP (hr_D1 _ _) (hr_row1 _ _) va_S.rf (by omega) (by rw [hsz]; exact Nat.le_refl _) (N' := 4) (a0 := (4, .inl fun _ => 0)) (fun cA => rfl) (by decide +kernel) (by decide +kernel) (by decide +kernel) (by decide +kernel) (by decide +kernel) (show decode cX2_init 6 = .ok (.newarray .int, 2) by decide +kernel) (fun H1 hP hD hS => ?_)
  refine lv_dup hx hb (show decode cX2_init 8 = .ok (.dup, 1) by decide +kernel) rfl ?_
  refine lv_iconst hx hb (show decode cX2_init 9 = .ok (.iconst 0, 1) by decide +kernel) rfl ?_
  refine lv_iconst hx hb (show decode cX2_init 10 = .ok (.iconst (-1), 1) by decide +kernel) rfl ?_
  refine hr_biast A hP hD hS 1 rfl (by unfold vp_in; decide +kernel) (show decode cX2_init 11 = .ok (.iastore, 1) by decide +kernel) (fun H2 L2 hP hD hS => ?_)
  refine lv_dup hx hb (show decode cX2_init 12 = .ok (.dup, 1) by decide +kernel) rfl ?_
  refine lv_iconst hx hb (show decode cX2_init 13 = .ok (.iconst 1, 1) by decide +kernel) rfl ?_
  refine lv_iconst hx hb (show decode cX2_init 14 = .ok (.iconst (-1), 1) by decide +kernel) rfl ?_
  refine hr_biast A hP hD hS 1 rfl (by unfold vp_in; decide +kernel) (show decode cX2_init 15 = .ok (.iastore, 1) by decide +kernel) (fun H3 L3 hP hD hS => ?_)
  refine lv_dup hx hb (show decode cX2_init 16 = .ok (.dup, 1) by decide +kernel) rfl ?_
  refine lv_iconst hx hb (show decode cX2_init 17 = .ok (.iconst 2, 1) by decide +kernel) rfl ?_
  refine lv_iconst hx hb (show decode cX2_init 18 = .ok (.iconst (-1), 1) by decide +kernel) rfl ?_
  refine hr_biast A hP hD hS 1 rfl (by unfold vp_in; decide +kernel) (show decode cX2_init 19 = .ok (.iastore, 1) by decide +kernel) (fun H4 L4 hP hD hS => ?_)
  refine lv_dup hx hb (show decode cX2_init 20 = .ok (.dup, 1) by decide +kernel) rfl ?_
  refine lv_iconst hx hb (show decode cX2_init 21 = .ok (.iconst 3, 1) by decide +kernel) rfl ?_
  refine lv_iconst hx hb (show decode cX2_init 22 = .ok (.iconst (-1), 1) by decide +kernel) rfl ?_
  refine hr_biast A hP hD hS 1 rfl (by unfold vp_in; decide +kernel) (show decode cX2_init 23 = .ok (.iastore, 1) by decide +kernel) (fun H5 L5 hP hD hS => ?_)
  refine hr_bput A (show hr_fl 2 11 = some (2, 0, (hr_fl 2 11).get!.2.2) by decide +kernel) (by decide) hP hD hS 0 rfl (Nat.le_of_ble_eq_true rfl) (ty := .array .int) (by decide +kernel) rfl rfl (by decide +kernel) (show decode cX2_init 24 = .ok (.putfield 11, 3) by decide +kernel) (fun H6 L6 hP hD hS => ?_)
  refine lv_aload_n hx hb (show decode cX2_init 27 = .ok (.aload_n 0, 1) by decide +kernel) rfl rfl ?_
  refine lv_iconst hx hb (show decode cX2_init 28 = .ok (.iconst 4, 1) by decide +kernel) rfl ?_
  refine hr_bnewa A (t := .int) hr_w86 1 rfl hP hD (((((((hr_row1 _ _).push rfl).set rfl).set rfl).set rfl).set rfl).set rfl) hS (by omega) (by rw [hsz]; exact Nat.le_refl _) (N' := 4) (a0 := (4, .inl fun _ => 0)) (fun cA => rfl) (by decide +kernel) (by decide +kernel) (by decide +kernel) (by decide +kernel) (by decide +kernel) (show decode cX2_init 29 = .ok (.newarray .int, 2) by decide +kernel) (fun H7 hP hD hS => ?_)
  refine hr_bput A (show hr_fl 2 15 = some (2, 1, (hr_fl 2 15).get!.2.2) by decide +kernel) (by decide) hP hD hS 0 rfl (Nat.le_of_ble_eq_true rfl) (ty := .array .int) (by decide +kernel) rfl rfl (by decide +kernel) (show decode cX2_init 31 = .ok (.putfield 15, 3) by decide +kernel) (fun H8 L8 hP hD hS => ?_)
  refine lv_aload_n hx hb (show decode cX2_init 34 = .ok (.aload_n 0, 1) by decide +kernel) rfl rfl ?_
  refine lv_sipush hx hb (show decode cX2_init 35 = .ok (.sipush 6280, 3) by decide +kernel) rfl ?_
  refine hr_bnewa A (t := .int) hr_w86 1 rfl hP hD (((((((((hr_row1 _ _).push rfl).set rfl).set rfl).set rfl).set rfl).set rfl).push rfl).set rfl) hS (by omega) (by rw [hsz]; exact Nat.le_refl _) (N' := 6280) (a0 := (6280, .inl fun _ => 0)) (fun cA => rfl) (by decide +kernel) (by decide +kernel) (by decide +kernel) (by decide +kernel) (by decide +kernel) (show decode cX2_init 38 = .ok (.newarray .int, 2) by decide +kernel) (fun H9 hP hD hS => ?_)
  refine hr_bput A (show hr_fl 2 18 = some (2, 2, (hr_fl 2 18).get!.2.2) by decide +kernel) (by decide) hP hD hS 0 rfl (Nat.le_of_ble_eq_true rfl) (ty := .array .int) (by decide +kernel) rfl rfl (by decide +kernel) (show decode cX2_init 40 = .ok (.putfield 18, 3) by decide +kernel) (fun H10 L10 hP hD hS => ?_)
  refine lv_aload_n hx hb (show decode cX2_init 43 = .ok (.aload_n 0, 1) by decide +kernel) rfl rfl ?_
  refine lv_sipush hx hb (show decode cX2_init 44 = .ok (.sipush 6280, 3) by decide +kernel) rfl ?_
  refine hr_bnewa A (t := .int) hr_w86 1 rfl hP hD (((((((((((hr_row1 _ _).push rfl).set rfl).set rfl).set rfl).set rfl).set rfl).push rfl).set rfl).push rfl).set rfl) hS (by omega) (by rw [hsz]; exact Nat.le_refl _) (N' := 6280) (a0 := (6280, .inl fun _ => 0)) (fun cA => rfl) (by decide +kernel) (by decide +kernel) (by decide +kernel) (by decide +kernel) (by decide +kernel) (show decode cX2_init 47 = .ok (.newarray .int, 2) by decide +kernel) (fun H11 hP hD hS => ?_)
  refine hr_bput A (show hr_fl 2 21 = some (2, 3, (hr_fl 2 21).get!.2.2) by decide +kernel) (by decide) hP hD hS 0 rfl (Nat.le_of_ble_eq_true rfl) (ty := .array .int) (by decide +kernel) rfl rfl (by decide +kernel) (show decode cX2_init 49 = .ok (.putfield 21, 3) by decide +kernel) (fun H12 L12 hP hD hS => ?_)
  refine lv_aload_n hx hb (show decode cX2_init 52 = .ok (.aload_n 0, 1) by decide +kernel) rfl rfl ?_
  refine lv_sipush hx hb (show decode cX2_init 53 = .ok (.sipush 6280, 3) by decide +kernel) rfl ?_
  refine hr_bnewa A (t := .int) hr_w86 1 rfl hP hD (((((((((((((hr_row1 _ _).push rfl).set rfl).set rfl).set rfl).set rfl).set rfl).push rfl).set rfl).push rfl).set rfl).push rfl).set rfl) hS (by omega) (by rw [hsz]; exact Nat.le_refl _) (N' := 6280) (a0 := (6280, .inl fun _ => 0)) (fun cA => rfl) (by decide +kernel) (by decide +kernel) (by decide +kernel) (by decide +kernel) (by decide +kernel) (show decode cX2_init 56 = .ok (.newarray .int, 2) by decide +kernel) (fun H13 hP hD hS => ?_)
  refine hr_bput A (show hr_fl 2 24 = some (2, 4, (hr_fl 2 24).get!.2.2) by decide +kernel) (by decide) hP hD hS 0 rfl (Nat.le_of_ble_eq_true rfl) (ty := .array .int) (by decide +kernel) rfl rfl (by decide +kernel) (show decode cX2_init 58 = .ok (.putfield 24, 3) by decide +kernel) (fun H14 L14 hP hD hS => ?_)
  refine lv_aload_n hx hb (show decode cX2_init 61 = .ok (.aload_n 0, 1) by decide +kernel) rfl rfl ?_
  refine lv_bipush hx hb (show decode cX2_init 62 = .ok (.bipush 56, 2) by decide +kernel) rfl ?_
  refine hr_bnewa A (t := .int) hr_w86 1 rfl hP hD (((((((((((((((hr_row1 _ _).push rfl).set rfl).set rfl).set rfl).set rfl).set rfl).push rfl).set rfl).push rfl).set rfl).push rfl).set rfl).push rfl).set rfl) hS (by omega) (by rw [hsz]; exact Nat.le_refl _) (N' := 56) (a0 := (56, .inl fun _ => 0)) (fun cA => rfl) (by decide +kernel) (by decide +kernel) (by decide +kernel) (by decide +kernel) (by decide +kernel) (show decode cX2_init 64 = .ok (.newarray .int, 2) by decide +kernel) (fun H15 hP hD hS => ?_)
  refine hr_bput A (show hr_fl 2 27 = some (2, 5, (hr_fl 2 27).get!.2.2) by decide +kernel) (by decide) hP hD hS 0 rfl (Nat.le_of_ble_eq_true rfl) (ty := .array .int) (by decide +kernel) rfl rfl (by decide +kernel) (show decode cX2_init 66 = .ok (.putfield 27, 3) by decide +kernel) (fun H16 L16 hP hD hS => ?_)
  exact W.vret hx hb hr (fun t ht _ => ⟨rfl, by rw [ht]; exact hP, fun q hq => by rw [ht]; exact hS.2.1 q (by omega) (by omega)⟩) hS.2.2 (show decode cX2_init 69 = .ok (.return_, 1) by decide +kernel) hlk
