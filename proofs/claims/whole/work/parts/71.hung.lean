/-! HUNG, answered on both sides -/
noncomputable def hungS (P : Pal) (R : Rol) (w : Int32) : Int32 := if w = 0 then nI (chi (eF P (hsR R)) (oN R) (2 ^ oN R - 1)) else if w = 1 then nI (gqS (qr (eF P (hsR R)) (oN R)) (2 ^ oN R)) else if w = 2 then nI (hdS (qt (eF P (hsR R)) (oN R)) (2 ^ oN R - 1) (2 ^ oN R)) else if w = 3 then zI (amxI (ssS P R) (oN R)) else if w = 4 then nI (dgS (fun a b => strH P (hsR R a) (hsR R b)) (oN R)) else zI (-2)
noncomputable def sp_hung (T : Tol) (p g w : Int32) : Int32 := match ix p (tz T 0), ix g (tz T 1) with
  | some p, some g => if tog (tP T p) (tR T 1 g) then hungS (tP T p) (tR T 1 g) w else zI (-2)
  | _, _ => zI (-2)
theorem dgS_le {s : Nat → Nat → Nat} {b : Nat} (h : ∀ i j, s i j ≤ b) (n : Nat) : dgS s n ≤ n * (n * b) := by
  unfold dgS
  refine sumN_le (fun k hk => Nat.le_trans (sumN_le (b := b) (fun j _ => h k j)) (Nat.mul_le_mul_right b (by omega)))
section CLS
variable {a b : Nat} {P : Pal} {R : Rol} {M : PM}
theorem s_roll {R : Rol} {b : Nat} {M : PM} (hR : rR M b R) (hg : gOK P R) {k : Nat} (hk : k < oN R) : M.1 (b + 2) k = nI (hsR R k) := ((hR.2.2 k hk).2.1).trans (hsR_n hg hk).1
theorem s_worstOf (hP : rP M a P) (hR : rR M b R) (hg : gOK P R) : f_X4_worstOf a b M = some (zI (amxI (ssS P R) (oN R)), M) := by
  have hn := hg.1.2.1
  have h6 := hg.1.1.2.1
  unfold f_X4_worstOf
  rw [if_pos hP.1.1, if_pos hR.1]
  refine hr_for (σ := Int32 × Int32) (fun f i s => f_X4_worstOf_7 a b f s.1 s.2 (nI i) M) (oN R) (fun i s => s = (zI (amxI (ssS P R) i), zI (fs2 (ssS P R) i))) (fun r => r = some (zI (amxI (ssS P R) (oN R)), M)) ?_ ?_ FU 0 (-1, -1) (Nat.zero_le _) (FU_ok (by omega)) (by unfold amxI fs2; rw [if_pos rfl, if_pos rfl]; decide)
  · rintro f i s hi rfl
    right
    refine ⟨(zI (amxI (ssS P R) (i + 1)), zI (fs2 (ssS P R) (i + 1))), ?_, rfl⟩
    have hd := ssS_le hg (amx (ssS P R) i)
    have hc := ssS_le hg i
    have hz : -1 ≤ fs2 (ssS P R) i ∧ fs2 (ssS P R) i ≤ 54 := by unfold fs2; split <;> omega
    show f_X4_worstOf_7 a b (f + 1) (zI (amxI (ssS P R) i)) (zI (fs2 (ssS P R) i)) (nI i) M = f_X4_worstOf_7 a b f (zI (amxI (ssS P R) (i + 1))) (zI (fs2 (ssS P R) (i + 1))) (nI (i + 1)) M
    rw [f_X4_worstOf_7.eq_2, hR.2.1.1]
    simp (disch := omega) only [q_lit, q_m1, q_m2, q_m1000, q_add, q_mul, q_cl, q_le, q_lt, q_eq, q_in, q_bd_some, eq_self, if_true, if_false, q_b0, q_b1, q_b01, q_bt, q_bf, q_ft, q_tf, Nat.mul_zero, Nat.add_zero, Nat.zero_add, or_true, true_or, not_true_eq_false, not_false_eq_true, reduceCtorEq, show ¬ oN R ≤ i by omega]
    refine hr_for (σ := Int32) (fun f' j s => f_X4_worstOf_22 a b (fun x2 x3 x4 M => f_X4_worstOf_7 a b f x2 x3 x4 M) f' (zI (amxI (ssS P R) i)) (zI (fs2 (ssS P R) i)) (nI i) s (nI j) M) (oN R) (fun j s => s = nI (sumN (fun j => strH P (hsR R i) (hsR R j)) j)) (fun r => r = f_X4_worstOf_7 a b f (zI (amxI (ssS P R) (i + 1))) (zI (fs2 (ssS P R) (i + 1))) (nI (i + 1)) M) ?_ ?_ FU 0 (nI 0) (Nat.zero_le _) (FU_ok (by omega)) rfl
    · rintro f' j s hj rfl
      right
      refine ⟨_, ?_, rfl⟩
      show f_X4_worstOf_22 a b _ (f' + 1) (zI (amxI (ssS P R) i)) (zI (fs2 (ssS P R) i)) (nI i) _ (nI j) M = _
      rw [f_X4_worstOf_22.eq_2, hR.2.1.1]
      simp (disch := omega) only [q_lit, q_m1, q_m2, q_m1000, q_add, q_mul, q_cl, q_le, q_lt, q_eq, q_in, q_bd_some, eq_self, if_true, if_false, q_b0, q_b1, q_b01, q_bt, q_bf, q_ft, q_tf, Nat.mul_zero, Nat.add_zero, Nat.zero_add, or_true, true_or, not_true_eq_false, not_false_eq_true, reduceCtorEq, show ¬ oN R ≤ j by omega, s_roll hR hg hi, s_roll hR hg hj, s_strengthOf hP (hsR_n hg hi).2 (hsR_n hg hj).2]
      rfl
    · rintro f' s rfl
      show f_X4_worstOf_22 a b _ (f' + 1) (zI (amxI (ssS P R) i)) (zI (fs2 (ssS P R) i)) (nI i) _ (nI (oN R)) M = _
      rw [f_X4_worstOf_22.eq_2, hR.2.1.1]
      rw [show sumN (fun j => strH P (hsR R i) (hsR R j)) (oN R) = ssS P R i from rfl]
      simp (disch := omega) only [q_lit, q_m1, q_m2, q_m1000, q_add, q_mul, q_cl, q_le, q_lt, q_eq, q_in, q_bd_some, eq_self, if_true, if_false, q_b0, q_b1, q_b01, q_bt, q_bf, q_ft, q_tf, Nat.mul_zero, Nat.add_zero, Nat.zero_add, or_true, true_or, not_true_eq_false, not_false_eq_true, reduceCtorEq, Nat.le_refl, q_nzle]
      rw [amxI_s (Nat.succ_ne_zero i), fs2_s (Nat.succ_ne_zero i)]
      by_cases h0 : i = 0
      · subst h0
        rw [if_neg (by unfold fs2; simp; omega)]
        have e : amx (ssS P R) (0 + 1) = 0 := by
          unfold amx
          split <;> rfl
        rw [e, q_nz 0, q_nz (ssS P R 0)]
      · rw [fs2_s h0, amxI_s h0]
        by_cases hlt : ssS P R (amx (ssS P R) i) < ssS P R i
        · have e : amx (ssS P R) (i + 1) = i := if_pos hlt
          rw [if_neg (by omega), e, q_nz i, q_nz (ssS P R i)]
        · have e : amx (ssS P R) (i + 1) = amx (ssS P R) i := if_neg hlt
          rw [if_pos (by omega), e]
  · rintro f s rfl
    show f_X4_worstOf_7 a b (f + 1) _ _ (nI (oN R)) M = _
    rw [f_X4_worstOf_7.eq_2, hR.2.1.1]
    simp (disch := omega) only [q_lit, q_m1, q_m2, q_m1000, q_add, q_mul, q_cl, q_le, q_lt, q_eq, q_in, q_bd_some, eq_self, if_true, if_false, q_b0, q_b1, q_b01, q_bt, q_bf, q_ft, q_tf, Nat.mul_zero, Nat.add_zero, Nat.zero_add, or_true, true_or, not_true_eq_false, not_false_eq_true, reduceCtorEq, Nat.le_refl]
theorem s_strengthsOf (hP : rP M a P) (hR : rR M b R) (hg : gOK P R) : f_X4_strengthsOf a b M = some (nI (dgS (fun a b => strH P (hsR R a) (hsR R b)) (oN R)), M) := by
  have hn := hg.1.2.1
  have h6 := hg.1.1.2.1
  unfold f_X4_strengthsOf
  rw [if_pos hP.1.1, if_pos hR.1]
  refine hr_for (σ := Int32) (fun f i s => f_X4_strengthsOf_4 a b f s (nI i) M) (oN R) (fun i s => s = nI (dgS (fun a b => strH P (hsR R a) (hsR R b)) i)) (fun r => r = some (nI (dgS (fun a b => strH P (hsR R a) (hsR R b)) (oN R)), M)) ?_ ?_ FU 0 0 (Nat.zero_le _) (FU_ok (by omega)) rfl
  · rintro f i s hi rfl
    right
    refine ⟨nI (dgS (fun a b => strH P (hsR R a) (hsR R b)) (i + 1)), ?_, rfl⟩
    show f_X4_strengthsOf_4 a b (f + 1) _ (nI i) M = f_X4_strengthsOf_4 a b f _ (nI (i + 1)) M
    rw [f_X4_strengthsOf_4.eq_2, hR.2.1.1]
    simp (disch := omega) only [q_lit, q_m1, q_m2, q_m1000, q_add, q_mul, q_cl, q_le, q_lt, q_eq, q_in, q_bd_some, eq_self, if_true, if_false, q_b0, q_b1, q_b01, q_bt, q_bf, q_ft, q_tf, Nat.mul_zero, Nat.add_zero, Nat.zero_add, or_true, true_or, not_true_eq_false, not_false_eq_true, reduceCtorEq, show ¬ oN R ≤ i by omega]
    refine hr_for (σ := Int32) (fun f' j s => f_X4_strengthsOf_15 a b (fun x2 x3 M => f_X4_strengthsOf_4 a b f x2 x3 M) f' s (nI i) (nI j) M) i (fun j s => s = nI (dgS (fun a b => strH P (hsR R a) (hsR R b)) i + sumN (fun j => strH P (hsR R i) (hsR R j)) j)) (fun r => r = f_X4_strengthsOf_4 a b f (nI (dgS (fun a b => strH P (hsR R a) (hsR R b)) (i + 1))) (nI (i + 1)) M) ?_ ?_ FU 0 (nI (dgS (fun a b => strH P (hsR R a) (hsR R b)) i)) (Nat.zero_le _) (FU_ok (by omega)) rfl
    · rintro f' j s hj rfl
      right
      refine ⟨_, ?_, rfl⟩
      show f_X4_strengthsOf_15 a b _ (f' + 1) _ (nI i) (nI j) M = _
      rw [f_X4_strengthsOf_15.eq_2]
      simp (disch := omega) only [q_lit, q_m1, q_m2, q_m1000, q_add, q_mul, q_cl, q_le, q_lt, q_eq, q_in, q_bd_some, eq_self, if_true, if_false, q_b0, q_b1, q_b01, q_bt, q_bf, q_ft, q_tf, Nat.mul_zero, Nat.add_zero, Nat.zero_add, or_true, true_or, not_true_eq_false, not_false_eq_true, reduceCtorEq, show ¬ i ≤ j by omega, s_roll hR hg hi, s_roll hR hg (show j < oN R by omega), s_strengthOf hP (hsR_n hg hi).2 (hsR_n hg (show j < oN R by omega)).2]
      rw [Nat.add_assoc]
      rfl
    · rintro f' s rfl
      show f_X4_strengthsOf_15 a b _ (f' + 1) _ (nI i) (nI i) M = _
      rw [f_X4_strengthsOf_15.eq_2]
      simp (disch := omega) only [q_lit, q_m1, q_m2, q_m1000, q_add, q_mul, q_cl, q_le, q_lt, q_eq, q_in, q_bd_some, eq_self, if_true, if_false, q_b0, q_b1, q_b01, q_bt, q_bf, q_ft, q_tf, Nat.mul_zero, Nat.add_zero, Nat.zero_add, or_true, true_or, not_true_eq_false, not_false_eq_true, reduceCtorEq, Nat.le_refl]
      rfl
  · rintro f s rfl
    show f_X4_strengthsOf_4 a b (f + 1) _ (nI (oN R)) M = _
    rw [f_X4_strengthsOf_4.eq_2, hR.2.1.1]
    simp (disch := omega) only [q_lit, q_m1, q_m2, q_m1000, q_add, q_mul, q_cl, q_le, q_lt, q_eq, q_in, q_bd_some, eq_self, if_true, if_false, q_b0, q_b1, q_b01, q_bt, q_bf, q_ft, q_tf, Nat.mul_zero, Nat.add_zero, Nat.zero_add, or_true, true_or, not_true_eq_false, not_false_eq_true, reduceCtorEq, Nat.le_refl]
end CLS
section CLS2
variable {M : PM} {T : Tol}
theorem c_hung (hT : rT M 1 T) (ok : tOK T) (p g w : Int32) : hw (f_X10_hung p g w M) (fun v _ => v = sp_hung T p g w) := by
  have hz := ok.2.2.1
  have z0 := hz 0 (by omega)
  have z1 := hz 1 (by omega)
  have r1 := fun x => s_rollAt hT (s := 1) (by omega) (by omega) z1 x
  unfold f_X10_hung sp_hung
  rw [s_paletteAt hT z0, q_bd_some]
  rw [show f_X8_rollAt 1 = f_X8_rollAt (nI 1) from rfl]
  cases hp : ix p (tz T 0) with
  | none =>
    dsimp only
    rw [r1, q_bd_some]
    cases hg : ix g (tz T 1) with
    | none =>
      dsimp only
      rw [g_nn]
      exact hw.ok rfl
    | some g =>
      dsimp only
      have kg := k_5 (s := 1) (by omega) (by omega) (k := g) (by have := (ix_some hg).2.1; omega)
      rw [if_pos kg, g_nr kg]
      exact hw.ok rfl
  | some p =>
    dsimp only
    have kp := k_3 (q := p) (by have := (ix_some hp).2.1; omega)
    rw [if_pos kp, r1, q_bd_some]
    cases hg : ix g (tz T 1) with
    | none =>
      dsimp only
      rw [g_rn kp]
      exact hw.ok rfl
    | some g =>
      dsimp only
      have kg := k_5 (s := 1) (by omega) (by omega) (k := g) (by have := (ix_some hg).2.1; omega)
      obtain ⟨-, lp, -⟩ := ix_some hp
      obtain ⟨-, lg, -⟩ := ix_some hg
      have hP := hT.pal (show p < 2 by omega)
      have hR := hT.rol (s := 1) (by omega) (by omega) lg
      have oR := ok.2.2.2.2 1 g (by omega) (by omega) lg
      rw [if_pos kg, s_goTogether hP hR (oS_lt (Or.inl rfl) oR), q_bd_some]
      cases ht : tog (tP T p) (tR T 1 g) with
      | false => exact hw.ok rfl
      | true =>
        have hgk := gOK.of hP.1.2 oR ht
        rw [if_neg (show ¬ bI true = 0 by decide), if_pos rfl]
        unfold hungS
        by_cases w3 : w = 3
        · rw [if_pos w3, s_worstOf hP hR hgk, q_bd_some, w3, if_neg (by decide), if_neg (by decide), if_neg (by decide), if_pos rfl]
          exact hw.ok rfl
        rw [if_neg w3]
        by_cases w4 : w = 4
        · rw [if_pos w4, s_strengthsOf hP hR hgk, q_bd_some, w4, if_neg (by decide), if_neg (by decide), if_neg (by decide), if_neg (by decide), if_pos rfl]
          exact hw.ok rfl
        rw [if_neg w4]
        obtain ⟨M1, c1, c2, c3⟩ := s_gatherPictures hP (by omega) hR (by omega) hgk
        rw [c1, q_bd_some]
        by_cases w0 : w = 0
        · rw [if_pos w0, if_pos w0]
          exact hw.bd ((s_fewestParts c2).mono (fun v M2 e => hw.ok e))
        rw [if_neg w0, if_neg w0]
        by_cases w1 : w = 1
        · rw [if_pos w1, if_pos w1, s_greatestQuarrel c2, q_bd_some]
          exact hw.ok rfl
        rw [if_neg w1, if_neg w1]
        by_cases w2 : w = 2
        · rw [if_pos w2, if_pos w2]
          exact hw.bd ((s_fewestHidden c2).mono (fun v M2 e => hw.ok e))
        rw [if_neg w2, if_neg w2, if_neg w3, if_neg w4]
        exact hw.ok rfl
end CLS2
section MOD
variable {M : PM} {q g : Nat} {P : Pal} {R : Rol}
theorem s_strengths11 (hB : mB M q P g R) (hg : gOK P R) {i : Nat} (hi : i < oN R) : f_X11_strengthsOf (nI i) M = some (nI (ssS P R i), M) := by
  have hn := hg.1.2.1
  have h10 := hg.1.1.1
  have ei := hsR_n hg hi
  unfold f_X11_strengthsOf
  refine hr_for (σ := Int32) (fun f j s => f_X11_strengthsOf_4 (nI i) f s (nI j) M) (oN R) (fun j s => s = nI (sumN (fun j => strH P (hsR R i) (hsR R j)) j)) (fun r => r = some (nI (ssS P R i), M)) ?_ ?_ FU 0 0 (Nat.zero_le _) (FU_ok (by omega)) rfl
  · rintro f j s hj rfl
    right
    have ej := hsR_n hg hj
    refine ⟨_, ?_, rfl⟩
    show f_X11_strengthsOf_4 (nI i) (f + 1) _ (nI j) M = _
    rw [f_X11_strengthsOf_4.eq_2]
    simp (disch := omega) only [q_lit, q_m1, q_m2, q_m1000, q_add, q_mul, q_cl, q_le, q_lt, q_eq, q_in, q_bd_some, eq_self, if_true, if_false, q_b0, q_b1, q_b01, q_bt, q_bf, q_ft, q_tf, Nat.mul_zero, Nat.add_zero, Nat.zero_add, or_true, true_or, not_true_eq_false, not_false_eq_true, reduceCtorEq, s_pictures hB.2, show ¬ oN R ≤ j by omega, s_hueOf hB.2, ei.1, ej.1, hB.1.2.2 _ _ ei.2 ej.2]
    rfl
  · rintro f s rfl
    show f_X11_strengthsOf_4 (nI i) (f + 1) _ (nI (oN R)) M = _
    rw [f_X11_strengthsOf_4.eq_2]
    simp (disch := omega) only [q_lit, q_m1, q_m2, q_m1000, q_add, q_mul, q_cl, q_le, q_lt, q_eq, q_in, q_bd_some, eq_self, if_true, if_false, q_b0, q_b1, q_b01, q_bt, q_bf, q_ft, q_tf, Nat.mul_zero, Nat.add_zero, Nat.zero_add, or_true, true_or, not_true_eq_false, not_false_eq_true, reduceCtorEq, s_pictures hB.2, Nat.le_refl]
    rfl
theorem s_worst11 (hB : mB M q P g R) (hg : gOK P R) : f_X11_worst M = some (zI (amxI (ssS P R) (oN R)), M) := by
  have hn := hg.1.2.1
  unfold f_X11_worst
  refine hr_for (σ := Int32) (fun f i s => f_X11_worst_4 f s (nI i) M) (oN R) (fun i s => s = zI (amxI (ssS P R) i)) (fun r => r = some (zI (amxI (ssS P R) (oN R)), M)) ?_ ?_ FU 0 (-1) (Nat.zero_le _) (FU_ok (by omega)) (by unfold amxI; rw [if_pos rfl]; decide)
  · rintro f i s hi rfl
    right
    refine ⟨zI (amxI (ssS P R) (i + 1)), ?_, rfl⟩
    have hd := ssS_le hg (amx (ssS P R) i)
    have hc := ssS_le hg i
    show f_X11_worst_4 (f + 1) (zI (amxI (ssS P R) i)) (nI i) M = f_X11_worst_4 f (zI (amxI (ssS P R) (i + 1))) (nI (i + 1)) M
    rw [f_X11_worst_4.eq_2, amxI_s (Nat.succ_ne_zero i)]
    simp (disch := omega) only [q_lit, q_m1, q_m2, q_m1000, q_add, q_mul, q_cl, q_le, q_lt, q_eq, q_in, q_bd_some, eq_self, if_true, if_false, q_b0, q_b1, q_b01, q_bt, q_bf, q_ft, q_tf, Nat.mul_zero, Nat.add_zero, Nat.zero_add, or_true, true_or, not_true_eq_false, not_false_eq_true, reduceCtorEq, s_pictures hB.2, show ¬ oN R ≤ i by omega]
    by_cases h0 : i = 0
    · subst h0
      rw [if_pos (show zI (amxI (ssS P R) 0) = zI (-1) by unfold amxI; rw [if_pos rfl])]
      have e : amx (ssS P R) (0 + 1) = 0 := by
        unfold amx
        split <;> rfl
      rw [e, q_nz 0]
    · have hl := amx_lt (ssS P R) h0
      rw [amxI_s h0, if_neg (by rw [q_zeq (by omega) (by omega)]; omega), ← q_nz]
      simp (disch := omega) only [q_lit, q_m1, q_m2, q_m1000, q_add, q_mul, q_cl, q_le, q_lt, q_eq, q_in, q_bd_some, eq_self, if_true, if_false, q_b0, q_b1, q_b01, q_bt, q_bf, q_ft, q_tf, Nat.mul_zero, Nat.add_zero, Nat.zero_add, or_true, true_or, not_true_eq_false, not_false_eq_true, reduceCtorEq, s_strengths11 hB hg hi, s_strengths11 hB hg (show amx (ssS P R) i < oN R by omega)]
      by_cases hlt : ssS P R (amx (ssS P R) i) < ssS P R i
      · have e : amx (ssS P R) (i + 1) = i := if_pos hlt
        rw [if_neg (by omega), e, q_nz i]
      · have e : amx (ssS P R) (i + 1) = amx (ssS P R) i := if_neg hlt
        rw [if_pos (by omega), e, q_nz]
  · rintro f s rfl
    show f_X11_worst_4 (f + 1) _ (nI (oN R)) M = _
    rw [f_X11_worst_4.eq_2]
    simp (disch := omega) only [q_lit, q_m1, q_m2, q_m1000, q_add, q_mul, q_cl, q_le, q_lt, q_eq, q_in, q_bd_some, eq_self, if_true, if_false, q_b0, q_b1, q_b01, q_bt, q_bf, q_ft, q_tf, Nat.mul_zero, Nat.add_zero, Nat.zero_add, or_true, true_or, not_true_eq_false, not_false_eq_true, reduceCtorEq, s_pictures hB.2, Nat.le_refl]
theorem s_hung78 (hB : mB M q P g R) (hg : gOK P R) (a1 a2 a3 : Int32) : f_X11_hung_78 a1 a2 a3 FU (nI 0) (nI 0) M = some (nI (dgS (fun a b => strH P (hsR R a) (hsR R b)) (oN R)), M) := by
  have hn := hg.1.2.1
  have h6 := hg.1.1.2.1
  refine hr_for (σ := Int32) (fun f i s => f_X11_hung_78 a1 a2 a3 f s (nI i) M) (oN R) (fun i s => s = nI (sumN (ssS P R) i)) (fun r => r = some (nI (dgS (fun a b => strH P (hsR R a) (hsR R b)) (oN R)), M)) ?_ ?_ FU 0 (nI 0) (Nat.zero_le _) (FU_ok (by omega)) rfl
  · rintro f i s hi rfl
    right
    refine ⟨_, ?_, rfl⟩
    show f_X11_hung_78 a1 a2 a3 (f + 1) _ (nI i) M = _
    rw [f_X11_hung_78.eq_2]
    simp (disch := omega) only [q_lit, q_m1, q_m2, q_m1000, q_add, q_mul, q_cl, q_le, q_lt, q_eq, q_in, q_bd_some, eq_self, if_true, if_false, q_b0, q_b1, q_b01, q_bt, q_bf, q_ft, q_tf, Nat.mul_zero, Nat.add_zero, Nat.zero_add, or_true, true_or, not_true_eq_false, not_false_eq_true, reduceCtorEq, s_pictures hB.2, show ¬ oN R ≤ i by omega, s_strengths11 hB hg hi]
    rfl
  · rintro f s rfl
    have e2 : sumN (ssS P R) (oN R) = 2 * dgS (fun a b => strH P (hsR R a) (hsR R b)) (oN R) := dg_2 (s := fun a b => strH P (hsR R a) (hsR R b)) (fun a b => strH_comm P _ _) (fun a => by show strH P _ _ = 0; unfold strH; rw [if_pos rfl]) (oN R)
    have hd : dgS (fun a b => strH P (hsR R a) (hsR R b)) (oN R) ≤ oN R * (oN R * 6) := dgS_le (fun i j => Nat.le_trans (strH_le _ _ _) h6) _
    have hd2 : oN R * (oN R * 6) ≤ 9 * (9 * 6) := Nat.mul_le_mul hn (Nat.mul_le_mul_right 6 hn)
    show f_X11_hung_78 a1 a2 a3 (f + 1) _ (nI (oN R)) M = _
    rw [f_X11_hung_78.eq_2, e2]
    simp (disch := omega) only [q_lit, q_m1, q_m2, q_m1000, q_add, q_mul, q_cl, q_le, q_lt, q_eq, q_in, q_bd_some, eq_self, if_true, if_false, q_b0, q_b1, q_b01, q_bt, q_bf, q_ft, q_tf, Nat.mul_zero, Nat.add_zero, Nat.zero_add, or_true, true_or, not_true_eq_false, not_false_eq_true, reduceCtorEq, s_pictures hB.2, Nat.le_refl, q_div]
    rw [show 2 * dgS (fun a b => strH P (hsR R a) (hsR R b)) (oN R) / 2 = dgS (fun a b => strH P (hsR R a) (hsR R b)) (oN R) by omega]
end MOD
section MOD2
variable {M : PM} {T : Tol}
theorem m_hung (hT : mT M 0 T) (ok : tOK T) (p g w : Int32) : hw (f_X11_hung p g w M) (fun v _ => v = sp_hung T p g w) := by
  unfold f_X11_hung sp_hung
  refine hw.bd ((m_layGallery (hT.si (k := 0) (v := 0)) ok p g).mono (fun v M' h => ?_))
  obtain ⟨h, hf⟩ := h
  cases hg : ix g (tz T 1) with
  | none =>
    rw [hg] at h
    dsimp only at h
    rw [h]
    cases ix p (tz T 0) <;> exact hw.ok rfl
  | some g =>
    cases hp : ix p (tz T 0) with
    | none =>
      rw [hg, hp] at h
      dsimp only at h
      rw [h]
      exact hw.ok rfl
    | some p =>
      rw [hg, hp] at h
      dsimp only at h ⊢
      obtain ⟨rfl, hH, hG⟩ := h
      cases ht : tog (tP T p) (tR T 1 g) with
      | false => exact hw.ok rfl
      | true =>
        have hB : mB M' p (tP T p) g (tR T 1 g) := ⟨hH, hG⟩
        have hgk := gOK.of hH.1.1.2 hG.1.2 ht
        have hn := hgk.1.2.1
        rw [if_neg (show ¬ bI true = 0 by decide), if_pos rfl]
        unfold hungS
        by_cases w0 : w = 0
        · rw [if_pos w0, if_pos w0]
          exact hw.bd ((s_fewestRooms hB hgk).mono (fun v M2 e => hw.ok e))
        rw [if_neg w0, if_neg w0]
        by_cases w1 : w = 1
        · rw [if_pos w1, if_pos w1, s_greatestSet hB hgk, q_bd_some]
          exact hw.ok rfl
        rw [if_neg w1, if_neg w1]
        by_cases w2 : w = 2
        · rw [if_pos w2, if_pos w2, s_curtains hB hgk, q_bd_some]
          refine hw.ok ?_
          rw [hd_hm (by omega) (qt_iff.mpr (fun i j _ _ hi => by rw [Nat.zero_testBit] at hi; cases hi))]
        rw [if_neg w2, if_neg w2]
        by_cases w3 : w = 3
        · rw [if_pos w3, if_pos w3, s_worst11 hB hgk, q_bd_some]
          exact hw.ok rfl
        rw [if_neg w3, if_neg w3]
        by_cases w4 : w = 4
        · rw [if_pos w4, if_pos w4, show (0 : Int32) = nI 0 from rfl, s_hung78 hB hgk]
          exact hw.ok rfl
        rw [if_neg w4, if_neg w4]
        exact hw.ok rfl
end MOD2
