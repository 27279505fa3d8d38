/-! THE CLASS'S STOP AND STATE -/
section CLS
variable {a b d : Nat} {P : Pal} {R D : Rol}
theorem s_begin67 {M0 M : PM} (hf : hr_fr hW_X9_begin M0 M) (h1 : (M.1 249 0, M.1 249 1, M.1 249 2, M.1 249 3) = wF (begW R)) (h2 : ∀ j, j < 9 → M.1 250 j = zI (-1)) (h3 : ∀ j, j < oN R → M.1 251 j = zI (oB R j)) : ∃ M', f_X9_begin_67 b FU (nI 0) M = some ((), M') ∧ cW M' R (begW R) ∧ hr_fr hW_X9_begin M0 M' := by
  refine hr_for (σ := PM) (fun f p M => f_X9_begin_67 b f (nI p) M) 6 (fun p M => ((M.1 249 0, M.1 249 1, M.1 249 2, M.1 249 3) = wF (begW R) ∧ (∀ j, j < 9 → M.1 250 j = zI (-1)) ∧ (∀ j, j < oN R → M.1 251 j = zI (oB R j)) ∧ ∀ j, j < p → M.1 252 j = zI (-1) ∧ M.1 253 j = zI (-1) ∧ M.1 254 j = nI 0) ∧ hr_fr hW_X9_begin M0 M) (fun x => ∃ M', x = some ((), M') ∧ cW M' R (begW R) ∧ hr_fr hW_X9_begin M0 M') ?_ ?_ FU 0 M (Nat.zero_le _) (FU_ok (by omega)) ⟨⟨h1, h2, h3, fun j hj => by omega⟩, hf⟩
  · rintro f p M hp ⟨⟨h1, h2, h3, h4⟩, hf⟩
    right
    show ∃ s', f_X9_begin_67 b (f + 1) (nI p) M = f_X9_begin_67 b f (nI (p + 1)) s' ∧ _
    rw [f_X9_begin_67.eq_2]
    simp (disch := omega) only [q_lit, q_m1, q_m2, q_m1000, q_add, q_mul, q_cl, q_le, q_lt, q_eq, q_in, q_bd_some, eq_self, if_true, if_false, q_b0, q_b1, q_b01, q_bt, q_bf, q_ft, q_tf, Nat.mul_zero, Nat.add_zero, Nat.zero_add, or_true, true_or, not_true_eq_false, not_false_eq_true, reduceCtorEq, show ¬ 6 ≤ p by omega]
    refine ⟨_, rfl, ⟨by simp [q_si1]; exact h1, fun j hj => by simp [q_si1]; exact h2 j hj, fun j hj => by simp [q_si1]; exact h3 j hj, fun j hj => ?_⟩, hr_fr.si rfl (hr_fr.si rfl (hr_fr.si rfl hf))⟩
    by_cases e : j = p
    · subst e
      simp [q_si1]
    · simp [q_si1, e]
      exact h4 j (by omega)
  · rintro f M ⟨⟨h1, h2, h3, h4⟩, hf⟩
    show ∃ M', f_X9_begin_67 b (f + 1) (nI 6) M = _ ∧ _
    rw [f_X9_begin_67.eq_2]
    simp (disch := omega) only [q_lit, q_m1, q_m2, q_m1000, q_add, q_mul, q_cl, q_le, q_lt, q_eq, q_in, q_bd_some, eq_self, if_true, if_false, q_b0, q_b1, q_b01, q_bt, q_bf, q_ft, q_tf, Nat.mul_zero, Nat.add_zero, Nat.zero_add, or_true, true_or, not_true_eq_false, not_false_eq_true, reduceCtorEq, Nat.le_refl]
    exact ⟨M, rfl, ⟨h1, h2, h3, h4⟩, hf⟩
theorem s_begin {M0 : PM} (hR : rR M0 b R) (hb : b + 4 ≤ 240) (hn : oN R ≤ 9) : ∃ M', f_X9_begin b M0 = some ((), M') ∧ cW M' R (begW R) ∧ hr_fr hW_X9_begin M0 M' := by
  unfold f_X9_begin
  rw [if_pos hR.1]
  refine hr_for (σ := PM) (fun f k M => f_X9_begin_22 b f (nI k) M) 9 (fun k M => ((M.1 249 0, M.1 249 1, M.1 249 2, M.1 249 3) = wF (begW R) ∧ (∀ j, j < k → M.1 250 j = zI (-1)) ∧ (∀ j, j < k → j < oN R → M.1 251 j = zI (oB R j))) ∧ hr_fr hW_X9_begin M0 M) (fun x => ∃ M', x = some ((), M') ∧ cW M' R (begW R) ∧ hr_fr hW_X9_begin M0 M') ?_ ?_ FU 0 _ (Nat.zero_le _) (FU_ok (by omega)) ⟨⟨?_, fun j hj => by omega, fun j hj => by omega⟩, hr_fr.si rfl (hr_fr.si rfl (hr_fr.si rfl (hr_fr.si rfl (hr_fr.rf _ _))))⟩
  · rintro f k M hk ⟨⟨h1, h2, h3⟩, hf⟩
    right
    have hf1 : hr_fr hW_X9_begin M0 (hr_si M 250 k (zI (-1))) := hr_fr.si rfl hf
    have hR1 := rR_ag hR (hf1.agr (n := 249) rfl) (Nat.zero_le _) (by omega)
    show ∃ s', f_X9_begin_22 b (f + 1) (nI k) M = f_X9_begin_22 b f (nI (k + 1)) s' ∧ _
    rw [f_X9_begin_22.eq_2]
    simp (disch := omega) only [q_lit, q_m1, q_m2, q_m1000, q_add, q_mul, q_cl, q_le, q_lt, q_eq, q_in, q_bd_some, eq_self, if_true, if_false, q_b0, q_b1, q_b01, q_bt, q_bf, q_ft, q_tf, Nat.mul_zero, Nat.add_zero, Nat.zero_add, or_true, true_or, not_true_eq_false, not_false_eq_true, reduceCtorEq, show ¬ 9 ≤ k by omega, s_X6_has hR1]
    by_cases hk2 : k < oN R
    · simp (disch := omega) only [q_lit, q_m1, q_m2, q_m1000, q_add, q_mul, q_cl, q_le, q_lt, q_eq, q_in, q_bd_some, eq_self, if_true, if_false, q_b0, q_b1, q_b01, q_bt, q_bf, q_ft, q_tf, Nat.mul_zero, Nat.add_zero, Nat.zero_add, or_true, true_or, not_true_eq_false, not_false_eq_true, reduceCtorEq, ix_n, hk2, Option.isSome_some, (hR1.2.2 k hk2).2.2]
      refine ⟨_, rfl, ⟨by simp [q_si1]; exact h1, fun j hj => ?_, fun j hj hj2 => ?_⟩, hr_fr.si rfl hf1⟩
      · rw [q_si1, if_neg (by omega), si_same]
        by_cases e : j = k
        · rw [if_pos e]
        · rw [if_neg e]; exact h2 j (by omega)
      · rw [si_same]
        by_cases e : j = k
        · rw [if_pos e, e]
        · rw [if_neg e, q_si1, if_neg (by omega)]; exact h3 j (by omega) hj2
    · simp (disch := omega) only [q_lit, q_m1, q_m2, q_m1000, q_add, q_mul, q_cl, q_le, q_lt, q_eq, q_in, q_bd_some, eq_self, if_true, if_false, q_b0, q_b1, q_b01, q_bt, q_bf, q_ft, q_tf, Nat.mul_zero, Nat.add_zero, Nat.zero_add, or_true, true_or, not_true_eq_false, not_false_eq_true, reduceCtorEq, ix_big, hk2, Option.isSome_none]
      refine ⟨_, rfl, ⟨by simp [q_si1]; exact h1, fun j hj => ?_, fun j hj hj2 => ?_⟩, hr_fr.si rfl hf1⟩
      · rw [q_si1, if_neg (by omega), si_same]
        by_cases e : j = k
        · rw [if_pos e]
        · rw [if_neg e]; exact h2 j (by omega)
      · rw [si_same, if_neg (by omega), q_si1, if_neg (by omega)]
        exact h3 j (by omega) hj2
  · rintro f M ⟨⟨h1, h2, h3⟩, hf⟩
    show ∃ M', f_X9_begin_22 b (f + 1) (nI 9) M = _ ∧ _
    rw [f_X9_begin_22.eq_2]
    simp (disch := omega) only [q_lit, q_m1, q_m2, q_m1000, q_add, q_mul, q_cl, q_le, q_lt, q_eq, q_in, q_bd_some, eq_self, if_true, if_false, q_b0, q_b1, q_b01, q_bt, q_bf, q_ft, q_tf, Nat.mul_zero, Nat.add_zero, Nat.zero_add, or_true, true_or, not_true_eq_false, not_false_eq_true, reduceCtorEq, Nat.le_refl]
    exact s_begin67 hf h1 h2 (fun j hj => h3 j (by omega) hj)
  · simp [q_si1]
    rfl
theorem s_go {M0 : PM} (hP : rP M0 a P) (ha : a + 9 ≤ 240) (hR : rR M0 b R) (hb : b + 4 ≤ 240) (hD : rR M0 d D) (hd : d + 4 ≤ 240) (hg : gOK P R) (h40 : oN D ≤ 40) (ok : ∀ k, k < oN D → deedOK (oC D k) (oA D k) (oB D k)) {n : Nat} (hn : n ≤ oN D) : ∃ M', f_X9_go a b d (nI n) M0 = some (nI (doneS P R D n), M') ∧ (∀ W, goS P R D (begW R) n = some W → cW M' R W) ∧ (doneS P R D n = n ↔ (goS P R D (begW R) n).isSome = true) ∧ hr_fr hW_X9_go M0 M' := by
  have hfin : ∃ M', f_X9_go a b d (nI n) M0 = some (nI (doneS P R D n), M') ∧ (∀ W, goS P R D (begW R) n = some W → cW M' R W) ∧ (doneS P R D n = n ↔ (goS P R D (begW R) n).isSome = true) := by
    have hWb : wOK P (begW R) := ⟨fun k _ => Or.inl rfl, fun p _ => Or.inl rfl⟩
    unfold f_X9_go
    rw [if_pos hP.1.1, if_pos hR.1, if_pos hD.1]
    obtain ⟨M1, b1, b2, b3⟩ := s_begin hR hb hg.1.2.1
    rw [b1, q_bd_some]
    refine hr_for (σ := PM) (fun f k M => f_X9_go_11 a b d (nI n) f (nI k) (nI k) M) n (fun k M => (∃ W, goS P R D (begW R) k = some W ∧ cW M R W) ∧ hr_fr hW_X9_go M0 M) (fun x => ∃ M', x = some (nI (doneS P R D n), M') ∧ (∀ W, goS P R D (begW R) n = some W → cW M' R W) ∧ (doneS P R D n = n ↔ (goS P R D (begW R) n).isSome = true)) ?_ ?_ FU 0 M1 (Nat.zero_le _) (FU_ok (by omega)) ⟨⟨_, rfl, b2⟩, hr_fr.mono rfl b3⟩
    · rintro f k M hk ⟨⟨W, w1, w2⟩, hf⟩
      have hPM := rP_ag hP (hf.agr (n := 249) rfl) (Nat.zero_le _) (by omega)
      have hRM := rR_ag hR (hf.agr (n := 249) rfl) (Nat.zero_le _) (by omega)
      have hDM := rR_ag hD (hf.agr (n := 249) rfl) (Nat.zero_le _) (by omega)
      have hW := goS_ok ok hWb (show k ≤ oN D by omega) w1
      obtain ⟨M', g1, g2⟩ := s_act hPM ha hRM hb hDM (show k < oN D by omega) h40 (ok k (by omega)) hg hW w2
      have hf' := hf.tr (hr_fr.mono (V := hW_X9_go) rfl (fr_X9_act a b d (nI k) M _ g1))
      show (∃ M', f_X9_go_11 a b d (nI n) (f + 1) (nI k) (nI k) M = _ ∧ _) ∨ ∃ s', f_X9_go_11 a b d (nI n) (f + 1) (nI k) (nI k) M = f_X9_go_11 a b d (nI n) f (nI (k + 1)) (nI (k + 1)) s' ∧ _
      rw [f_X9_go_11.eq_2]
      simp (disch := omega) only [q_lit, q_m1, q_m2, q_m1000, q_add, q_mul, q_cl, q_le, q_lt, q_eq, q_in, q_bd_some, eq_self, if_true, if_false, q_b0, q_b1, q_b01, q_bt, q_bf, q_ft, q_tf, Nat.mul_zero, Nat.add_zero, Nat.zero_add, or_true, true_or, not_true_eq_false, not_false_eq_true, reduceCtorEq, show ¬ n ≤ k by omega, hDM.2.1.1, show ¬ oN D ≤ k by omega, g1]
      have e2 : goS P R D (begW R) (k + 1) = actS P R D k W := by
        show (goS P R D (begW R) k).bind _ = _
        rw [w1]
        rfl
      cases hx : actS P R D k W with
      | none =>
        left
        have e3 := goS_none (show k + 1 ≤ n by omega) (e2.trans hx)
        have e4 := doneS_eq hk w1 hx
        rw [if_pos (show (none : Option Wk).isSome = false from rfl), e4]
        refine ⟨M', rfl, fun W hw => ?_, ?_⟩
        · rw [e3] at hw; cases hw
        · rw [e3]
          constructor
          · intro z; omega
          · intro z; cases z
      | some W' =>
        right
        rw [if_neg (show ¬ (some W').isSome = false by simp)]
        exact ⟨M', rfl, ⟨W', e2.trans hx, g2 W' hx⟩, hf'⟩
    · rintro f M ⟨⟨W, w1, w2⟩, hf⟩
      show ∃ M', f_X9_go_11 a b d (nI n) (f + 1) (nI n) (nI n) M = _ ∧ _
      rw [f_X9_go_11.eq_2]
      simp (disch := omega) only [q_lit, q_m1, q_m2, q_m1000, q_add, q_mul, q_cl, q_le, q_lt, q_eq, q_in, q_bd_some, eq_self, if_true, if_false, q_b0, q_b1, q_b01, q_bt, q_bf, q_ft, q_tf, Nat.mul_zero, Nat.add_zero, Nat.zero_add, or_true, true_or, not_true_eq_false, not_false_eq_true, reduceCtorEq, Nat.le_refl]
      rw [doneS_all w1]
      refine ⟨M, rfl, fun W2 hw => ?_, ?_⟩
      · rw [w1] at hw; cases hw; exact w2
      · rw [w1]; exact ⟨fun _ => rfl, fun _ => rfl⟩
  obtain ⟨M', h1, h2, h3⟩ := hfin
  exact ⟨M', h1, h2, h3, fr_X9_go a b d (nI n) M0 _ h1⟩
/-- what is asked of a walk -/
def ansS (P : Pal) (R : Rol) (W : Wk) (w : Int32) : Int32 :=
  if w < 0 then zI (-2) else
  let n := w.toNatClampNeg
  if n = 0 then (wF W).1 else if n = 1 then (wF W).2.1 else if n = 2 then (wF W).2.2.1 else if n = 3 then (wF W).2.2.2
  else if n / 10 = 1 then (if n % 10 < oN R then wH W (n % 10) else zI (-2))
  else if n / 10 = 2 then (if n % 10 < oN R then wA W (n % 10) else zI (-2))
  else if n / 10 = 3 then (if n % 10 < 6 then wS W (n % 10) else zI (-2))
  else if n / 10 = 4 then (if n % 10 < 6 then wW W (n % 10) else zI (-2))
  else if n / 10 = 5 then (if n % 10 < 6 then wN W (n % 10) else zI (-2))
  else if n / 10 = 6 then (if n % 10 < 4 then nI (rashS P R W (n % 10)) else zI (-2))
  else zI (-2)
theorem ansS_n (P : Pal) (R : Rol) (W : Wk) {n : Nat} (h : n < 2147483648) : ansS P R W (nI n) =
  if n = 0 then (wF W).1 else if n = 1 then (wF W).2.1 else if n = 2 then (wF W).2.2.1 else if n = 3 then (wF W).2.2.2
  else if n / 10 = 1 then (if n % 10 < oN R then wH W (n % 10) else zI (-2))
  else if n / 10 = 2 then (if n % 10 < oN R then wA W (n % 10) else zI (-2))
  else if n / 10 = 3 then (if n % 10 < 6 then wS W (n % 10) else zI (-2))
  else if n / 10 = 4 then (if n % 10 < 6 then wW W (n % 10) else zI (-2))
  else if n / 10 = 5 then (if n % 10 < 6 then wN W (n % 10) else zI (-2))
  else if n / 10 = 6 then (if n % 10 < 4 then nI (rashS P R W (n % 10)) else zI (-2))
  else zI (-2) := by
  unfold ansS
  rw [if_neg (nI_pos h), q_cl h]
theorem s_answerW {M : PM} (hP : rP M a P) (ha : a + 9 ≤ 240) (hR : rR M b R) (hb : b + 4 ≤ 240) (hg : gOK P R) {W : Wk} (hW : wOK P W) (hC : cW M R W) (w : Int32) : hw (f_X9_answer a b w M) (fun v _ => v = ansS P R W w) := by
  have hn : oN R ≤ 9 := hg.1.2.1
  have c0 := hC.1
  have e0 : M.1 249 0 = (wF W).1 := by rw [← c0]
  have e1 : M.1 249 1 = (wF W).2.1 := by rw [← c0]
  have e2 : M.1 249 2 = (wF W).2.2.1 := by rw [← c0]
  have e3 : M.1 249 3 = (wF W).2.2.2 := by rw [← c0]
  unfold f_X9_answer
  rw [if_pos hP.1.1, if_pos hR.1]
  rcases q_any w with h0 | ⟨n, h1, rfl⟩
  · unfold ansS
    rw [if_neg (show ¬ w = 0 from q_neg_ne h0 (k := 0) (by omega)), if_neg (show ¬ w = 1 from q_neg_ne h0 (k := 1) (by omega)), if_neg (show ¬ w = 2 from q_neg_ne h0 (k := 2) (by omega)), if_neg (show ¬ w = 3 from q_neg_ne h0 (k := 3) (by omega)), if_neg (show ¬ 10 ≤ w from q_neg_nle h0 (k := 10) (by omega)), if_pos h0]
    exact hw.ok rfl
  · rw [ansS_n P R W h1]
    simp (disch := omega) only [q_lit, q_m1, q_m2, q_m1000, q_add, q_mul, q_cl, q_le, q_lt, q_eq, q_in, q_bd_some, eq_self, if_true, if_false, q_b0, q_b1, q_b01, q_bt, q_bf, q_ft, q_tf, Nat.mul_zero, Nat.add_zero, Nat.zero_add, or_true, true_or, not_true_eq_false, not_false_eq_true, reduceCtorEq, e0, e1, e2, e3, q_div, q_rem]
    by_cases n0 : n = 0
    · rw [if_pos n0, if_pos n0]; exact hw.ok rfl
    rw [if_neg n0, if_neg n0]
    by_cases n1 : n = 1
    · rw [if_pos n1, if_pos n1]; exact hw.ok rfl
    rw [if_neg n1, if_neg n1]
    by_cases n2 : n = 2
    · rw [if_pos n2, if_pos n2]; exact hw.ok rfl
    rw [if_neg n2, if_neg n2]
    by_cases n3 : n = 3
    · rw [if_pos n3, if_pos n3]; exact hw.ok rfl
    rw [if_neg n3, if_neg n3]
    by_cases n10 : 10 ≤ n
    · rw [if_pos n10]
      unfold f_X9_answerOf
      rw [if_pos hP.1.1, if_pos hR.1]
      simp (disch := omega) only [q_lit, q_m1, q_m2, q_m1000, q_add, q_mul, q_cl, q_le, q_lt, q_eq, q_in, q_bd_some, eq_self, if_true, if_false, q_b0, q_b1, q_b01, q_bt, q_bf, q_ft, q_tf, Nat.mul_zero, Nat.add_zero, Nat.zero_add, or_true, true_or, not_true_eq_false, not_false_eq_true, reduceCtorEq, s_X6_has hR]
      by_cases g1 : n / 10 = 1
      · rw [if_pos g1, if_pos g1]
        by_cases k : n % 10 < oN R
        · simp (disch := omega) only [q_lit, q_m1, q_m2, q_m1000, q_add, q_mul, q_cl, q_le, q_lt, q_eq, q_in, q_bd_some, eq_self, if_true, if_false, q_b0, q_b1, q_b01, q_bt, q_bf, q_ft, q_tf, Nat.mul_zero, Nat.add_zero, Nat.zero_add, or_true, true_or, not_true_eq_false, not_false_eq_true, reduceCtorEq, ix_n, k, Option.isSome_some]
          exact hw.ok (hC.2.1 _ (by omega))
        · simp (disch := omega) only [q_lit, q_m1, q_m2, q_m1000, q_add, q_mul, q_cl, q_le, q_lt, q_eq, q_in, q_bd_some, eq_self, if_true, if_false, q_b0, q_b1, q_b01, q_bt, q_bf, q_ft, q_tf, Nat.mul_zero, Nat.add_zero, Nat.zero_add, or_true, true_or, not_true_eq_false, not_false_eq_true, reduceCtorEq, ix_big, k, Option.isSome_none]
          exact hw.ok rfl
      rw [if_neg g1, if_neg g1]
      by_cases g2 : n / 10 = 2
      · rw [if_pos g2, if_pos g2]
        by_cases k : n % 10 < oN R
        · simp (disch := omega) only [q_lit, q_m1, q_m2, q_m1000, q_add, q_mul, q_cl, q_le, q_lt, q_eq, q_in, q_bd_some, eq_self, if_true, if_false, q_b0, q_b1, q_b01, q_bt, q_bf, q_ft, q_tf, Nat.mul_zero, Nat.add_zero, Nat.zero_add, or_true, true_or, not_true_eq_false, not_false_eq_true, reduceCtorEq, ix_n, k, Option.isSome_some]
          exact hw.ok (hC.2.2.1 _ k)
        · simp (disch := omega) only [q_lit, q_m1, q_m2, q_m1000, q_add, q_mul, q_cl, q_le, q_lt, q_eq, q_in, q_bd_some, eq_self, if_true, if_false, q_b0, q_b1, q_b01, q_bt, q_bf, q_ft, q_tf, Nat.mul_zero, Nat.add_zero, Nat.zero_add, or_true, true_or, not_true_eq_false, not_false_eq_true, reduceCtorEq, ix_big, k, Option.isSome_none]
          exact hw.ok rfl
      rw [if_neg g2, if_neg g2]
      by_cases g3 : n / 10 = 3
      · rw [if_pos g3, if_pos g3]
        by_cases k : n % 10 < 6
        · simp (disch := omega) only [q_lit, q_m1, q_m2, q_m1000, q_add, q_mul, q_cl, q_le, q_lt, q_eq, q_in, q_bd_some, eq_self, if_true, if_false, q_b0, q_b1, q_b01, q_bt, q_bf, q_ft, q_tf, Nat.mul_zero, Nat.add_zero, Nat.zero_add, or_true, true_or, not_true_eq_false, not_false_eq_true, reduceCtorEq, show ¬ 6 ≤ n % 10 by omega, k]
          exact hw.ok (hC.2.2.2 _ k).1
        · simp (disch := omega) only [q_lit, q_m1, q_m2, q_m1000, q_add, q_mul, q_cl, q_le, q_lt, q_eq, q_in, q_bd_some, eq_self, if_true, if_false, q_b0, q_b1, q_b01, q_bt, q_bf, q_ft, q_tf, Nat.mul_zero, Nat.add_zero, Nat.zero_add, or_true, true_or, not_true_eq_false, not_false_eq_true, reduceCtorEq, show 6 ≤ n % 10 by omega, k]
          exact hw.ok rfl
      rw [if_neg g3, if_neg g3]
      by_cases g4 : n / 10 = 4
      · rw [if_pos g4, if_pos g4]
        by_cases k : n % 10 < 6
        · simp (disch := omega) only [q_lit, q_m1, q_m2, q_m1000, q_add, q_mul, q_cl, q_le, q_lt, q_eq, q_in, q_bd_some, eq_self, if_true, if_false, q_b0, q_b1, q_b01, q_bt, q_bf, q_ft, q_tf, Nat.mul_zero, Nat.add_zero, Nat.zero_add, or_true, true_or, not_true_eq_false, not_false_eq_true, reduceCtorEq, show ¬ 6 ≤ n % 10 by omega, k]
          exact hw.ok (hC.2.2.2 _ k).2.1
        · simp (disch := omega) only [q_lit, q_m1, q_m2, q_m1000, q_add, q_mul, q_cl, q_le, q_lt, q_eq, q_in, q_bd_some, eq_self, if_true, if_false, q_b0, q_b1, q_b01, q_bt, q_bf, q_ft, q_tf, Nat.mul_zero, Nat.add_zero, Nat.zero_add, or_true, true_or, not_true_eq_false, not_false_eq_true, reduceCtorEq, show 6 ≤ n % 10 by omega, k]
          exact hw.ok rfl
      rw [if_neg g4, if_neg g4]
      by_cases g5 : n / 10 = 5
      · rw [if_pos g5, if_pos g5]
        by_cases k : n % 10 < 6
        · simp (disch := omega) only [q_lit, q_m1, q_m2, q_m1000, q_add, q_mul, q_cl, q_le, q_lt, q_eq, q_in, q_bd_some, eq_self, if_true, if_false, q_b0, q_b1, q_b01, q_bt, q_bf, q_ft, q_tf, Nat.mul_zero, Nat.add_zero, Nat.zero_add, or_true, true_or, not_true_eq_false, not_false_eq_true, reduceCtorEq, show ¬ 6 ≤ n % 10 by omega, k]
          exact hw.ok (hC.2.2.2 _ k).2.2
        · simp (disch := omega) only [q_lit, q_m1, q_m2, q_m1000, q_add, q_mul, q_cl, q_le, q_lt, q_eq, q_in, q_bd_some, eq_self, if_true, if_false, q_b0, q_b1, q_b01, q_bt, q_bf, q_ft, q_tf, Nat.mul_zero, Nat.add_zero, Nat.zero_add, or_true, true_or, not_true_eq_false, not_false_eq_true, reduceCtorEq, show 6 ≤ n % 10 by omega, k]
          exact hw.ok rfl
      rw [if_neg g5, if_neg g5]
      by_cases g6 : n / 10 = 6
      · rw [if_pos g6, if_pos g6]
        by_cases k : n % 10 < 4
        · obtain ⟨M', F, r1, -⟩ := s_rash hP ha hR hb hg hW hC (n % 10)
          simp (disch := omega) only [q_lit, q_m1, q_m2, q_m1000, q_add, q_mul, q_cl, q_le, q_lt, q_eq, q_in, q_bd_some, eq_self, if_true, if_false, q_b0, q_b1, q_b01, q_bt, q_bf, q_ft, q_tf, Nat.mul_zero, Nat.add_zero, Nat.zero_add, or_true, true_or, not_true_eq_false, not_false_eq_true, reduceCtorEq, show ¬ 4 ≤ n % 10 by omega, k, r1]
          exact hw.ok rfl
        · simp (disch := omega) only [q_lit, q_m1, q_m2, q_m1000, q_add, q_mul, q_cl, q_le, q_lt, q_eq, q_in, q_bd_some, eq_self, if_true, if_false, q_b0, q_b1, q_b01, q_bt, q_bf, q_ft, q_tf, Nat.mul_zero, Nat.add_zero, Nat.zero_add, or_true, true_or, not_true_eq_false, not_false_eq_true, reduceCtorEq, show 4 ≤ n % 10 by omega, k]
          exact hw.ok rfl
      rw [if_neg g6, if_neg g6]
      exact hw.ok rfl
    · rw [if_neg n10, if_neg (by omega), if_neg (by omega), if_neg (by omega), if_neg (by omega), if_neg (by omega), if_neg (by omega)]
      exact hw.ok rfl
end CLS
