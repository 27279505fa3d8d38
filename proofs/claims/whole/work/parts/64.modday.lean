/-! THE MODEL'S DEEDS -/
section MOD
variable {q g d : Nat} {P : Pal} {R D : Rol}
theorem m_does {M : PM} (hB : mB M q P g R) (hD : gD M d D) {k : Nat} (hk : k < oN D) (hg : gOK P R) {W : Wk} (hW : wOK P W) (hC : mW M R W) : ∃ M', f_X11_does (nI k) M = some (bI (actS P R D k W).isSome, M') ∧ (∀ W', actS P R D k W = some W' → mW M' R W') := by
  have h10 : pH P ≤ 10 := hg.1.1.1
  have hn : oN R ≤ 9 := hg.1.2.1
  obtain ⟨e1, e2, e3⟩ := s_deedOf hD hk
  obtain ⟨d0, d1, d2, d3, d4, d5, d6, d7⟩ := hD.1.2.2 k hk
  have eA : 0 ≤ oA D k → zI (oA D k) = nI (oA D k).toNat := fun h => by rw [q_nz, Int.toNat_of_nonneg h]
  have eB : 0 ≤ oB D k → zI (oB D k) = nI (oB D k).toNat := fun h => by rw [q_nz, Int.toNat_of_nonneg h]
  have ec : oC D k = 0 ∨ oC D k = 1 ∨ oC D k = 2 ∨ oC D k = 3 ∨ oC D k = 4 ∨ oC D k = 5 := by omega
  have sH : ∀ k v, mW (hr_si M 290 k v) R (setH W k v) := fun k v => ⟨by rw [si_ne M k v (by omega)]; exact hC.1, fun j hj => by
    rw [si_same]
    show _ = (if j = _ then _ else wH W j)
    rw [hC.2.1 j hj], by rw [si_ne M k v (by omega)]; exact hC.2.2.1, by rw [si_ne M k v (show 292 ≠ 290 by omega), si_ne M k v (show 293 ≠ 290 by omega), si_ne M k v (show 294 ≠ 290 by omega)]; exact hC.2.2.2⟩
  have sS : ∀ k v, mW (hr_si M 292 k v) R (setS W k v) := fun k v => ⟨by rw [si_ne M k v (by omega)]; exact hC.1, by rw [si_ne M k v (by omega)]; exact hC.2.1, by rw [si_ne M k v (by omega)]; exact hC.2.2.1, fun j hj => by
    rw [si_same, si_ne M k v (show 293 ≠ 292 by omega), si_ne M k v (show 294 ≠ 292 by omega)]
    refine ⟨?_, (hC.2.2.2 j hj).2⟩
    show _ = (if j = _ then _ else wS W j)
    rw [(hC.2.2.2 j hj).1]⟩
  have sW : ∀ k v, mW (hr_si M 293 k v) R (setW W k v) := fun k v => ⟨by rw [si_ne M k v (by omega)]; exact hC.1, by rw [si_ne M k v (by omega)]; exact hC.2.1, by rw [si_ne M k v (by omega)]; exact hC.2.2.1, fun j hj => by
    rw [si_same, si_ne M k v (show 292 ≠ 293 by omega), si_ne M k v (show 294 ≠ 293 by omega)]
    refine ⟨(hC.2.2.2 j hj).1, ?_, (hC.2.2.2 j hj).2.2⟩
    show _ = (if j = _ then _ else wW W j)
    rw [(hC.2.2.2 j hj).2.1]⟩
  unfold f_X11_does
  rw [show (1 : Int32) = nI 1 from rfl, show (2 : Int32) = nI 2 from rfl, show (0 : Int32) = nI 0 from rfl, e2, q_bd_some, e3, q_bd_some, e1, q_bd_some]
  rcases ec with ec | ec | ec | ec | ec | ec
  · have := d3 ec
    have hx : actS P R D k W = if (oA D k).toNat < oN R ∧ wH W (oA D k).toNat = zI (-1) then some (setH W (oA D k).toNat (zI (oB D k))) else none := by
      unfold actS
      rw [if_pos ec]
    rw [ec, eA (by omega)]
    by_cases h1 : (oA D k).toNat < oN R
    · by_cases h2 : wH W (oA D k).toNat = zI (-1)
      · rw [if_pos ⟨h1, h2⟩] at hx
        rw [hx]
        simp (disch := omega) only [q_lit, q_m1, q_m2, q_m1000, q_add, q_mul, q_cl, q_le, q_lt, q_eq, q_in, q_bd_some, eq_self, if_true, if_false, q_b0, q_b1, q_b01, q_bt, q_bf, q_ft, q_tf, Nat.mul_zero, Nat.add_zero, Nat.zero_add, or_true, true_or, not_true_eq_false, not_false_eq_true, reduceCtorEq, show zI 0 = nI 0 from rfl, s_pictures hB.2, show ¬ oN R ≤ (oA D k).toNat by omega, hC.2.1 (oA D k).toNat (by omega), h2]
        exact ⟨_, rfl, fun W' hw' => by cases hw'; exact sH _ _⟩
      · rw [if_neg (fun z => h2 z.2)] at hx
        rw [hx]
        simp (disch := omega) only [q_lit, q_m1, q_m2, q_m1000, q_add, q_mul, q_cl, q_le, q_lt, q_eq, q_in, q_bd_some, eq_self, if_true, if_false, q_b0, q_b1, q_b01, q_bt, q_bf, q_ft, q_tf, Nat.mul_zero, Nat.add_zero, Nat.zero_add, or_true, true_or, not_true_eq_false, not_false_eq_true, reduceCtorEq, show zI 0 = nI 0 from rfl, s_pictures hB.2, show ¬ oN R ≤ (oA D k).toNat by omega, hC.2.1 (oA D k).toNat (by omega), h2]
        exact ⟨M, rfl, fun W' hw' => by cases hw'⟩
    · rw [if_neg (fun z => h1 z.1)] at hx
      rw [hx]
      simp (disch := omega) only [q_lit, q_m1, q_m2, q_m1000, q_add, q_mul, q_cl, q_le, q_lt, q_eq, q_in, q_bd_some, eq_self, if_true, if_false, q_b0, q_b1, q_b01, q_bt, q_bf, q_ft, q_tf, Nat.mul_zero, Nat.add_zero, Nat.zero_add, or_true, true_or, not_true_eq_false, not_false_eq_true, reduceCtorEq, show zI 0 = nI 0 from rfl, s_pictures hB.2, show oN R ≤ (oA D k).toNat by omega]
      exact ⟨M, rfl, fun W' hw' => by cases hw'⟩
  · have := d4 ec
    have hx : actS P R D k W = if (oA D k).toNat < oN R ∧ ¬ wH W (oA D k).toNat = zI (-1) then some (setH W (oA D k).toNat (zI (-1))) else none := by
      unfold actS
      rw [if_neg (by omega), if_pos ec]
    rw [ec, eA (by omega)]
    by_cases h1 : (oA D k).toNat < oN R
    · by_cases h2 : wH W (oA D k).toNat = zI (-1)
      · rw [if_neg (fun z => z.2 h2)] at hx
        rw [hx]
        simp (disch := omega) only [q_lit, q_m1, q_m2, q_m1000, q_add, q_mul, q_cl, q_le, q_lt, q_eq, q_in, q_bd_some, eq_self, if_true, if_false, q_b0, q_b1, q_b01, q_bt, q_bf, q_ft, q_tf, Nat.mul_zero, Nat.add_zero, Nat.zero_add, or_true, true_or, not_true_eq_false, not_false_eq_true, reduceCtorEq, show zI 1 = nI 1 from rfl, s_pictures hB.2, show ¬ oN R ≤ (oA D k).toNat by omega, hC.2.1 (oA D k).toNat (by omega), h2]
        exact ⟨M, rfl, fun W' hw' => by cases hw'⟩
      · rw [if_pos ⟨h1, h2⟩] at hx
        rw [hx]
        simp (disch := omega) only [q_lit, q_m1, q_m2, q_m1000, q_add, q_mul, q_cl, q_le, q_lt, q_eq, q_in, q_bd_some, eq_self, if_true, if_false, q_b0, q_b1, q_b01, q_bt, q_bf, q_ft, q_tf, Nat.mul_zero, Nat.add_zero, Nat.zero_add, or_true, true_or, not_true_eq_false, not_false_eq_true, reduceCtorEq, show zI 1 = nI 1 from rfl, s_pictures hB.2, show ¬ oN R ≤ (oA D k).toNat by omega, hC.2.1 (oA D k).toNat (by omega), h2]
        exact ⟨_, rfl, fun W' hw' => by cases hw'; exact sH _ _⟩
    · rw [if_neg (fun z => h1 z.1)] at hx
      rw [hx]
      simp (disch := omega) only [q_lit, q_m1, q_m2, q_m1000, q_add, q_mul, q_cl, q_le, q_lt, q_eq, q_in, q_bd_some, eq_self, if_true, if_false, q_b0, q_b1, q_b01, q_bt, q_bf, q_ft, q_tf, Nat.mul_zero, Nat.add_zero, Nat.zero_add, or_true, true_or, not_true_eq_false, not_false_eq_true, reduceCtorEq, show zI 1 = nI 1 from rfl, s_pictures hB.2, show oN R ≤ (oA D k).toNat by omega]
      exact ⟨M, rfl, fun W' hw' => by cases hw'⟩
  · have := d5 ec
    have hx : actS P R D k W = if (oB D k).toNat < pH P then some (setW W (oA D k).toNat (zI (oB D k))) else none := by
      unfold actS
      rw [if_neg (by omega), if_neg (by omega), if_pos ec]
    rw [eB (by omega)] at hx
    rw [ec, eA (by omega), eB (by omega)]
    by_cases h1 : (oB D k).toNat < pH P
    · rw [if_pos h1] at hx
      rw [hx]
      simp (disch := omega) only [q_lit, q_m1, q_m2, q_m1000, q_add, q_mul, q_cl, q_le, q_lt, q_eq, q_in, q_bd_some, eq_self, if_true, if_false, q_b0, q_b1, q_b01, q_bt, q_bf, q_ft, q_tf, Nat.mul_zero, Nat.add_zero, Nat.zero_add, or_true, true_or, not_true_eq_false, not_false_eq_true, reduceCtorEq, show zI 2 = nI 2 from rfl, s_isHue hB.1, ix_n, h1, Option.isSome_some]
      exact ⟨_, rfl, fun W' hw' => by cases hw'; exact sW _ _⟩
    · rw [if_neg h1] at hx
      rw [hx]
      simp (disch := omega) only [q_lit, q_m1, q_m2, q_m1000, q_add, q_mul, q_cl, q_le, q_lt, q_eq, q_in, q_bd_some, eq_self, if_true, if_false, q_b0, q_b1, q_b01, q_bt, q_bf, q_ft, q_tf, Nat.mul_zero, Nat.add_zero, Nat.zero_add, or_true, true_or, not_true_eq_false, not_false_eq_true, reduceCtorEq, show zI 2 = nI 2 from rfl, s_isHue hB.1, ix_big, Option.isSome_none]
      exact ⟨M, rfl, fun W' hw' => by cases hw'⟩
  · have := d6 ec
    have hx : actS P R D k W = if wS W (oA D k).toNat = zI (-1) then some (setS W (oA D k).toNat (zI (oB D k))) else none := by
      unfold actS
      rw [if_neg (by omega), if_neg (by omega), if_neg (by omega), if_pos ec]
    rw [ec, eA (by omega)]
    by_cases h2 : wS W (oA D k).toNat = zI (-1)
    · rw [if_pos h2] at hx
      rw [hx]
      simp (disch := omega) only [q_lit, q_m1, q_m2, q_m1000, q_add, q_mul, q_cl, q_le, q_lt, q_eq, q_in, q_bd_some, eq_self, if_true, if_false, q_b0, q_b1, q_b01, q_bt, q_bf, q_ft, q_tf, Nat.mul_zero, Nat.add_zero, Nat.zero_add, or_true, true_or, not_true_eq_false, not_false_eq_true, reduceCtorEq, show zI 3 = nI 3 from rfl, (hC.2.2.2 (oA D k).toNat (by omega)).1, h2]
      exact ⟨_, rfl, fun W' hw' => by cases hw'; exact sS _ _⟩
    · rw [if_neg h2] at hx
      rw [hx]
      simp (disch := omega) only [q_lit, q_m1, q_m2, q_m1000, q_add, q_mul, q_cl, q_le, q_lt, q_eq, q_in, q_bd_some, eq_self, if_true, if_false, q_b0, q_b1, q_b01, q_bt, q_bf, q_ft, q_tf, Nat.mul_zero, Nat.add_zero, Nat.zero_add, or_true, true_or, not_true_eq_false, not_false_eq_true, reduceCtorEq, show zI 3 = nI 3 from rfl, (hC.2.2.2 (oA D k).toNat (by omega)).1, h2]
      exact ⟨M, rfl, fun W' hw' => by cases hw'⟩
  · have := d7 ec
    have hx : actS P R D k W = if ¬ wS W (oA D k).toNat = zI (-1) then some (setS W (oA D k).toNat (zI (-1))) else none := by
      unfold actS
      rw [if_neg (by omega), if_neg (by omega), if_neg (by omega), if_neg (by omega), if_pos ec]
    rw [ec, eA (by omega)]
    by_cases h2 : wS W (oA D k).toNat = zI (-1)
    · rw [if_neg (fun z => z h2)] at hx
      rw [hx]
      simp (disch := omega) only [q_lit, q_m1, q_m2, q_m1000, q_add, q_mul, q_cl, q_le, q_lt, q_eq, q_in, q_bd_some, eq_self, if_true, if_false, q_b0, q_b1, q_b01, q_bt, q_bf, q_ft, q_tf, Nat.mul_zero, Nat.add_zero, Nat.zero_add, or_true, true_or, not_true_eq_false, not_false_eq_true, reduceCtorEq, show zI 4 = nI 4 from rfl, (hC.2.2.2 (oA D k).toNat (by omega)).1, h2]
      exact ⟨M, rfl, fun W' hw' => by cases hw'⟩
    · rw [if_pos h2] at hx
      rw [hx]
      simp (disch := omega) only [q_lit, q_m1, q_m2, q_m1000, q_add, q_mul, q_cl, q_le, q_lt, q_eq, q_in, q_bd_some, eq_self, if_true, if_false, q_b0, q_b1, q_b01, q_bt, q_bf, q_ft, q_tf, Nat.mul_zero, Nat.add_zero, Nat.zero_add, or_true, true_or, not_true_eq_false, not_false_eq_true, reduceCtorEq, show zI 4 = nI 4 from rfl, (hC.2.2.2 (oA D k).toNat (by omega)).1, h2]
      exact ⟨_, rfl, fun W' hw' => by cases hw'; exact sS _ _⟩
  · have hx : actS P R D k W = some (hourW P R W) := by
      unfold actS
      rw [if_neg (by omega), if_neg (by omega), if_neg (by omega), if_neg (by omega), if_neg (by omega)]
    obtain ⟨M', g1, g2, g3⟩ := m_hour hB hg hW hC
    rw [hx, ec]
    simp (disch := omega) only [q_lit, q_m1, q_m2, q_m1000, q_add, q_mul, q_cl, q_le, q_lt, q_eq, q_in, q_bd_some, eq_self, if_true, if_false, q_b0, q_b1, q_b01, q_bt, q_bf, q_ft, q_tf, Nat.mul_zero, Nat.add_zero, Nat.zero_add, or_true, true_or, not_true_eq_false, not_false_eq_true, reduceCtorEq, show zI 5 = nI 5 from rfl, g1]
    exact ⟨M', rfl, fun W' hw' => by cases hw'; exact g2⟩
theorem m_begin34 {M0 M : PM} (hf : hr_fr hW_X11_begin M0 M) (h2 : ∀ j, j < 9 → M.1 290 j = zI (-1)) (h3 : ∀ j, j < oN R → M.1 291 j = zI (oB R j)) : ∃ M', f_X11_begin_34 FU (nI 0) M = some ((), M') ∧ mW M' R (begW R) ∧ hr_fr hW_X11_begin M0 M' := by
  refine hr_for (σ := PM) (fun f p M => f_X11_begin_34 f (nI p) M) 6 (fun p M => ((∀ j, j < 9 → M.1 290 j = zI (-1)) ∧ (∀ j, j < oN R → M.1 291 j = zI (oB R j)) ∧ ∀ j, j < p → M.1 292 j = zI (-1) ∧ M.1 293 j = zI (-1) ∧ M.1 294 j = nI 0) ∧ hr_fr hW_X11_begin M0 M) (fun x => ∃ M', x = some ((), M') ∧ mW M' R (begW R) ∧ hr_fr hW_X11_begin M0 M') ?_ ?_ FU 0 M (Nat.zero_le _) (FU_ok (by omega)) ⟨⟨h2, h3, fun j hj => by omega⟩, hf⟩
  · rintro f p M hp ⟨⟨h2, h3, h4⟩, hf⟩
    right
    show ∃ s', f_X11_begin_34 (f + 1) (nI p) M = f_X11_begin_34 f (nI (p + 1)) s' ∧ _
    rw [f_X11_begin_34.eq_2]
    simp (disch := omega) only [q_lit, q_m1, q_m2, q_m1000, q_add, q_mul, q_cl, q_le, q_lt, q_eq, q_in, q_bd_some, eq_self, if_true, if_false, q_b0, q_b1, q_b01, q_bt, q_bf, q_ft, q_tf, Nat.mul_zero, Nat.add_zero, Nat.zero_add, or_true, true_or, not_true_eq_false, not_false_eq_true, reduceCtorEq, show ¬ 6 ≤ p by omega]
    refine ⟨_, rfl, ⟨fun j hj => by simp [q_si1]; exact h2 j hj, fun j hj => by simp [q_si1]; exact h3 j hj, fun j hj => ?_⟩, hr_fr.si rfl (hr_fr.si rfl (hr_fr.si rfl hf))⟩
    by_cases e : j = p
    · subst e
      simp [q_si1]
    · simp [q_si1, e]
      exact h4 j (by omega)
  · rintro f M ⟨⟨h2, h3, h4⟩, hf⟩
    show ∃ M', f_X11_begin_34 (f + 1) (nI 6) M = _ ∧ _
    rw [f_X11_begin_34.eq_2]
    simp (disch := omega) only [q_lit, q_m1, q_m2, q_m1000, q_add, q_mul, q_cl, q_le, q_lt, q_eq, q_in, q_bd_some, eq_self, if_true, if_false, q_b0, q_b1, q_b01, q_bt, q_bf, q_ft, q_tf, Nat.mul_zero, Nat.add_zero, Nat.zero_add, or_true, true_or, not_true_eq_false, not_false_eq_true, reduceCtorEq, Nat.le_refl]
    refine ⟨_, rfl, ⟨?_, ?_, ?_, ?_⟩, hr_fr.si rfl (hr_fr.si rfl (hr_fr.si rfl (hr_fr.si rfl hf)))⟩
    · simp [q_si1]
      rfl
    · intro j hj; simp [q_si1]; exact h2 j hj
    · intro j hj; simp [q_si1]; exact h3 j hj
    · intro j hj; simp [q_si1]; exact h4 j hj
theorem m_begin {M0 : PM} (hG : gG M0 g R) (hn : oN R ≤ 9) : ∃ M', f_X11_begin M0 = some ((), M') ∧ mW M' R (begW R) ∧ hr_fr hW_X11_begin M0 M' := by
  unfold f_X11_begin
  refine hr_for (σ := PM) (fun f k M => f_X11_begin_2 f (nI k) M) 9 (fun k M => ((∀ j, j < k → M.1 290 j = zI (-1)) ∧ (∀ j, j < k → j < oN R → M.1 291 j = zI (oB R j))) ∧ hr_fr hW_X11_begin M0 M) (fun x => ∃ M', x = some ((), M') ∧ mW M' R (begW R) ∧ hr_fr hW_X11_begin M0 M') ?_ ?_ FU 0 _ (Nat.zero_le _) (FU_ok (by omega)) ⟨⟨fun j hj => by omega, fun j hj => by omega⟩, hr_fr.rf _ _⟩
  · rintro f k M hk ⟨⟨h2, h3⟩, hf⟩
    right
    have hf1 : hr_fr hW_X11_begin M0 (hr_si M 290 k (zI (-1))) := hr_fr.si rfl hf
    have hG1 : gG (hr_si M 290 k (zI (-1))) g R := hG.at (hf1.row 282 (fun _ => rfl)) (hf1.at 275 28 rfl)
    have hgk := hG1.1.1
    have ea : f_X11_areaOf (nI k) (hr_si M 290 k (zI (-1))) = some ((hr_si M 290 k (zI (-1))).1 282 (20 * g + 3 + 2 * k), hr_si M 290 k (zI (-1))) := by
      unfold f_X11_areaOf
      rw [hG1.2.1]
      simp (disch := omega) only [q_lit, q_m1, q_m2, q_m1000, q_add, q_mul, q_cl, q_le, q_lt, q_eq, q_in, q_bd_some, eq_self, if_true, if_false, q_b0, q_b1, q_b01, q_bt, q_bf, q_ft, q_tf, Nat.mul_zero, Nat.add_zero, Nat.zero_add, or_true, true_or, not_true_eq_false, not_false_eq_true, reduceCtorEq]
    show ∃ s', f_X11_begin_2 (f + 1) (nI k) M = f_X11_begin_2 f (nI (k + 1)) s' ∧ _
    rw [f_X11_begin_2.eq_2]
    simp (disch := omega) only [q_lit, q_m1, q_m2, q_m1000, q_add, q_mul, q_cl, q_le, q_lt, q_eq, q_in, q_bd_some, eq_self, if_true, if_false, q_b0, q_b1, q_b01, q_bt, q_bf, q_ft, q_tf, Nat.mul_zero, Nat.add_zero, Nat.zero_add, or_true, true_or, not_true_eq_false, not_false_eq_true, reduceCtorEq, show ¬ 9 ≤ k by omega, ea]
    refine ⟨_, rfl, ⟨fun j hj => ?_, fun j hj hj2 => ?_⟩, hr_fr.si rfl hf1⟩
    · rw [si_ne _ _ _ (show 290 ≠ 291 by omega), si_same]
      by_cases e : j = k
      · rw [if_pos e]
      · rw [if_neg e]; exact h2 j (by omega)
    · rw [si_same]
      by_cases e : j = k
      · rw [if_pos e, e]; rw [e] at hj2; exact (hG1.2.2.2 k hj2).2
      · rw [if_neg e, si_ne _ _ _ (show 291 ≠ 290 by omega)]; exact h3 j (by omega) hj2
  · rintro f M ⟨⟨h2, h3⟩, hf⟩
    show ∃ M', f_X11_begin_2 (f + 1) (nI 9) M = _ ∧ _
    rw [f_X11_begin_2.eq_2]
    simp (disch := omega) only [q_lit, q_m1, q_m2, q_m1000, q_add, q_mul, q_cl, q_le, q_lt, q_eq, q_in, q_bd_some, eq_self, if_true, if_false, q_b0, q_b1, q_b01, q_bt, q_bf, q_ft, q_tf, Nat.mul_zero, Nat.add_zero, Nat.zero_add, or_true, true_or, not_true_eq_false, not_false_eq_true, reduceCtorEq, Nat.le_refl]
    exact m_begin34 hf h2 (fun j hj => h3 j (by omega) hj)
theorem m_play {M0 : PM} (hB : mB M0 q P g R) (hD : gD M0 d D) (hg : gOK P R) {n : Nat} (hn : n ≤ oN D) : ∃ M', f_X11_play (nI n) M0 = some (nI (doneS P R D n), M') ∧ (∀ W, goS P R D (begW R) n = some W → mW M' R W) ∧ (doneS P R D n = n ↔ (goS P R D (begW R) n).isSome = true) ∧ hr_fr hW_X11_play M0 M' := by
  have h40 : oN D ≤ 40 := hD.1.2.1
  have ok := hD.1.2.2
  have hfin : ∃ M', f_X11_play (nI n) M0 = some (nI (doneS P R D n), M') ∧ (∀ W, goS P R D (begW R) n = some W → mW M' R W) ∧ (doneS P R D n = n ↔ (goS P R D (begW R) n).isSome = true) := by
    have hWb : wOK P (begW R) := ⟨fun k _ => Or.inl rfl, fun p _ => Or.inl rfl⟩
    unfold f_X11_play
    obtain ⟨M1, b1, b2, b3⟩ := m_begin hB.2 hg.1.2.1
    rw [b1, q_bd_some]
    refine hr_for (σ := PM) (fun f k M => f_X11_play_6 (nI n) f (nI k) M) n (fun k M => (∃ W, goS P R D (begW R) k = some W ∧ mW M R W) ∧ hr_fr hW_X11_play M0 M) (fun x => ∃ M', x = some (nI (doneS P R D n), M') ∧ (∀ W, goS P R D (begW R) n = some W → mW M' R W) ∧ (doneS P R D n = n ↔ (goS P R D (begW R) n).isSome = true)) ?_ ?_ FU 0 M1 (Nat.zero_le _) (FU_ok (by omega)) ⟨⟨_, rfl, b2⟩, hr_fr.mono rfl b3⟩
    · rintro f k M hk ⟨⟨W, w1, w2⟩, hf⟩
      have hBM := hB.fr hf rfl
      have hDM := hD.fr hf rfl
      have hW := goS_ok ok hWb (show k ≤ oN D by omega) w1
      obtain ⟨M', g1, g2⟩ := m_does hBM hDM (show k < oN D by omega) hg hW w2
      have hf' := hf.tr (hr_fr.mono (V := hW_X11_play) rfl (fr_X11_does (nI k) M _ g1))
      show (∃ M', f_X11_play_6 (nI n) (f + 1) (nI k) M = _ ∧ _) ∨ ∃ s', f_X11_play_6 (nI n) (f + 1) (nI k) M = f_X11_play_6 (nI n) f (nI (k + 1)) s' ∧ _
      rw [f_X11_play_6.eq_2]
      simp (disch := omega) only [q_lit, q_m1, q_m2, q_m1000, q_add, q_mul, q_cl, q_le, q_lt, q_eq, q_in, q_bd_some, eq_self, if_true, if_false, q_b0, q_b1, q_b01, q_bt, q_bf, q_ft, q_tf, Nat.mul_zero, Nat.add_zero, Nat.zero_add, or_true, true_or, not_true_eq_false, not_false_eq_true, reduceCtorEq, show ¬ n ≤ k by omega, g1]
      have e2 : goS P R D (begW R) (k + 1) = actS P R D k W := by
        show (goS P R D (begW R) k).bind _ = _
        rw [w1]
        rfl
      cases hx : actS P R D k W with
      | none =>
        left
        have e3 := goS_none (show k + 1 ≤ n by omega) (e2.trans hx)
        have e4 := doneS_eq hk w1 hx
        rw [if_pos (show (none : Option Wk).isSome = false from rfl), e4]
        refine ⟨M', rfl, fun W hw => ?_, ?_⟩
        · rw [e3] at hw; cases hw
        · rw [e3]
          constructor
          · intro z; omega
          · intro z; cases z
      | some W' =>
        right
        rw [if_neg (show ¬ (some W').isSome = false by simp)]
        exact ⟨M', rfl, ⟨W', e2.trans hx, g2 W' hx⟩, hf'⟩
    · rintro f M ⟨⟨W, w1, w2⟩, hf⟩
      show ∃ M', f_X11_play_6 (nI n) (f + 1) (nI n) M = _ ∧ _
      rw [f_X11_play_6.eq_2]
      simp (disch := omega) only [q_lit, q_m1, q_m2, q_m1000, q_add, q_mul, q_cl, q_le, q_lt, q_eq, q_in, q_bd_some, eq_self, if_true, if_false, q_b0, q_b1, q_b01, q_bt, q_bf, q_ft, q_tf, Nat.mul_zero, Nat.add_zero, Nat.zero_add, or_true, true_or, not_true_eq_false, not_false_eq_true, reduceCtorEq, Nat.le_refl]
      rw [doneS_all w1]
      refine ⟨M, rfl, fun W2 hw => ?_, ?_⟩
      · rw [w1] at hw; cases hw; exact w2
      · rw [w1]; exact ⟨fun _ => rfl, fun _ => rfl⟩
  obtain ⟨M', h1, h2, h3⟩ := hfin
  exact ⟨M', h1, h2, h3, fr_X11_play (nI n) M0 _ h1⟩
end MOD
section MOD2
variable {M : PM} {T : Tol}
theorem m_stop (hT : mT M 0 T) (ok : tOK T) (p g d : Int32) : hw (f_X11_stop p g d M) (fun v _ => v = sp_stop T p g d) := by
  unfold f_X11_stop sp_stop
  obtain ⟨e1, e2⟩ := m_hasDay (hT.si (k := 0) (v := 0)) ok d
  rw [e1, q_bd_some]
  cases hd : ix d (tz T 2) with
  | none => exact hw.ok rfl
  | some d =>
    obtain ⟨rfl, ld, -⟩ := ix_some hd
    rw [if_neg (show ¬ bI (some d).isSome = 0 from (by decide : ¬ nI 1 = 0))]
    refine hw.bd ((m_layGallery ((hT.si (k := 0) (v := 0)).si (k := 29) (v := nI d)) ok p g).mono (fun v M' h => ?_))
    obtain ⟨h, hf⟩ := h
    cases hg : ix g (tz T 1) with
    | none =>
      rw [hg] at h
      dsimp only at h
      rw [h]
      cases ix p (tz T 0) <;> exact hw.ok rfl
    | some g =>
      cases hp : ix p (tz T 0) with
      | none =>
        rw [hg, hp] at h
        dsimp only at h
        rw [h]
        exact hw.ok rfl
      | some p =>
        rw [hg, hp] at h
        dsimp only at h ⊢
        obtain ⟨rfl, hH, hG⟩ := h
        have hDM : gD M' d (tR T 2 d) := (e2 d rfl ld).at (hf.row 283 (fun _ => rfl)) (hf.at 275 29 rfl)
        cases ht : tog (tP T p) (tR T 1 g) with
        | false => exact hw.ok rfl
        | true =>
          rw [if_neg (show ¬ bI true = 0 by decide), if_pos rfl, s_deeds hDM, q_bd_some]
          obtain ⟨M2, g1, -⟩ := m_play ⟨hH, hG⟩ hDM (gOK.of hH.1.1.2 hG.1.2 ht) (Nat.le_refl _)
          rw [g1]
          exact hw.ok rfl
end MOD2
