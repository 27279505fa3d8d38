/-! THE MODEL'S HOUR -/
theorem si_ne (M : PM) {a b : Nat} (k : Nat) (v : Int32) (h : b ≠ a) : (hr_si M a k v).1 b = M.1 b := by
  funext j
  rw [q_si1, if_neg h]
section MOD
variable {q g : Nat} {P : Pal} {R : Rol}
theorem m_hour57 {M0 : PM} (k4 : Int32 → Int32 → PM → Option (Unit × PM)) (x1 : Int32) (r : Nat) (v : Int32) {X : Wk} {M : PM} (hf : hr_fr hW_X11_hour M0 M) (hC : mW M R X) : ∃ M', f_X11_hour_57 k4 FU x1 (nI r) v (nI 0) M = k4 x1 (nI (r + 1)) M' ∧ mW M' R (sneW X r 6 v) ∧ hr_fr hW_X11_hour M0 M' := by
  refine hr_for (σ := PM) (fun f p N => f_X11_hour_57 k4 f x1 (nI r) v (nI p) N) 6 (fun p N => mW N R (sneW X r p v) ∧ hr_fr hW_X11_hour M0 N) (fun x => ∃ M', x = k4 x1 (nI (r + 1)) M' ∧ mW M' R (sneW X r 6 v) ∧ hr_fr hW_X11_hour M0 M') ?_ ?_ FU 0 M (Nat.zero_le _) (FU_ok (by omega)) ⟨⟨hC.1, hC.2.1, hC.2.2.1, fun p hp => ⟨(hC.2.2.2 p hp).1, (hC.2.2.2 p hp).2.1, (hC.2.2.2 p hp).2.2.trans (sneW_0 X r v p).symm⟩⟩, hf⟩
  · rintro f p N hp ⟨hC, hf⟩
    right
    have c4 := hC.2.2.2 p hp
    have e4 : N.1 294 p = wN X p := by
      rw [c4.2.2]
      show (if p < p ∧ wS X p = nI r then wN X p + v else wN X p) = _
      rw [if_neg (by omega)]
    have e1 : N.1 292 p = wS X p := c4.1
    have fin : ∀ u, u = (if p < p + 1 ∧ wS X p = nI r then wN X p + v else wN X p) → mW (hr_si N 294 p u) R (sneW X r (p + 1) v) := by
      intro u hu
      refine ⟨?_, ?_, ?_, ?_⟩
      · rw [si_ne N p u (by omega)]; exact hC.1
      · rw [si_ne N p u (by omega)]; exact hC.2.1
      · rw [si_ne N p u (by omega)]; exact hC.2.2.1
      · intro j hj
        have d := hC.2.2.2 j hj
        rw [si_ne N p u (show 292 ≠ 294 by omega), si_ne N p u (show 293 ≠ 294 by omega), si_same]
        refine ⟨d.1, d.2.1, ?_⟩
        show _ = (if j < p + 1 ∧ wS X j = nI r then wN X j + v else wN X j)
        by_cases e : j = p
        · subst e
          rw [if_pos rfl]
          exact hu
        · rw [if_neg e, d.2.2]
          show (if j < p ∧ wS X j = nI r then wN X j + v else wN X j) = _
          by_cases h2 : j < p ∧ wS X j = nI r
          · rw [if_pos h2, if_pos ⟨by omega, h2.2⟩]
          · rw [if_neg h2, if_neg (fun z => h2 ⟨by omega, z.2⟩)]
    show ∃ s', f_X11_hour_57 k4 (f + 1) x1 (nI r) v (nI p) N = f_X11_hour_57 k4 f x1 (nI r) v (nI (p + 1)) s' ∧ _
    rw [f_X11_hour_57.eq_2]
    simp (disch := omega) only [q_lit, q_m1, q_m2, q_m1000, q_add, q_mul, q_cl, q_le, q_lt, q_eq, q_in, q_bd_some, eq_self, if_true, if_false, q_b0, q_b1, q_b01, q_bt, q_bf, q_ft, q_tf, Nat.mul_zero, Nat.add_zero, Nat.zero_add, or_true, true_or, not_true_eq_false, not_false_eq_true, reduceCtorEq, show ¬ 6 ≤ p by omega, e1, e4]
    by_cases h1 : wS X p = nI r
    · rw [if_pos h1]
      exact ⟨_, rfl, fin _ (by rw [if_pos ⟨by omega, h1⟩]), hr_fr.si rfl hf⟩
    · rw [if_neg h1]
      exact ⟨_, rfl, fin _ (by rw [if_neg (fun z => h1 z.2)]; show wN X p + zI 0 = _; exact Int32.add_zero _), hr_fr.si rfl hf⟩
  · rintro f N ⟨hC, hf⟩
    show ∃ M', f_X11_hour_57 k4 (f + 1) x1 (nI r) v (nI 6) N = _ ∧ _
    rw [f_X11_hour_57.eq_2]
    simp (disch := omega) only [q_lit, q_m1, q_m2, q_m1000, q_add, q_mul, q_cl, q_le, q_lt, q_eq, q_in, q_bd_some, eq_self, if_true, if_false, q_b0, q_b1, q_b01, q_bt, q_bf, q_ft, q_tf, Nat.mul_zero, Nat.add_zero, Nat.zero_add, or_true, true_or, not_true_eq_false, not_false_eq_true, reduceCtorEq, Nat.le_refl]
    exact ⟨N, rfl, hC, hf⟩
theorem m_hour157 {M0 : PM} (hB : mB M0 q P g R) (hn : oN R ≤ 9) {F : Nat} (hF : F < 1024) {X : Wk} {M : PM} (hf : hr_fr hW_X11_hour M0 M) (hC : mW M R X) : ∃ M', f_X11_hour_157 FU (nI F) (nI 0) M = some ((), M') ∧ mW M' R (((wF X).1 + 1, (wF X).2), X.2.1, (areW X F (oN R)).2.2.1, X.2.2.2.1, X.2.2.2.2.1, X.2.2.2.2.2) ∧ hr_fr hW_X11_hour M0 M' := by
  refine hr_for (σ := PM) (fun f k N => f_X11_hour_157 f (nI F) (nI k) N) (oN R) (fun k N => mW N R (areW X F k) ∧ hr_fr hW_X11_hour M0 N) (fun x => ∃ M', x = some ((), M') ∧ mW M' R (((wF X).1 + 1, (wF X).2), X.2.1, (areW X F (oN R)).2.2.1, X.2.2.2.1, X.2.2.2.2.1, X.2.2.2.2.2) ∧ hr_fr hW_X11_hour M0 M') ?_ ?_ FU 0 M (Nat.zero_le _) (FU_ok (by omega)) ⟨⟨hC.1, hC.2.1, fun k hk => (hC.2.2.1 k hk).trans (areW_0 X F k).symm, hC.2.2.2⟩, hf⟩
  · rintro f k N hk ⟨hC, hf⟩
    right
    have hBN := hB.fr hf rfl
    have e4 : N.1 291 k = wA X k := by
      rw [hC.2.2.1 k hk]
      show (if k < k ∧ F.testBit k = true then wA X k - 1 else wA X k) = _
      rw [if_neg (by omega)]
    have fin : ∀ u, u = (if k < k + 1 ∧ F.testBit k = true then wA X k - 1 else wA X k) → mW (hr_si N 291 k u) R (areW X F (k + 1)) := by
      intro u hu
      refine ⟨?_, ?_, ?_, ?_⟩
      · rw [si_ne N k u (by omega)]; exact hC.1
      · rw [si_ne N k u (by omega)]; exact hC.2.1
      · intro j hj
        rw [si_same]
        show _ = (if j < k + 1 ∧ F.testBit j = true then wA X j - 1 else wA X j)
        by_cases e : j = k
        · subst e
          rw [if_pos rfl]
          exact hu
        · rw [if_neg e, hC.2.2.1 j hj]
          show (if j < k ∧ F.testBit j = true then wA X j - 1 else wA X j) = _
          by_cases h2 : j < k ∧ F.testBit j = true
          · rw [if_pos h2, if_pos ⟨by omega, h2.2⟩]
          · rw [if_neg h2, if_neg (fun z => h2 ⟨by omega, z.2⟩)]
      · rw [si_ne N k u (show 292 ≠ 291 by omega), si_ne N k u (show 293 ≠ 291 by omega), si_ne N k u (show 294 ≠ 291 by omega)]; exact hC.2.2.2
    show ∃ s', f_X11_hour_157 (f + 1) (nI F) (nI k) N = f_X11_hour_157 f (nI F) (nI (k + 1)) s' ∧ _
    rw [f_X11_hour_157.eq_2]
    simp (disch := omega) only [q_lit, q_m1, q_m2, q_m1000, q_add, q_mul, q_cl, q_le, q_lt, q_eq, q_in, q_bd_some, eq_self, if_true, if_false, q_b0, q_b1, q_b01, q_bt, q_bf, q_ft, q_tf, Nat.mul_zero, Nat.add_zero, Nat.zero_add, or_true, true_or, not_true_eq_false, not_false_eq_true, reduceCtorEq, s_pictures hBN.2, show ¬ oN R ≤ k by omega, s_has11, e4]
    cases h1 : F.testBit k with
    | false =>
      rw [if_pos rfl]
      exact ⟨_, rfl, fin _ (by rw [h1, if_neg (fun z => by cases z.2)]; exact Int32.sub_zero _), hr_fr.si rfl hf⟩
    | true =>
      rw [if_neg (by simp)]
      exact ⟨_, rfl, fin _ (by rw [h1, if_pos ⟨by omega, rfl⟩]; rfl), hr_fr.si rfl hf⟩
  · rintro f N ⟨hC, hf⟩
    have hBN := hB.fr hf rfl
    show ∃ M', f_X11_hour_157 (f + 1) (nI F) (nI (oN R)) N = _ ∧ _
    rw [f_X11_hour_157.eq_2]
    simp (disch := omega) only [q_lit, q_m1, q_m2, q_m1000, q_add, q_mul, q_cl, q_le, q_lt, q_eq, q_in, q_bd_some, eq_self, if_true, if_false, q_b0, q_b1, q_b01, q_bt, q_bf, q_ft, q_tf, Nat.mul_zero, Nat.add_zero, Nat.zero_add, or_true, true_or, not_true_eq_false, not_false_eq_true, reduceCtorEq, s_pictures hBN.2, Nat.le_refl]
    refine ⟨_, rfl, ⟨?_, ?_, ?_, ?_⟩, hr_fr.si rfl hf⟩
    · have c := hC.1
      simp only [Prod.ext_iff] at c
      rw [si_same, si_same, si_same, si_same, if_pos rfl, if_neg (by omega), if_neg (by omega), if_neg (by omega)]
      show _ = ((wF X).1 + 1, (wF X).2.1, (wF X).2.2.1, (wF X).2.2.2)
      rw [c.1, c.2.1, c.2.2.1, c.2.2.2]
      rfl
    · rw [si_ne N _ _ (show 290 ≠ 275 by omega)]; exact hC.2.1
    · rw [si_ne N _ _ (show 291 ≠ 275 by omega)]; exact hC.2.2.1
    · rw [si_ne N _ _ (show 292 ≠ 275 by omega), si_ne N _ _ (show 293 ≠ 275 by omega), si_ne N _ _ (show 294 ≠ 275 by omega)]; exact hC.2.2.2
theorem m_hour104 {M : PM} (hB : mB M q P g R) (hg : gOK P R) {W : Wk} (hW : wOK P W) (hC : mW M R W) : f_X11_hour_104 FU (nI 0) (nI 0) M = f_X11_hour_157 FU (nI (bset (fadS P R W) (oN R))) (nI 0) M := by
  have hn : oN R ≤ 9 := hg.1.2.1
  refine hr_for (σ := Int32) (fun f k x => f_X11_hour_104 f x (nI k) M) (oN R) (fun k x => x = nI (bset (fadS P R W) k)) (fun z => z = f_X11_hour_157 FU (nI (bset (fadS P R W) (oN R))) (nI 0) M) ?_ ?_ FU 0 (nI 0) (Nat.zero_le _) (FU_ok (by omega)) rfl
  · rintro f k x hk rfl
    right
    have e1 := hC.2.1 k (by omega)
    have e2 := hC.2.2.1 k hk
    have eb : bset (fadS P R W) (k + 1) = bset (fadS P R W) k ||| (if fadS P R W k then 2 ^ k else 0) := rfl
    show ∃ s', f_X11_hour_104 (f + 1) _ (nI k) M = f_X11_hour_104 f s' (nI (k + 1)) M ∧ _
    rw [f_X11_hour_104.eq_2]
    simp (disch := omega) only [q_lit, q_m1, q_m2, q_m1000, q_add, q_mul, q_cl, q_le, q_lt, q_eq, q_in, q_bd_some, eq_self, if_true, if_false, q_b0, q_b1, q_b01, q_bt, q_bf, q_ft, q_tf, Nat.mul_zero, Nat.add_zero, Nat.zero_add, or_true, true_or, not_true_eq_false, not_false_eq_true, reduceCtorEq, s_pictures hB.2, show ¬ oN R ≤ k by omega, e1, e2, q_or, Nat.or_zero, q_jl]
    rw [eb]
    rcases hW.1 k (by omega) with h1 | ⟨r, hr, h1⟩
    · rw [if_pos h1, fad_off (by omega) (Or.inl h1)]
      exact ⟨_, rfl, by rw [if_neg (by simp), Nat.or_zero]⟩
    · rw [if_neg (fun z => by rw [h1] at z; have := (q_nzeq (by omega) (by omega)).mp z; omega)]
      by_cases h2 : wA W k ≤ 0
      · rw [if_pos (show wA W k ≤ nI 0 from h2), fad_off (by omega) (Or.inr h2)]
        exact ⟨_, rfl, by rw [if_neg (by simp), Nat.or_zero]⟩
      · rw [if_neg (show ¬ wA W k ≤ nI 0 from h2), s_isClashing hB hg hW hC hk h1 h2, q_bd_some, fad_at (by omega) hr h1]
        cases hc : clsS P R W r k with
        | false =>
          rw [if_pos (show bI false = nI 0 from rfl)]
          exact ⟨_, rfl, by rw [if_neg (by simp), Nat.or_zero]⟩
        | true =>
          rw [if_neg (show ¬ bI true = nI 0 by decide)]
          exact ⟨_, rfl, by rw [if_pos rfl]⟩
  · rintro f x rfl
    show f_X11_hour_104 (f + 1) _ (nI (oN R)) M = _
    rw [f_X11_hour_104.eq_2]
    simp (disch := omega) only [q_lit, q_m1, q_m2, q_m1000, q_add, q_mul, q_cl, q_le, q_lt, q_eq, q_in, q_bd_some, eq_self, if_true, if_false, q_b0, q_b1, q_b01, q_bt, q_bf, q_ft, q_tf, Nat.mul_zero, Nat.add_zero, Nat.zero_add, or_true, true_or, not_true_eq_false, not_false_eq_true, reduceCtorEq, s_pictures hB.2, Nat.le_refl]
theorem m_hour {M0 : PM} (hB : mB M0 q P g R) (hg : gOK P R) {W : Wk} (hW : wOK P W) (hC : mW M0 R W) : ∃ M', f_X11_hour M0 = some ((), M') ∧ mW M' R (hourW P R W) ∧ hr_fr hW_X11_hour M0 M' := by
  have h10 : pH P ≤ 10 := hg.1.1.1
  have hn : oN R ≤ 9 := hg.1.2.1
  have hl : oL R ≤ 99 := hg.1.2.2
  unfold f_X11_hour
  refine hr_for (σ := PM) (fun f r M => f_X11_hour_4 f (nI 0) (nI r) M) 4 (fun r M => mW M R (fol (roomW P R) W r) ∧ hr_fr hW_X11_hour M0 M) (fun x => ∃ M', x = some ((), M') ∧ mW M' R (hourW P R W) ∧ hr_fr hW_X11_hour M0 M') ?_ ?_ FU 0 M0 (Nat.zero_le _) (FU_ok (by omega)) ⟨hC, hr_fr.rf _ _⟩
  · rintro f r M hr ⟨hC, hf⟩
    right
    have hs := rooms_same P R W r
    have hBM := hB.fr hf rfl
    have r1 := s_rash11 hBM hg (wOK_same ⟨hs.1, hs.2.2.2.1⟩ hW) hC r
    have hrs := rashS_le hg.1.1 R (fol (roomW P R) W r) r
    have key : ∀ M2 fh fr', mW M2 R (((wF (fol (roomW P R) W r)).1, (wF (fol (roomW P R) W r)).2.1 + nI (rashS P R (fol (roomW P R) W r) r), fh, fr'), (fol (roomW P R) W r).2) → hr_fr hW_X11_hour M0 M2 → (fh = if ¬ nI (rashS P R (fol (roomW P R) W r) r) ≤ nI (oL R) ∧ (wF (fol (roomW P R) W r)).2.2.1 = zI (-1) then (wF (fol (roomW P R) W r)).1 else (wF (fol (roomW P R) W r)).2.2.1) → (fr' = if ¬ nI (rashS P R (fol (roomW P R) W r) r) ≤ nI (oL R) ∧ (wF (fol (roomW P R) W r)).2.2.1 = zI (-1) then nI r else (wF (fol (roomW P R) W r)).2.2.2) →
        ∃ s' : PM, f_X11_hour_57 (fun x1 x2 M => f_X11_hour_4 f x1 x2 M) FU (nI 0) (nI r) (nI (rashS P R (fol (roomW P R) W r) r)) (nI 0) M2 = f_X11_hour_4 f (nI 0) (nI (r + 1)) s' ∧ mW s' R (fol (roomW P R) W (r + 1)) ∧ hr_fr hW_X11_hour M0 s' := by
      intro M2 fh fr' c2 cf c3 c4
      obtain ⟨M3, d1, d2, d4⟩ := m_hour57 (fun x1 x2 M => f_X11_hour_4 f x1 x2 M) (nI 0) r (nI (rashS P R (fol (roomW P R) W r) r)) cf c2
      refine ⟨M3, d1, ?_, d4⟩
      rw [fol_s]
      refine ⟨?_, d2.2.1, d2.2.2.1, fun p hp => ⟨(d2.2.2.2 p hp).1, (d2.2.2.2 p hp).2.1, ?_⟩⟩
      · rw [d2.1]
        show (_, _, fh, fr') = _
        rw [c3, c4]
        rfl
      · rw [(d2.2.2.2 p hp).2.2]
        show (if p < 6 ∧ wS (fol (roomW P R) W r) p = nI r then wN (fol (roomW P R) W r) p + _ else wN (fol (roomW P R) W r) p) = (if wS (fol (roomW P R) W r) p = nI r then wN (fol (roomW P R) W r) p + _ else wN (fol (roomW P R) W r) p)
        by_cases hq : wS (fol (roomW P R) W r) p = nI r
        · rw [if_pos ⟨hp, hq⟩, if_pos hq]
        · rw [if_neg (fun z => hq z.2), if_neg hq]
    show ∃ s', f_X11_hour_4 (f + 1) (nI 0) (nI r) M = f_X11_hour_4 f (nI 0) (nI (r + 1)) s' ∧ _
    rw [f_X11_hour_4.eq_2]
    have cF := hC.1
    have e0 : M.1 275 35 = (wF (fol (roomW P R) W r)).1 := by rw [← cF]
    have e1 : M.1 275 36 = (wF (fol (roomW P R) W r)).2.1 := by rw [← cF]
    have e2 : M.1 275 37 = (wF (fol (roomW P R) W r)).2.2.1 := by rw [← cF]
    have e3 : M.1 275 38 = (wF (fol (roomW P R) W r)).2.2.2 := by rw [← cF]
    let M1 := hr_si M 275 36 ((wF (fol (roomW P R) W r)).2.1 + nI (rashS P R (fol (roomW P R) W r) r))
    have hf1 : hr_fr hW_X11_hour M0 M1 := hr_fr.si rfl hf
    have hB1 : mB M1 q P g R := hB.fr hf1 rfl
    have g2 : M1.1 275 37 = (wF (fol (roomW P R) W r)).2.2.1 := by rw [si_same, if_neg (by omega)]; exact e2
    have g0 : M1.1 275 35 = (wF (fol (roomW P R) W r)).1 := by rw [si_same, if_neg (by omega)]; exact e0
    have cN : mW M1 R (((wF (fol (roomW P R) W r)).1, (wF (fol (roomW P R) W r)).2.1 + nI (rashS P R (fol (roomW P R) W r) r), (wF (fol (roomW P R) W r)).2.2.1, (wF (fol (roomW P R) W r)).2.2.2), (fol (roomW P R) W r).2) := by
      refine ⟨?_, ?_, ?_, ?_⟩
      · rw [g2, g0, si_same, if_pos rfl, si_same, if_neg (by omega), e3]
        rfl
      · rw [si_ne M _ _ (show 290 ≠ 275 by omega)]; exact hC.2.1
      · rw [si_ne M _ _ (show 291 ≠ 275 by omega)]; exact hC.2.2.1
      · rw [si_ne M _ _ (show 292 ≠ 275 by omega), si_ne M _ _ (show 293 ≠ 275 by omega), si_ne M _ _ (show 294 ≠ 275 by omega)]; exact hC.2.2.2
    simp (disch := omega) only [q_lit, q_m1, q_m2, q_m1000, q_add, q_mul, q_cl, q_le, q_lt, q_eq, q_in, q_bd_some, eq_self, if_true, if_false, q_b0, q_b1, q_b01, q_bt, q_bf, q_ft, q_tf, Nat.mul_zero, Nat.add_zero, Nat.zero_add, or_true, true_or, not_true_eq_false, not_false_eq_true, reduceCtorEq, show ¬ 4 ≤ r by omega, r1, e1]
    rw [show f_X11_limit (hr_si M 275 36 ((wF (fol (roomW P R) W r)).2.1 + nI (rashS P R (fol (roomW P R) W r) r))) = some (nI (oL R), M1) from s_limit hB1.2, q_bd_some]
    simp (disch := omega) only [q_lit, q_m1, q_m2, q_m1000, q_add, q_mul, q_cl, q_le, q_lt, q_eq, q_in, q_bd_some, eq_self, if_true, if_false, q_b0, q_b1, q_b01, q_bt, q_bf, q_ft, q_tf, Nat.mul_zero, Nat.add_zero, Nat.zero_add, or_true, true_or, not_true_eq_false, not_false_eq_true, reduceCtorEq, g2, g0]
    by_cases h1 : rashS P R (fol (roomW P R) W r) r ≤ oL R
    · rw [if_pos h1]
      refine key _ _ _ cN hf1 ?_ ?_
      · rw [if_neg (fun z => z.1 ((q_le (by omega) (by omega)).mpr h1))]
      · rw [if_neg (fun z => z.1 ((q_le (by omega) (by omega)).mpr h1))]
    · rw [if_neg h1]
      by_cases h2 : (wF (fol (roomW P R) W r)).2.2.1 = zI (-1)
      · rw [if_pos h2]
        refine key _ (wF (fol (roomW P R) W r)).1 (nI r) ?_ (hr_fr.si rfl (hr_fr.si rfl hf1)) ?_ ?_
        · have c := cN.1
          refine ⟨?_, ?_, ?_, ?_⟩
          · have a0 : (hr_si (hr_si M1 275 37 (wF (fol (roomW P R) W r)).1) 275 38 (nI r)).1 275 35 = (wF (fol (roomW P R) W r)).1 := by rw [si_same, if_neg (by omega), si_same, if_neg (by omega)]; exact g0
            have a1 : (hr_si (hr_si M1 275 37 (wF (fol (roomW P R) W r)).1) 275 38 (nI r)).1 275 36 = (wF (fol (roomW P R) W r)).2.1 + nI (rashS P R (fol (roomW P R) W r) r) := by rw [si_same, if_neg (by omega), si_same, if_neg (by omega), si_same, if_pos rfl]
            have a2 : (hr_si (hr_si M1 275 37 (wF (fol (roomW P R) W r)).1) 275 38 (nI r)).1 275 37 = (wF (fol (roomW P R) W r)).1 := by rw [si_same, if_neg (by omega), si_same, if_pos rfl]
            have a3 : (hr_si (hr_si M1 275 37 (wF (fol (roomW P R) W r)).1) 275 38 (nI r)).1 275 38 = nI r := by rw [si_same, if_pos rfl]
            show ((hr_si (hr_si M1 275 37 (wF (fol (roomW P R) W r)).1) 275 38 (nI r)).1 275 35, (hr_si (hr_si M1 275 37 (wF (fol (roomW P R) W r)).1) 275 38 (nI r)).1 275 36, (hr_si (hr_si M1 275 37 (wF (fol (roomW P R) W r)).1) 275 38 (nI r)).1 275 37, (hr_si (hr_si M1 275 37 (wF (fol (roomW P R) W r)).1) 275 38 (nI r)).1 275 38) = _
            rw [a0, a1, a2, a3]
            rfl
          · rw [si_ne _ _ _ (show 290 ≠ 275 by omega), si_ne _ _ _ (show 290 ≠ 275 by omega)]; exact cN.2.1
          · rw [si_ne _ _ _ (show 291 ≠ 275 by omega), si_ne _ _ _ (show 291 ≠ 275 by omega)]; exact cN.2.2.1
          · rw [si_ne _ _ _ (show 292 ≠ 275 by omega), si_ne _ _ _ (show 293 ≠ 275 by omega), si_ne _ _ _ (show 294 ≠ 275 by omega), si_ne _ _ _ (show 292 ≠ 275 by omega), si_ne _ _ _ (show 293 ≠ 275 by omega), si_ne _ _ _ (show 294 ≠ 275 by omega)]; exact cN.2.2.2
        · rw [if_pos ⟨fun z => h1 ((q_le (by omega) (by omega)).mp z), h2⟩]
        · rw [if_pos ⟨fun z => h1 ((q_le (by omega) (by omega)).mp z), h2⟩]
      · rw [if_neg h2]
        refine key _ _ _ cN hf1 ?_ ?_
        · rw [if_neg (fun z => h2 z.2)]
        · rw [if_neg (fun z => h2 z.2)]
  · rintro f M ⟨hC, hf⟩
    have hs := rooms_same P R W 4
    have hBM := hB.fr hf rfl
    have hF : bset (fadS P R (fol (roomW P R) W 4)) (oN R) < 1024 := bset_lt10 _ (by omega)
    obtain ⟨M', d1, d2, d3⟩ := m_hour157 hB hn hF hf hC
    show ∃ M', f_X11_hour_4 (f + 1) (nI 0) (nI 4) M = _ ∧ _
    rw [f_X11_hour_4.eq_2]
    simp (disch := omega) only [q_lit, q_m1, q_m2, q_m1000, q_add, q_mul, q_cl, q_le, q_lt, q_eq, q_in, q_bd_some, eq_self, if_true, if_false, q_b0, q_b1, q_b01, q_bt, q_bf, q_ft, q_tf, Nat.mul_zero, Nat.add_zero, Nat.zero_add, or_true, true_or, not_true_eq_false, not_false_eq_true, reduceCtorEq, Nat.le_refl]
    rw [m_hour104 hBM hg (wOK_same ⟨hs.1, hs.2.2.2.1⟩ hW) hC]
    refine ⟨M', d1, ⟨?_, ?_, ?_, ?_⟩, d3⟩
    · rw [d2.1]
      show ((wF (fol (roomW P R) W 4)).1 + 1, (wF (fol (roomW P R) W 4)).2) = ((wF W).1 + 1, (wF (fol (roomW P R) W 4)).2)
      rw [show (wF (fol (roomW P R) W 4)).1 = (wF W).1 from hs.2.2.2.2]
    · intro j hj
      rw [d2.2.1 j hj]
      show (fol (roomW P R) W 4).2.1 j = W.2.1 j
      rw [hs.1]
    · intro j hj
      rw [d2.2.2.1 j hj]
      have ef : fadS P R (fol (roomW P R) W 4) j = fadS P R W j := by
        unfold fadS
        exact exb_congr (fun r _ => cls_same ⟨hs.1, hs.2.1, hs.2.2.1, hs.2.2.2.1⟩ r j)
      show (if j < oN R ∧ (bset (fadS P R (fol (roomW P R) W 4)) (oN R)).testBit j = true then (fol (roomW P R) W 4).2.2.1 j - 1 else (fol (roomW P R) W 4).2.2.1 j) = (if fadS P R W j then W.2.2.1 j - 1 else W.2.2.1 j)
      rw [hs.2.1, bset_bit, ef, decide_eq_true hj, Bool.true_and]
      by_cases hq : fadS P R W j = true
      · rw [if_pos ⟨hj, hq⟩, if_pos hq]
      · rw [if_neg (fun z => hq z.2), if_neg hq]
    · intro p hp
      have q := d2.2.2.2 p hp
      refine ⟨q.1.trans ?_, q.2.1.trans ?_, q.2.2⟩
      · show (fol (roomW P R) W 4).2.2.2.1 p = W.2.2.2.1 p
        rw [hs.2.2.1]
      · show (fol (roomW P R) W 4).2.2.2.2.1 p = W.2.2.2.2.1 p
        rw [hs.2.2.2.1]
end MOD
