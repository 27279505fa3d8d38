/-! AN HOUR, and a day -/
def roomW (P : Pal) (R : Rol) (r : Nat) (X : Wk) : Wk :=
  (((wF X).1, (wF X).2.1 + nI (rashS P R X r), if ¬ nI (rashS P R X r) ≤ nI (oL R) ∧ (wF X).2.2.1 = zI (-1) then (wF X).1 else (wF X).2.2.1, if ¬ nI (rashS P R X r) ≤ nI (oL R) ∧ (wF X).2.2.1 = zI (-1) then nI r else (wF X).2.2.2), wH X, wA X, wS X, wW X, fun p => if wS X p = nI r then wN X p + nI (rashS P R X r) else wN X p)
def hourW (P : Pal) (R : Rol) (W : Wk) : Wk :=
  (((wF W).1 + 1, (wF (fol (roomW P R) W 4)).2), wH W, fun k => if fadS P R W k then wA W k - 1 else wA W k, wS W, wW W, wN (fol (roomW P R) W 4))
theorem fol_s {α : Type} (g : Nat → α → α) (a : α) (n : Nat) : fol g a (n + 1) = g n (fol g a n) := rfl
/-- what the rooms leave as it was -/
theorem rooms_same (P : Pal) (R : Rol) (W : Wk) (n : Nat) : (fol (roomW P R) W n).2.1 = W.2.1 ∧ (fol (roomW P R) W n).2.2.1 = W.2.2.1 ∧ (fol (roomW P R) W n).2.2.2.1 = W.2.2.2.1 ∧ (fol (roomW P R) W n).2.2.2.2.1 = W.2.2.2.2.1 ∧ (fol (roomW P R) W n).1.1 = W.1.1 := by
  induction n with
  | zero => exact ⟨rfl, rfl, rfl, rfl, rfl⟩
  | succ n ih => rw [fol_s]; exact ih
theorem thg_same {R : Rol} {W X : Wk} (h : X.2.1 = W.2.1 ∧ X.2.2.1 = W.2.2.1 ∧ X.2.2.2.1 = W.2.2.2.1 ∧ X.2.2.2.2.1 = W.2.2.2.2.1) (r k : Nat) : thg R X r k = thg R W r k := by
  unfold thg wH wA wS wW
  rw [h.1, h.2.1, h.2.2.1, h.2.2.2]
theorem cls_same {P : Pal} {R : Rol} {W X : Wk} (h : X.2.1 = W.2.1 ∧ X.2.2.1 = W.2.2.1 ∧ X.2.2.2.1 = W.2.2.2.1 ∧ X.2.2.2.2.1 = W.2.2.2.2.1) (r k : Nat) : clsS P R X r k = clsS P R W r k := by
  unfold clsS thB thH
  simp only [thg_same h]
theorem rash_same {P : Pal} {R : Rol} {W X : Wk} (h : X.2.1 = W.2.1 ∧ X.2.2.1 = W.2.2.1 ∧ X.2.2.2.1 = W.2.2.2.1 ∧ X.2.2.2.2.1 = W.2.2.2.2.1) (r : Nat) : rashS P R X r = rashS P R W r := by
  unfold rashS thB thH
  simp only [thg_same h]
theorem wOK_same {P : Pal} {W X : Wk} (h : X.2.1 = W.2.1 ∧ X.2.2.2.2.1 = W.2.2.2.2.1) (hW : wOK P W) : wOK P X := by
  unfold wOK wH wW at *
  rw [h.1, h.2]
  exact hW
theorem rashS_le {P : Pal} (hP : pOK P) (R : Rol) (W : Wk) (r : Nat) : rashS P R W r ≤ 1350 := by
  have h6 := hP.2.1
  unfold rashS
  refine Nat.le_trans (sumN_le (b := 90) (fun k hk => ?_)) (by omega)
  split
  · refine Nat.le_trans (sumN_le (b := 6) (fun j hj => ?_)) (by omega)
    split
    · exact Nat.le_trans (strH_le _ _ _) h6
    · omega
  · omega
/-- frames but for the fading and the things -/
theorem cW.si {M : PM} {R : Rol} {W W' : Wk} {a k : Nat} {v : Int32} (h : cW M R W)
    (hF : wF W' = ((hr_si M a k v).1 249 0, (hr_si M a k v).1 249 1, (hr_si M a k v).1 249 2, (hr_si M a k v).1 249 3))
    (hH : ∀ j, j < 9 → (hr_si M a k v).1 250 j = wH W' j) (hA : ∀ j, j < oN R → (hr_si M a k v).1 251 j = wA W' j) (hp : ∀ p, p < 6 → (hr_si M a k v).1 252 p = wS W' p ∧ (hr_si M a k v).1 253 p = wW W' p ∧ (hr_si M a k v).1 254 p = wN W' p) : cW (hr_si M a k v) R W' := ⟨hF.symm, hH, hA, hp⟩
section CLS
variable {a b : Nat} {P : Pal} {R : Rol} {M0 : PM}
def sneW (X : Wk) (r n : Nat) (v : Int32) : Wk := (X.1, X.2.1, X.2.2.1, X.2.2.2.1, X.2.2.2.2.1, fun p => if p < n ∧ wS X p = nI r then wN X p + v else wN X p)
theorem sneW_0 (X : Wk) (r : Nat) (v : Int32) (p : Nat) : wN (sneW X r 0 v) p = wN X p := by
  show (if p < 0 ∧ wS X p = nI r then wN X p + v else wN X p) = _
  rw [if_neg (fun z => Nat.not_lt_zero _ z.1)]
theorem si_same (M : PM) (a k : Nat) (v : Int32) (j : Nat) : (hr_si M a k v).1 a j = if j = k then v else M.1 a j := by rw [q_si1, if_pos rfl]
theorem s_hour65 (k7 : Int32 → PM → Option (Unit × PM)) (r : Nat) (v : Int32) {X : Wk} {M : PM} (hf : hr_fr hW_X9_passHour M0 M) (hC : cW M R X) : ∃ M', f_X9_passHour_65 a b k7 FU (nI r) v (nI 0) M = k7 (nI (r + 1)) M' ∧ cW M' R (sneW X r 6 v) ∧ M'.1 249 12 = M.1 249 12 ∧ hr_fr hW_X9_passHour M0 M' := by
  refine hr_for (σ := PM) (fun f p N => f_X9_passHour_65 a b k7 f (nI r) v (nI p) N) 6 (fun p N => cW N R (sneW X r p v) ∧ N.1 249 12 = M.1 249 12 ∧ hr_fr hW_X9_passHour M0 N) (fun x => ∃ M', x = k7 (nI (r + 1)) M' ∧ cW M' R (sneW X r 6 v) ∧ M'.1 249 12 = M.1 249 12 ∧ hr_fr hW_X9_passHour M0 M') ?_ ?_ FU 0 M (Nat.zero_le _) (FU_ok (by omega)) ⟨⟨hC.1, hC.2.1, hC.2.2.1, fun p hp => ⟨(hC.2.2.2 p hp).1, (hC.2.2.2 p hp).2.1, (hC.2.2.2 p hp).2.2.trans (sneW_0 X r v p).symm⟩⟩, rfl, hf⟩
  · rintro f p N hp ⟨hC, h12, hf⟩
    right
    have c4 := hC.2.2.2 p hp
    have e4 : N.1 254 p = wN X p := by
      rw [c4.2.2]
      show (if _ then _ else _) = _
      rw [if_neg (by omega)]
    have e1 : N.1 252 p = wS X p := c4.1
    show ∃ s', f_X9_passHour_65 a b k7 (f + 1) (nI r) v (nI p) N = f_X9_passHour_65 a b k7 f (nI r) v (nI (p + 1)) s' ∧ _
    rw [f_X9_passHour_65.eq_2]
    simp (disch := omega) only [q_lit, q_m1, q_m2, q_m1000, q_add, q_mul, q_cl, q_le, q_lt, q_eq, q_in, q_bd_some, eq_self, if_true, if_false, q_b0, q_b1, q_b01, q_bt, q_bf, q_ft, q_tf, Nat.mul_zero, Nat.add_zero, Nat.zero_add, or_true, true_or, not_true_eq_false, not_false_eq_true, reduceCtorEq, show ¬ 6 ≤ p by omega, e1, e4]
    by_cases h1 : wS X p = nI r
    · rw [if_pos h1]
      refine ⟨_, rfl, ⟨?_, ?_, ?_, ?_⟩, ?_, hr_fr.si rfl hf⟩
      · show ((hr_si N 254 p _).1 249 0, (hr_si N 254 p _).1 249 1, (hr_si N 254 p _).1 249 2, (hr_si N 254 p _).1 249 3) = _
        simp [q_si1]
        exact hC.1
      · intro k hk; simp [q_si1]; exact hC.2.1 k hk
      · intro k hk; simp [q_si1]; exact hC.2.2.1 k hk
      · intro j hj
        have d := hC.2.2.2 j hj
        refine ⟨by simp [q_si1]; exact d.1, by simp [q_si1]; exact d.2.1, ?_⟩
        rw [si_same]
        show _ = (if j < p + 1 ∧ wS X j = nI r then wN X j + v else wN X j)
        by_cases e : j = p
        · subst e
          rw [if_pos rfl, if_pos ⟨by omega, h1⟩]
        · rw [if_neg e, d.2.2]
          show (if j < p ∧ wS X j = nI r then wN X j + v else wN X j) = _
          by_cases h2 : j < p ∧ wS X j = nI r
          · rw [if_pos h2, if_pos ⟨by omega, h2.2⟩]
          · rw [if_neg h2, if_neg (fun z => h2 ⟨by omega, z.2⟩)]
      · simp [q_si1]; exact h12
    · rw [if_neg h1]
      refine ⟨N, rfl, ⟨hC.1, hC.2.1, hC.2.2.1, ?_⟩, h12, hf⟩
      intro j hj
      have d := hC.2.2.2 j hj
      refine ⟨d.1, d.2.1, ?_⟩
      rw [d.2.2]
      show (if j < p ∧ wS X j = nI r then wN X j + v else wN X j) = (if j < p + 1 ∧ wS X j = nI r then wN X j + v else wN X j)
      by_cases h2 : j < p ∧ wS X j = nI r
      · rw [if_pos h2, if_pos ⟨by omega, h2.2⟩]
      · rw [if_neg h2, if_neg (fun z => h2 ⟨by
          by_cases e : j = p
          · subst e; exact absurd z.2 h1
          · omega, z.2⟩)]
  · rintro f N ⟨hC, h12, hf⟩
    show ∃ M', f_X9_passHour_65 a b k7 (f + 1) (nI r) v (nI 6) N = _ ∧ _
    rw [f_X9_passHour_65.eq_2]
    simp (disch := omega) only [q_lit, q_m1, q_m2, q_m1000, q_add, q_mul, q_cl, q_le, q_lt, q_eq, q_in, q_bd_some, eq_self, if_true, if_false, q_b0, q_b1, q_b01, q_bt, q_bf, q_ft, q_tf, Nat.mul_zero, Nat.add_zero, Nat.zero_add, or_true, true_or, not_true_eq_false, not_false_eq_true, reduceCtorEq, Nat.le_refl]
    exact ⟨N, rfl, hC, h12, hf⟩
def areW (X : Wk) (F n : Nat) : Wk := (X.1, X.2.1, fun k => if k < n ∧ F.testBit k = true then wA X k - 1 else wA X k, X.2.2.2.1, X.2.2.2.2.1, X.2.2.2.2.2)
theorem areW_0 (X : Wk) (F k : Nat) : wA (areW X F 0) k = wA X k := by
  show (if k < 0 ∧ F.testBit k = true then wA X k - 1 else wA X k) = _
  rw [if_neg (fun z => Nat.not_lt_zero _ z.1)]
theorem s_hour109 (hR : rR M0 b R) (hb : b + 4 ≤ 240) (hn : oN R ≤ 9) {F : Nat} (hF : F < 1024) {X : Wk} {M : PM} (hf : hr_fr hW_X9_passHour M0 M) (hC : cW M R X) (h12 : M.1 249 12 = nI F) : ∃ M', f_X9_passHour_109 a b FU (nI 0) M = some ((), M') ∧ cW M' R (((wF X).1 + 1, (wF X).2), X.2.1, (areW X F (oN R)).2.2.1, X.2.2.2.1, X.2.2.2.2.1, X.2.2.2.2.2) ∧ hr_fr hW_X9_passHour M0 M' := by
  refine hr_for (σ := PM) (fun f k N => f_X9_passHour_109 a b f (nI k) N) (oN R) (fun k N => cW N R (areW X F k) ∧ N.1 249 12 = nI F ∧ hr_fr hW_X9_passHour M0 N) (fun x => ∃ M', x = some ((), M') ∧ cW M' R (((wF X).1 + 1, (wF X).2), X.2.1, (areW X F (oN R)).2.2.1, X.2.2.2.1, X.2.2.2.2.1, X.2.2.2.2.2) ∧ hr_fr hW_X9_passHour M0 M') ?_ ?_ FU 0 M (Nat.zero_le _) (FU_ok (by omega)) ⟨⟨hC.1, hC.2.1, fun k hk => (hC.2.2.1 k hk).trans (areW_0 X F k).symm, hC.2.2.2⟩, h12, hf⟩
  · rintro f k N hk ⟨hC, h12, hf⟩
    right
    have e0 := (rR_ag hR (hf.agr (n := 249) rfl) (Nat.zero_le _) (by omega)).2.1.1
    have e4 : N.1 251 k = wA X k := by
      rw [hC.2.2.1 k hk]
      show (if _ then _ else _) = _
      rw [if_neg (by omega)]
    show ∃ s', f_X9_passHour_109 a b (f + 1) (nI k) N = f_X9_passHour_109 a b f (nI (k + 1)) s' ∧ _
    rw [f_X9_passHour_109.eq_2, h12]
    simp (disch := omega) only [q_lit, q_m1, q_m2, q_m1000, q_add, q_mul, q_cl, q_le, q_lt, q_eq, q_in, q_bd_some, eq_self, if_true, if_false, q_b0, q_b1, q_b01, q_bt, q_bf, q_ft, q_tf, Nat.mul_zero, Nat.add_zero, Nat.zero_add, or_true, true_or, not_true_eq_false, not_false_eq_true, reduceCtorEq, e0, show ¬ oN R ≤ k by omega, s_holdsBit, e4]
    cases h1 : F.testBit k with
    | false =>
      rw [if_pos rfl]
      refine ⟨N, rfl, ⟨hC.1, hC.2.1, ?_, hC.2.2.2⟩, h12, hf⟩
      intro j hj
      rw [hC.2.2.1 j hj]
      show (if j < k ∧ F.testBit j = true then wA X j - 1 else wA X j) = (if j < k + 1 ∧ F.testBit j = true then wA X j - 1 else wA X j)
      by_cases h2 : j < k ∧ F.testBit j = true
      · rw [if_pos h2, if_pos ⟨by omega, h2.2⟩]
      · rw [if_neg h2, if_neg (fun z => h2 ⟨by
          by_cases e : j = k
          · subst e; rw [h1] at z; cases z.2
          · omega, z.2⟩)]
    | true =>
      rw [if_neg (by simp)]
      refine ⟨_, rfl, ⟨?_, ?_, ?_, ?_⟩, ?_, hr_fr.si rfl hf⟩
      · simp [q_si1]
        exact hC.1
      · intro j hj; simp [q_si1]; exact hC.2.1 j hj
      · intro j hj
        rw [si_same]
        show _ = (if j < k + 1 ∧ F.testBit j = true then wA X j - 1 else wA X j)
        by_cases e : j = k
        · subst e
          rw [if_pos rfl, if_pos ⟨by omega, h1⟩]
          rfl
        · rw [if_neg e, hC.2.2.1 j hj]
          show (if j < k ∧ F.testBit j = true then wA X j - 1 else wA X j) = _
          by_cases h2 : j < k ∧ F.testBit j = true
          · rw [if_pos h2, if_pos ⟨by omega, h2.2⟩]
          · rw [if_neg h2, if_neg (fun z => h2 ⟨by omega, z.2⟩)]
      · intro p hp
        have d := hC.2.2.2 p hp
        exact ⟨by simp [q_si1]; exact d.1, by simp [q_si1]; exact d.2.1, by simp [q_si1]; exact d.2.2⟩
      · simp [q_si1]; exact h12
  · rintro f N ⟨hC, h12, hf⟩
    have e0 := (rR_ag hR (hf.agr (n := 249) rfl) (Nat.zero_le _) (by omega)).2.1.1
    show ∃ M', f_X9_passHour_109 a b (f + 1) (nI (oN R)) N = _ ∧ _
    rw [f_X9_passHour_109.eq_2]
    simp (disch := omega) only [q_lit, q_m1, q_m2, q_m1000, q_add, q_mul, q_cl, q_le, q_lt, q_eq, q_in, q_bd_some, eq_self, if_true, if_false, q_b0, q_b1, q_b01, q_bt, q_bf, q_ft, q_tf, Nat.mul_zero, Nat.add_zero, Nat.zero_add, or_true, true_or, not_true_eq_false, not_false_eq_true, reduceCtorEq, e0, Nat.le_refl]
    refine ⟨_, rfl, ⟨?_, ?_, ?_, ?_⟩, hr_fr.si rfl hf⟩
    · have c := hC.1
      simp only [Prod.ext_iff] at c
      simp [q_si1]
      show _ = ((wF X).1 + 1, (wF X).2.1, (wF X).2.2.1, (wF X).2.2.2)
      rw [c.1, c.2.1, c.2.2.1, c.2.2.2]
      rfl
    · intro j hj; simp [q_si1]; exact hC.2.1 j hj
    · intro j hj; simp [q_si1]; exact hC.2.2.1 j hj
    · intro p hp
      have d := hC.2.2.2 p hp
      exact ⟨by simp [q_si1]; exact d.1, by simp [q_si1]; exact d.2.1, by simp [q_si1]; exact d.2.2⟩
end CLS
