/-! the model takes a palette in hand -/
section MOD
variable {M : PM} {k : Nat} {P : Pal}
theorem s_hand {n : Nat} (h : M.1 280 0 = nI n) (hn : n < 2147483648) (hk : k < n) (hP : mP M k P) : hw (f_X11_hand (nI k) M) (fun v M' => v = nI 1 ∧ hM M' k P) := by
  have h10 : pH P ≤ 10 := hP.1.2.1
  have hk2 := hP.1.1
  unfold f_X11_hand
  rw [q_lit 0, show (OfNat.ofNat 0 : Nat) = 0 from rfl, s_is (by omega) h hn, ix_n hk (by omega)]
  simp (disch := omega) only [q_lit, q_m1, q_m2, q_m1000, q_add, q_mul, q_cl, q_le, q_lt, q_eq, q_in, q_bd_some, eq_self, if_true, if_false, q_b0, q_b1, q_b01, q_bt, q_bf, q_ft, q_tf, Nat.mul_zero, Nat.add_zero, Nat.zero_add, or_true, true_or, not_true_eq_false, not_false_eq_true, reduceCtorEq, Option.isSome_some]
  rw [s_of (M := hr_si M 275 24 (nI k)) (hP.at (by funext j; simp [q_si1])) (by simp [q_si1]) (by omega), q_bd_some]
  have e0 : (hr_si M 275 24 (nI k)).1 281 (70 * k + 0) = nI (pH P) := by simp only [q_si1]; exact hP.2.1.1
  rw [e0]
  generalize hM1 : hr_si (hr_si M 275 24 (nI k)) 275 25 (nI (pH P)) = M1
  have a1 : M1.1 281 = M.1 281 := by rw [← hM1]; funext j; simp [q_si1]
  have a2 : M1.1 275 24 = nI k := by rw [← hM1]; simp [q_si1]
  have a3 : M1.1 275 25 = nI (pH P) := by rw [← hM1]; simp [q_si1]
  let good : Nat → Nat → PM → Prop := fun x y M' => M'.1 281 = M.1 281 ∧ M'.1 275 = M1.1 275 ∧ ∀ x' y', y' < pH P → (x' < x ∨ (x' = x ∧ y' < y)) → M'.1 288 (10 * x' + y') = nI (strH P x' y')
  refine hr_for (σ := PM) (fun f i s => f_X11_hand_27 (nI k) f (nI i) s) (pH P) (fun i s => good i 0 s) (fun r => hw r (fun v M' => v = nI 1 ∧ hM M' k P)) ?_ ?_ FU 0 M1 (Nat.zero_le _) (FU_ok (by omega)) ⟨a1, rfl, fun x' y' _ h => by omega⟩
  · rintro f x s hx ⟨g1, g2, g3⟩
    right
    show ∃ s', f_X11_hand_27 (nI k) (f + 1) (nI x) s = f_X11_hand_27 (nI k) f (nI (x + 1)) s' ∧ good (x + 1) 0 s'
    rw [f_X11_hand_27.eq_2, show s.1 275 25 = nI (pH P) from by rw [g2]; exact a3]
    simp (disch := omega) only [q_lit, q_m1, q_m2, q_m1000, q_add, q_mul, q_cl, q_le, q_lt, q_eq, q_in, q_bd_some, eq_self, if_true, if_false, q_b0, q_b1, q_b01, q_bt, q_bf, q_ft, q_tf, Nat.mul_zero, Nat.add_zero, Nat.zero_add, or_true, true_or, not_true_eq_false, not_false_eq_true, reduceCtorEq, show ¬ pH P ≤ x by omega]
    refine hr_for (σ := PM) (fun f' y s => f_X11_hand_37 (nI k) (fun x2 M => f_X11_hand_27 (nI k) f x2 M) f' (nI x) (nI y) s) (pH P) (fun y s => good x y s) (fun r => ∃ s', r = f_X11_hand_27 (nI k) f (nI (x + 1)) s' ∧ good (x + 1) 0 s') ?_ ?_ FU 0 s (Nat.zero_le _) (FU_ok (by omega)) ⟨g1, g2, g3⟩
    · rintro f' y s hy ⟨g1, g2, g3⟩
      right
      have hPs := hP.at g1
      have h24 : s.1 275 24 = nI k := by rw [g2]; exact a2
      have h25 : s.1 275 25 = nI (pH P) := by rw [g2]; exact a3
      generalize hl : lay3 (lay3 s 0 (pP P (3 * x)) (pP P (3 * x + 1)) (pP P (3 * x + 2))) 3 (pP P (3 * y)) (pP P (3 * y + 1)) (pP P (3 * y + 2)) = s2
      have l1 : s2.1 281 = s.1 281 := by rw [← hl, lay3_ne _ _ _ _ _ (by omega), lay3_ne _ _ _ _ _ (by omega)]
      have l2 : s2.1 275 = s.1 275 := by rw [← hl, lay3_ne _ _ _ _ _ (by omega), lay3_ne _ _ _ _ _ (by omega)]
      have l3 : s2.1 288 = s.1 288 := by rw [← hl, lay3_ne _ _ _ _ _ (by omega), lay3_ne _ _ _ _ _ (by omega)]
      refine ⟨hr_si s2 288 (10 * x + y) (nI (strH P x y)), ?_, ?_⟩
      · show f_X11_hand_37 (nI k) _ (f' + 1) (nI x) (nI y) s = f_X11_hand_37 (nI k) _ f' (nI x) (nI (y + 1)) _
        rw [f_X11_hand_37.eq_2, h25]
        simp (disch := omega) only [q_lit, q_m1, q_m2, q_m1000, q_add, q_mul, q_cl, q_le, q_lt, q_eq, q_in, q_bd_some, eq_self, if_true, if_false, q_b0, q_b1, q_b01, q_bt, q_bf, q_ft, q_tf, Nat.mul_zero, Nat.add_zero, Nat.zero_add, or_true, true_or, not_true_eq_false, not_false_eq_true, reduceCtorEq, show ¬ pH P ≤ y by omega]
        rw [s_layHue hPs h24 hx (Or.inl rfl), q_bd_some, s_layHue (hPs.at (lay3_ne _ _ _ _ _ (by omega))) (by rw [lay3_ne _ _ _ _ _ (by omega)]; exact h24) hy (Or.inr rfl), q_bd_some, hl]
        by_cases hxy : x = y
        · subst hxy
          rw [if_pos rfl]
          simp (disch := omega) only [q_lit, q_m1, q_m2, q_m1000, q_add, q_mul, q_cl, q_le, q_lt, q_eq, q_in, q_bd_some, eq_self, if_true, if_false, q_b0, q_b1, q_b01, q_bt, q_bf, q_ft, q_tf, Nat.mul_zero, Nat.add_zero, Nat.zero_add, or_true, true_or, not_true_eq_false, not_false_eq_true, reduceCtorEq, strH]
        · rw [if_neg hxy]
          have := s_strHues hPs h24 hx hy
          rw [hl] at this
          rw [this]
          simp (disch := omega) only [q_lit, q_m1, q_m2, q_m1000, q_add, q_mul, q_cl, q_le, q_lt, q_eq, q_in, q_bd_some, eq_self, if_true, if_false, q_b0, q_b1, q_b01, q_bt, q_bf, q_ft, q_tf, Nat.mul_zero, Nat.add_zero, Nat.zero_add, or_true, true_or, not_true_eq_false, not_false_eq_true, reduceCtorEq, strH, hxy]
      · refine ⟨?_, ?_, ?_⟩
        · rw [← g1, ← l1]; funext j; simp [q_si1]
        · rw [← g2, ← l2]; funext j; simp [q_si1]
        · intro x' y' hy' hc
          simp only [q_si1, if_true]
          by_cases he : 10 * x' + y' = 10 * x + y
          · have e1 : x' = x := by omega
            have e2 : y' = y := by omega
            rw [if_pos he, e1, e2]
          · rw [if_neg he, l3]
            exact g3 x' y' hy' (by omega)
    · rintro f' s ⟨g1, g2, g3⟩
      refine ⟨s, ?_, g1, g2, fun x' y' hy' hc => g3 x' y' hy' (by omega)⟩
      show f_X11_hand_37 (nI k) _ (f' + 1) (nI x) (nI (pH P)) s = _
      rw [f_X11_hand_37.eq_2, show s.1 275 25 = nI (pH P) from by rw [g2]; exact a3]
      simp (disch := omega) only [q_lit, q_m1, q_m2, q_m1000, q_add, q_mul, q_cl, q_le, q_lt, q_eq, q_in, q_bd_some, eq_self, if_true, if_false, q_b0, q_b1, q_b01, q_bt, q_bf, q_ft, q_tf, Nat.mul_zero, Nat.add_zero, Nat.zero_add, or_true, true_or, not_true_eq_false, not_false_eq_true, reduceCtorEq, Nat.le_refl]
  · rintro f s ⟨g1, g2, g3⟩
    show hw (f_X11_hand_27 (nI k) (f + 1) (nI (pH P)) s) _
    rw [f_X11_hand_27.eq_2, show s.1 275 25 = nI (pH P) from by rw [g2]; exact a3]
    simp (disch := omega) only [q_lit, q_m1, q_m2, q_m1000, q_add, q_mul, q_cl, q_le, q_lt, q_eq, q_in, q_bd_some, eq_self, if_true, if_false, q_b0, q_b1, q_b01, q_bt, q_bf, q_ft, q_tf, Nat.mul_zero, Nat.add_zero, Nat.zero_add, or_true, true_or, not_true_eq_false, not_false_eq_true, reduceCtorEq, Nat.le_refl]
    exact hw.ok ⟨rfl, hP.at g1, ⟨by rw [g2]; exact a2, by rw [g2]; exact a3⟩, fun x y hx hy => g3 x y hy (Or.inl hx)⟩
end MOD
