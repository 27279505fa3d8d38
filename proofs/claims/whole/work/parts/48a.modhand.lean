/-! the model takes a palette in hand; hues and colours by it -/
theorem str0_congr {P : Pal} {p q : Nat → Bool} (h : ∀ k, k < pR P → p k = q k) : str0 P p = str0 P q := by
  unfold str0
  rw [exb_congr (f := fun k => p k && isC P k) (g := fun k => q k && isC P k) (fun k hk => by rw [h k hk]), cnt_congr (f := fun k => p k && !isC P k) (g := fun k => q k && !isC P k) (fun k hk => by rw [h k hk])]
theorem meaF_hue {P : Pal} (h : Nat) {s x y : Int} (hr : ruOK s x y) (h3 : ¬ s = 3) : meaF (fun p => pP P (3 * h + p)) s x = mea P h s x := by
  unfold meaF mea tot
  by_cases h0 : s = 0
  · rw [if_pos h0, if_pos h0]; rfl
  · have hx : x ≤ 2 := hr.2.2.2.1 (by have := hr.1; omega)
    rw [if_neg h0, if_neg h0, if_pos (by omega)]
theorem meaF_col (c : Nat) {s x y : Int} (hr : ruOK s x y) (h3 : ¬ s = 3) : meaF (fun p => if p = 0 then c / 100 else if p = 1 then c / 10 % 10 else c % 10) s x = meaC (c / 100) (c / 10 % 10) (c % 10) s x := by
  unfold meaF meaC
  by_cases h0 : s = 0
  · rw [if_pos h0, if_pos h0]; rfl
  · have hx : x ≤ 2 := hr.2.2.2.1 (by have := hr.1; omega)
    have hx0 := hr.2.1
    rw [if_neg h0, if_neg h0]
    rcases (show x = 0 ∨ x = 1 ∨ x = 2 by omega) with rfl | rfl | rfl <;> rfl
theorem rhoM_hue {P : Pal} (hP : pOK P) (a b : Nat) : str0 P (rhoM P (fun p => pP P (3 * a + p)) (fun p => pP P (3 * b + p)) a b) = str0 P (rho P a b) := by
  apply str0_congr
  intro k hk
  have hr := pU_ok hP hk
  unfold rhoM rho hold1
  by_cases h3 : pU P (3 * k) = 3
  · rw [if_pos h3, if_pos h3, decide_eq_decide]
    omega
  · rw [if_neg h3, if_neg h3, meaF_hue a hr h3, meaF_hue b hr h3]
theorem rhoM_col {P : Pal} (hP : pOK P) (h c : Nat) : str0 P (rhoM P (fun p => pP P (3 * h + p)) (fun p => if p = 0 then c / 100 else if p = 1 then c / 10 % 10 else c % 10) (-1) (-1)) = strC P h (c / 100) (c / 10 % 10) (c % 10) := by
  apply str0_congr
  intro k hk
  have hr := pU_ok hP hk
  unfold rhoM rhoC
  by_cases h3 : pU P (3 * k) = 3
  · have h1 := hr.2.1
    have h2 := hr.2.2.2.2 h3
    rw [if_pos h3, decide_eq_false (by omega), decide_eq_false (by simpa using h3)]; rfl
  · rw [if_neg h3, meaF_hue h hr h3, meaF_col c hr h3, decide_eq_true h3, Bool.true_and]
theorem lay3_laid (M : PM) (m t : Nat → Nat) : laid (lay3 (lay3 M 0 (m 0) (m 1) (m 2)) 3 (t 0) (t 1) (t 2)) m t := by
  intro p hp
  rcases (show p = 0 ∨ p = 1 ∨ p = 2 by omega) with rfl | rfl | rfl <;> simp [lay3, q_si1]
section MOD
variable {M : PM} {k : Nat} {P : Pal}
/-- two hues laid, their strength is asked -/
theorem s_strHues (hP : mP M k P) (h24 : M.1 275 24 = nI k) {x y : Nat} (hx : x < pH P) (hy : y < pH P) : f_X11_strengthOf (nI x) (nI y) (lay3 (lay3 M 0 (pP P (3 * x)) (pP P (3 * x + 1)) (pP P (3 * x + 2))) 3 (pP P (3 * y)) (pP P (3 * y + 1)) (pP P (3 * y + 2))) = some (nI (str0 P (rho P x y)), lay3 (lay3 M 0 (pP P (3 * x)) (pP P (3 * x + 1)) (pP P (3 * x + 2))) 3 (pP P (3 * y)) (pP P (3 * y + 1)) (pP P (3 * y + 2))) := by
  have hn : pH P ≤ 10 := hP.1.2.1
  have hL : laid (lay3 (lay3 M 0 (pP P (3 * x)) (pP P (3 * x + 1)) (pP P (3 * x + 2))) 3 (pP P (3 * y)) (pP P (3 * y + 1)) (pP P (3 * y + 2))) (fun p => pP P (3 * x + p)) (fun p => pP P (3 * y + p)) := lay3_laid M (fun p => pP P (3 * x + p)) (fun p => pP P (3 * y + p))
  rw [q_nz x, q_nz y, s_strength11 (hP.at (by rw [lay3_ne _ _ _ _ _ (by omega), lay3_ne _ _ _ _ _ (by omega)])) (by rw [lay3_ne _ _ _ _ _ (by omega), lay3_ne _ _ _ _ _ (by omega)]; exact h24) hL (fun p _ => ⟨pP_le hP.1.2 _, pP_le hP.1.2 _⟩) (by omega) (by omega), rhoM_hue hP.1.2]
theorem s_inS (M : PM) (x : Int32) {n : Nat} (hn : n < 2147483648) : f_X11_in x (nI 0) (nI n - nI 1) M = some (bI (ix x n).isSome, M) := by
  rw [q_nsub]
  exact s_in0 M x hn
theorem s_is {M : PM} {s n : Nat} (hs : s < 20) (h : M.1 280 s = nI n) (hn : n < 2147483648) (x : Int32) : f_X11_is (nI s) x M = some (bI (ix x n).isSome, M) := by
  unfold f_X11_is
  simp (disch := omega) only [q_lit, q_m1, q_m2, q_m1000, q_add, q_mul, q_cl, q_le, q_lt, q_eq, q_in, q_bd_some, eq_self, if_true, if_false, q_b0, q_b1, q_b01, q_bt, q_bf, q_ft, q_tf, Nat.mul_zero, Nat.add_zero, Nat.zero_add, or_true, true_or, not_true_eq_false, not_false_eq_true, reduceCtorEq, h, s_inS]
theorem s_hand_no {n : Nat} (h : M.1 280 0 = nI n) (hn : n < 2147483648) {x : Int32} (hx : ix x n = none) : f_X11_hand x M = some (nI 0, M) := by
  unfold f_X11_hand
  rw [q_lit 0, show (OfNat.ofNat 0 : Nat) = 0 from rfl, s_is (by omega) h hn, hx]
  simp (disch := omega) only [q_lit, q_m1, q_m2, q_m1000, q_add, q_mul, q_cl, q_le, q_lt, q_eq, q_in, q_bd_some, eq_self, if_true, if_false, q_b0, q_b1, q_b01, q_bt, q_bf, q_ft, q_tf, Nat.mul_zero, Nat.add_zero, Nat.zero_add, or_true, true_or, not_true_eq_false, not_false_eq_true, reduceCtorEq, Option.isSome_none]
end MOD
