/-! the class's palette, asked -/
/-- a counted loop: a step comes to the answer or goes on -/
theorem hr_for {σ β : Type} (F : Nat → Nat → σ → β) (n : Nat) (I : Nat → σ → Prop) (Q : β → Prop) (hstep : ∀ f i s, i < n → I i s → Q (F (f + 1) i s) ∨ ∃ s', F (f + 1) i s = F f (i + 1) s' ∧ I (i + 1) s') (hexit : ∀ f s, I n s → Q (F (f + 1) n s)) : ∀ fuel i s, i ≤ n → n - i < fuel → I i s → Q (F fuel i s) := by
  intro fuel
  induction fuel with
  | zero => intro i s _ h; omega
  | succ f ih =>
    intro i s h1 h2 hI
    by_cases hi : i = n
    · subst hi; exact hexit f s hI
    · rcases hstep f i s (by omega) hI with h | ⟨s', e, h⟩
      · exact h
      · rw [e]; exact ih (i + 1) s' (by omega) (by omega) h
/-- a loop that counts down: n stands for the index n - 1 -/
theorem hr_down {σ β : Type} (F : Nat → Nat → σ → β) (I : Nat → σ → Prop) (Q : β → Prop) (n0 : Nat) (hstep : ∀ f i s, i < n0 → I (i + 1) s → Q (F (f + 1) (i + 1) s) ∨ ∃ s', F (f + 1) (i + 1) s = F f i s' ∧ I i s') (hexit : ∀ f s, I 0 s → Q (F (f + 1) 0 s)) : ∀ fuel i s, i ≤ n0 → i < fuel → I i s → Q (F fuel i s) := by
  intro fuel
  induction fuel with
  | zero => intro i s _ h; omega
  | succ f ih =>
    intro i s h0 h2 hI
    cases i with
    | zero => exact hexit f s hI
    | succ i =>
      rcases hstep f i s (by omega) hI with h | ⟨s', e, h⟩
      · exact h
      · rw [e]; exact ih i s' (by omega) (by omega) h
theorem FU_ok {n i : Nat} (h : n < 4000) : n - i < FU := by unfold FU; omega
theorem s_holdsBit {s k : Nat} (M : PM) (hs : s < 2147483648) (hk : k < 32) : f_X10_holdsBit (nI s) (nI k) M = some (bI (s.testBit k), M) := by
  unfold f_X10_holdsBit
  rw [q_lit 1, show (OfNat.ofNat 1 : Nat) = 1 from rfl, q_bit hs hk]
  cases s.testBit k <;> rfl
theorem s_has11 {s k : Nat} (M : PM) (hs : s < 2147483648) (hk : k < 32) : f_X11_has (nI s) (nI k) M = some (bI (s.testBit k), M) := by
  unfold f_X11_has
  rw [q_lit 1, show (OfNat.ofNat 1 : Nat) = 1 from rfl, q_bit hs hk]
  cases s.testBit k <;> rfl
section PALF
variable {M : PM} {a : Nat} {P : Pal}
theorem s_part (hP : rP M a P) {h p : Nat} (hh : h < pH P) (hp : p < 3) : f_X4_part a (nI h) (nI p) M = some (nI (pP P (3 * h + p)), M) := by
  have hn : pH P ≤ 10 := hP.1.2.1
  unfold f_X4_part
  simp (disch := omega) only [q_lit, q_m1, q_m2, q_m1000, q_add, q_mul, q_cl, q_le, q_lt, q_eq, q_in, q_bd_some, eq_self, if_true, if_false, q_b0, q_b1, q_b01, q_bt, q_bf, q_ft, q_tf, Nat.mul_zero, Nat.add_zero, Nat.zero_add, or_true, true_or, not_true_eq_false, not_false_eq_true, reduceCtorEq, hP.1.1, hP.2.2.1.1 (3 * h + p) (by omega)]
theorem s_foesOf (hP : rP M a P) {h : Nat} (hh : h < pH P) : f_X4_foesOf a (nI h) M = some (nI (foes P h), M) := by
  have hn : pH P ≤ 10 := hP.1.2.1
  unfold f_X4_foesOf
  simp (disch := omega) only [q_lit, q_m1, q_m2, q_m1000, q_add, q_mul, q_cl, q_le, q_lt, q_eq, q_in, q_bd_some, eq_self, if_true, if_false, q_b0, q_b1, q_b01, q_bt, q_bf, q_ft, q_tf, Nat.mul_zero, Nat.add_zero, Nat.zero_add, or_true, true_or, not_true_eq_false, not_false_eq_true, reduceCtorEq, hP.1.1, hP.2.2.2.1.2 h hh]
theorem s_strengthOf (hP : rP M a P) {x y : Nat} (hx : x < pH P) (hy : y < pH P) : f_X4_strengthOf a (nI x) (nI y) M = some (nI (strH P x y), M) := by
  have hn : pH P ≤ 10 := hP.1.2.1
  unfold f_X4_strengthOf
  simp (disch := omega) only [q_lit, q_m1, q_m2, q_m1000, q_add, q_mul, q_cl, q_le, q_lt, q_eq, q_in, q_bd_some, eq_self, if_true, if_false, q_b0, q_b1, q_b01, q_bt, q_bf, q_ft, q_tf, Nat.mul_zero, Nat.add_zero, Nat.zero_add, or_true, true_or, not_true_eq_false, not_false_eq_true, reduceCtorEq, hP.1.1, hP.2.2.2.1.1 x y hx hy]
theorem s_total (hP : rP M a P) {h : Nat} (hh : h < pH P) : f_X4_total a (nI h) M = some (nI (tot P h), M) := by
  unfold f_X4_total
  rw [if_pos hP.1.1, show (0 : Int32) = nI 0 from rfl, show (1 : Int32) = nI 1 from rfl, show (2 : Int32) = nI 2 from rfl]
  simp (disch := omega) only [q_lit, q_m1, q_m2, q_m1000, q_add, q_mul, q_cl, q_le, q_lt, q_eq, q_in, q_bd_some, eq_self, if_true, if_false, q_b0, q_b1, q_b01, q_bt, q_bf, q_ft, q_tf, Nat.mul_zero, Nat.add_zero, Nat.zero_add, or_true, true_or, not_true_eq_false, not_false_eq_true, reduceCtorEq, s_part hP hh]
  rfl
theorem pP_le (hP : pOK P) (i : Nat) : pP P i ≤ 9 := hP.2.2.1 i
theorem tot_le (hP : pOK P) (h : Nat) : tot P h ≤ 27 := by
  have h1 := pP_le hP (3 * h)
  have h2 := pP_le hP (3 * h + 1)
  have h3 := pP_le hP (3 * h + 2)
  unfold tot
  omega
theorem mea_le (hP : pOK P) (h : Nat) (s x : Int) : mea P h s x ≤ 27 := by
  unfold mea
  have h1 := tot_le hP h
  have h2 := pP_le hP (3 * h + x.toNat)
  split
  · exact h1
  · split <;> omega
theorem s_measure (hP : rP M a P) {h : Nat} (hh : h < pH P) {s x : Int} (hs : 0 ≤ s ∧ s ≤ 4) (hx : 0 ≤ x ∧ x ≤ 54) : f_X4_measure a (nI h) (zI s) (zI x) M = some (nI (mea P h s x), M) := by
  have hn : pH P ≤ 10 := hP.1.2.1
  have h1 := hP.2.2.1.1 (3 * h) (by omega)
  have h2 := hP.2.2.1.1 (3 * h + 1) (by omega)
  have h3 := hP.2.2.1.1 (3 * h + 2) (by omega)
  obtain ⟨x, rfl⟩ : ∃ n : Nat, x = n := ⟨x.toNat, by omega⟩
  obtain ⟨s, rfl⟩ : ∃ n : Nat, s = n := ⟨s.toNat, by omega⟩
  unfold f_X4_measure mea
  rw [if_pos hP.1.1, ← q_nz, ← q_nz]
  by_cases h0 : s = 0
  · subst h0
    simp (disch := omega) only [q_lit, q_m1, q_m2, q_m1000, q_add, q_mul, q_cl, q_le, q_lt, q_eq, q_in, q_bd_some, eq_self, if_true, if_false, q_b0, q_b1, q_b01, q_bt, q_bf, q_ft, q_tf, Nat.mul_zero, Nat.add_zero, Nat.zero_add, or_true, true_or, not_true_eq_false, not_false_eq_true, reduceCtorEq, h1, h2, h3, tot]
    rfl
  · rw [if_neg (show ¬ (s : Int) = 0 by omega)]
    simp (disch := omega) only [q_lit, q_m1, q_m2, q_m1000, q_add, q_mul, q_cl, q_le, q_lt, q_eq, q_in, q_bd_some, eq_self, if_true, if_false, q_b0, q_b1, q_b01, q_bt, q_bf, q_ft, q_tf, Nat.mul_zero, Nat.add_zero, Nat.zero_add, or_true, true_or, not_true_eq_false, not_false_eq_true, reduceCtorEq, h0]
    by_cases hx3 : x < 3
    · rw [if_pos (show (x : Int) < 3 by omega)]
      simp (disch := omega) only [q_lit, q_m1, q_m2, q_m1000, q_add, q_mul, q_cl, q_le, q_lt, q_eq, q_in, q_bd_some, eq_self, if_true, if_false, q_b0, q_b1, q_b01, q_bt, q_bf, q_ft, q_tf, Nat.mul_zero, Nat.add_zero, Nat.zero_add, or_true, true_or, not_true_eq_false, not_false_eq_true, reduceCtorEq, Nat.not_le.mpr hx3, Nat.not_lt_zero, hP.2.2.1.1 (3 * h + x) (by omega), Int.toNat_natCast]
    · rw [if_neg (show ¬ (x : Int) < 3 by omega)]
      simp (disch := omega) only [q_lit, q_m1, q_m2, q_m1000, q_add, q_mul, q_cl, q_le, q_lt, q_eq, q_in, q_bd_some, eq_self, if_true, if_false, q_b0, q_b1, q_b01, q_bt, q_bf, q_ft, q_tf, Nat.mul_zero, Nat.add_zero, Nat.zero_add, or_true, true_or, not_true_eq_false, not_false_eq_true, reduceCtorEq, Nat.not_lt.mp hx3, Nat.not_lt_zero]
theorem s_touches (M : PM) {s x y : Int} {m t : Nat} (hs : 0 ≤ s ∧ s ≤ 4) (hx : 0 ≤ x ∧ x ≤ 54) (hy : -1 ≤ y ∧ y ≤ 54) (hm : m ≤ 27) (ht : t ≤ 27) : f_X4_touches (zI s) (zI x) (zI y) (nI m) (nI t) M = some (bI (tch s x y m t), M) := by
  have e : s = 0 ∨ s = 1 ∨ s = 2 ∨ s = 3 ∨ s = 4 := by omega
  unfold f_X4_touches
  rcases e with rfl | rfl | rfl | rfl | rfl
  · simp (disch := omega) only [q_lit, q_m1, q_m2, q_m1000, q_add, q_mul, q_cl, q_le, q_lt, q_eq, q_in, q_bd_some, eq_self, if_true, if_false, q_b0, q_b1, q_b01, q_bt, q_bf, q_ft, q_tf, Nat.mul_zero, Nat.add_zero, Nat.zero_add, or_true, true_or, not_true_eq_false, not_false_eq_true, reduceCtorEq, q_zneq, q_nzlt, q_znlt, tch, show (0 : Int) = ((0 : Nat) : Int) from rfl]
    by_cases h1 : ((m + t : Nat) : Int) < x
    · rw [if_pos h1, decide_eq_false (by omega)]; rfl
    · rw [if_neg h1]
      by_cases h2 : y < ((m + t : Nat) : Int)
      · rw [if_pos h2, decide_eq_false (by omega)]; rfl
      · rw [if_neg h2, decide_eq_true (by omega)]; rfl
  · rw [q_nsub]
    simp (disch := omega) only [q_lit, q_m1, q_m2, q_m1000, q_add, q_mul, q_cl, q_le, q_lt, q_eq, q_in, q_bd_some, eq_self, if_true, if_false, q_b0, q_b1, q_b01, q_bt, q_bf, q_ft, q_tf, Nat.mul_zero, Nat.add_zero, Nat.zero_add, or_true, true_or, not_true_eq_false, not_false_eq_true, reduceCtorEq, q_jaz, q_zneq, q_nzlt, q_znlt, tch]
    rw [if_neg (show ¬ (1 : Int) = ((0 : Nat) : Int) by decide), if_pos (show (1 : Int) = ((1 : Nat) : Int) from rfl), if_neg (show ¬ (1 : Int) = 0 by decide)]
    by_cases h1 : (((m : Int) - t).natAbs : Int) < y
    · rw [if_pos h1, decide_eq_false (by omega)]; rfl
    · rw [if_neg h1, decide_eq_true (by omega)]; rfl
  · simp (disch := omega) only [q_lit, q_m1, q_m2, q_m1000, q_add, q_mul, q_cl, q_le, q_lt, q_eq, q_in, q_bd_some, eq_self, if_true, if_false, q_b0, q_b1, q_b01, q_bt, q_bf, q_ft, q_tf, Nat.mul_zero, Nat.add_zero, Nat.zero_add, or_true, true_or, not_true_eq_false, not_false_eq_true, reduceCtorEq, q_zneq, tch]
    rw [if_neg (show ¬ (2 : Int) = ((0 : Nat) : Int) by decide), if_neg (show ¬ (2 : Int) = ((1 : Nat) : Int) by decide), if_pos (show (2 : Int) = ((2 : Nat) : Int) from rfl), if_neg (show ¬ (2 : Int) = 0 by decide), if_neg (show ¬ (2 : Int) = 1 by decide)]
    by_cases h1 : m = t
    · rw [if_pos h1]
      by_cases h2 : m ≤ 0
      · rw [if_pos h2, decide_eq_false (by omega)]; rfl
      · rw [if_neg h2, decide_eq_true (by omega)]; rfl
    · rw [if_neg h1, decide_eq_false (by omega)]; rfl
  · simp (disch := omega) only [q_lit, q_m1, q_m2, q_m1000, q_add, q_mul, q_cl, q_le, q_lt, q_eq, q_in, q_bd_some, eq_self, if_true, if_false, q_b0, q_b1, q_b01, q_bt, q_bf, q_ft, q_tf, Nat.mul_zero, Nat.add_zero, Nat.zero_add, or_true, true_or, not_true_eq_false, not_false_eq_true, reduceCtorEq, q_zneq, tch]
    rw [if_neg (show ¬ (3 : Int) = ((0 : Nat) : Int) by decide), if_neg (show ¬ (3 : Int) = ((1 : Nat) : Int) by decide), if_neg (show ¬ (3 : Int) = ((2 : Nat) : Int) by decide), if_pos (show (3 : Int) = ((3 : Nat) : Int) from rfl)]
    rfl
  · simp (disch := omega) only [q_lit, q_m1, q_m2, q_m1000, q_add, q_mul, q_cl, q_le, q_lt, q_eq, q_in, q_bd_some, eq_self, if_true, if_false, q_b0, q_b1, q_b01, q_bt, q_bf, q_ft, q_tf, Nat.mul_zero, Nat.add_zero, Nat.zero_add, or_true, true_or, not_true_eq_false, not_false_eq_true, reduceCtorEq, q_zneq, q_nzlt, tch]
    rw [if_neg (show ¬ (4 : Int) = ((0 : Nat) : Int) by decide), if_neg (show ¬ (4 : Int) = ((1 : Nat) : Int) by decide), if_neg (show ¬ (4 : Int) = ((2 : Nat) : Int) by decide), if_neg (show ¬ (4 : Int) = ((3 : Nat) : Int) by decide), if_pos (show (4 : Int) = ((4 : Nat) : Int) from rfl), if_neg (show ¬ (4 : Int) = 0 by decide), if_neg (show ¬ (4 : Int) = 1 by decide), if_neg (show ¬ (4 : Int) = 2 by decide)]
    by_cases h1 : ((m + t : Nat) : Int) < y
    · rw [if_pos h1, decide_eq_false (by omega)]; rfl
    · rw [if_neg h1, decide_eq_true (by omega)]; rfl
theorem s_wouldHold (hP : rP M a P) {s x y : Int} {h k : Nat} (hh : h < pH P) (hk : k < pH P) (hs : 0 ≤ s ∧ s ≤ 4) (hx : 0 ≤ x ∧ x ≤ 54) (hy : -1 ≤ y ∧ y ≤ 54) : f_X4_wouldHold a (zI s) (zI x) (zI y) (nI h) (nI k) M = some (bI (hold1 P s x y h k), M) := by
  unfold f_X4_wouldHold hold1
  rw [if_pos hP.1.1]
  simp (disch := omega) only [q_lit, q_m1, q_m2, q_m1000, q_add, q_mul, q_cl, q_le, q_lt, q_eq, q_in, q_bd_some, eq_self, if_true, if_false, q_b0, q_b1, q_b01, q_bt, q_bf, q_ft, q_tf, Nat.mul_zero, Nat.add_zero, Nat.zero_add, or_true, true_or, not_true_eq_false, not_false_eq_true, reduceCtorEq, s_measure hP hh hs hx, s_measure hP hk hs hx, s_touches M hs hx hy (mea_le hP.1.2 h s x) (mea_le hP.1.2 k s x)]
theorem s_has (hP : rP M a P) (x : Int32) : f_X4_has a x M = some (bI (decide (¬ x < 0 ∧ x.toNatClampNeg < pH P)), M) := by
  have hn : pH P ≤ 10 := hP.1.2.1
  unfold f_X4_has
  rw [if_pos hP.1.1, hP.2.1.1]
  rcases q_any x with hx | ⟨n, h1, rfl⟩
  · rw [if_pos hx, decide_eq_false (fun z => z.1 hx)]; rfl
  · rw [if_neg (nI_pos h1)]
    simp (disch := omega) only [q_lit, q_m1, q_m2, q_m1000, q_add, q_mul, q_cl, q_le, q_lt, q_eq, q_in, q_bd_some, eq_self, if_true, if_false, q_b0, q_b1, q_b01, q_bt, q_bf, q_ft, q_tf, Nat.mul_zero, Nat.add_zero, Nat.zero_add, or_true, true_or, not_true_eq_false, not_false_eq_true, reduceCtorEq, nI_pos h1, true_and]
    by_cases h : pH P ≤ n
    · rw [if_pos h, decide_eq_false (by omega)]; rfl
    · rw [if_neg h, decide_eq_true (by omega)]; rfl
theorem s_all (hP : rP M a P) : f_X4_all a M = some (nI (2 ^ pH P - 1), M) := by
  have hn : pH P ≤ 10 := hP.1.2.1
  have h2 : 1 ≤ 2 ^ pH P := Nat.one_le_two_pow
  unfold f_X4_all
  rw [if_pos hP.1.1, hP.2.1.1, q_lit 1, show (OfNat.ofNat 1 : Nat) = 1 from rfl, q_jl (by omega), q_sub h2]
theorem s_hasAll (hP : rP M a P) {s : Nat} (hs : s < 1024) : f_X4_hasAll a (nI s) M = some (bI (decide (s < 2 ^ pH P)), M) := by
  have hn : pH P ≤ 10 := hP.1.2.1
  unfold f_X4_hasAll
  rw [if_pos hP.1.1, s_all hP, q_bd_some, q_lit 1, show (OfNat.ofNat 1 : Nat) = 1 from rfl, q_m1, q_bd]
  have hb := bd_le s (2 ^ pH P - 1)
  simp (disch := omega) only [q_lit, q_m1, q_m2, q_m1000, q_add, q_mul, q_cl, q_le, q_lt, q_eq, q_in, q_bd_some, eq_self, if_true, if_false, q_b0, q_b1, q_b01, q_bt, q_bf, q_ft, q_tf, Nat.mul_zero, Nat.add_zero, Nat.zero_add, or_true, true_or, not_true_eq_false, not_false_eq_true, reduceCtorEq]
  by_cases h : s < 2 ^ pH P
  · have e : bd s (2 ^ pH P - 1) = 0 := by
      apply Nat.eq_of_testBit_eq
      intro i
      rw [bd_bit, Nat.zero_testBit, Nat.testBit_two_pow_sub_one]
      by_cases hi : i < pH P
      · simp [hi]
      · rw [Nat.testBit_lt_two_pow (Nat.lt_of_lt_of_le h (Nat.pow_le_pow_right (by decide) (by omega)))]; rfl
    rw [if_pos e, decide_eq_true h]; rfl
  · rw [if_neg, decide_eq_false h]; rfl
    intro e
    apply h
    apply Nat.lt_pow_two_of_testBit
    intro i hi
    have h1 := bd_bit s (2 ^ pH P - 1) i
    rw [e, Nat.zero_testBit, Nat.testBit_two_pow_sub_one, decide_eq_false (by omega)] at h1
    simpa using h1.symm
end PALF
