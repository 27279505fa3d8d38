/-! the class's plain answers -/
def sp_strength (T : Tol) (p x y : Int32) : Int := match ix p (tz T 0) with
  | none => -1
  | some k => match ix x (pH (tP T k)) with
    | none => -1
    | some a => match ix y (pH (tP T k)) with
      | none => -1
      | some b => strH (tP T k) a b
def sp_minds (T : Tol) (p x r y b : Int32) : Int := match ix p (tz T 0) with
  | none => -1
  | some k => match ix x (pH (tP T k)) with
    | none => -1
    | some h => match ix r 10 with
      | none => -1
      | some r => match ix y 10 with
        | none => -1
        | some y => match ix b 10 with
          | none => -1
          | some b => strC (tP T k) h r y b
def sp_palette (T : Tol) (p w : Int32) : Int := match ix p (tz T 0) with
  | none => -1
  | some k => if w < 0 then -1 else palS (tP T k) w.toNatClampNeg
def sp_rule (T : Tol) (p j w : Int32) : Int := match ix p (tz T 0) with
  | none => -2
  | some k => match ix j (pR (tP T k)) with
    | none => -2
    | some j => match ix w 3 with
      | none => -2
      | some w => pU (tP T k) (3 * j + w)
def sp_gain (T : Tol) (p w c : Int32) : Int := match ix p (tz T 0) with
  | none => -1000
  | some k => match ix w 2 with
    | none => -1000
    | some w => if c < 0 then -1000 else if c.toNatClampNeg / 10 < pH (tP T k) ∧ c.toNatClampNeg % 10 < pH (tP T k) then gainS (tP T k) w (c.toNatClampNeg / 10) (c.toNatClampNeg % 10) else -1000
def sp_gallery (T : Tol) (g w : Int32) : Int := match ix g (tz T 1) with
  | none => -1
  | some k => if w = nI 0 then oN (tR T 1 k) else if w = nI 1 then oL (tR T 1 k) else if w < nI 10 then -1 else if w.toNatClampNeg - 10 < oN (tR T 1 k) then oA (tR T 1 k) (w.toNatClampNeg - 10) else if w < nI 20 then -1 else if w.toNatClampNeg - 20 < oN (tR T 1 k) then oB (tR T 1 k) (w.toNatClampNeg - 20) else -1
/-- of a roll, how many, or a line's numbers -/
def sp_line (T : Tol) (s : Nat) (d j w : Int32) : Int := match ix d (tz T s) with
  | none => -2
  | some k => if j = zI (-1) then (if w = nI 0 then (oN (tR T s k) : Int) else -2) else match ix j (oN (tR T s k)) with
    | none => -2
    | some i => if w = nI 0 then oC (tR T s k) i else if w = nI 1 then oA (tR T s k) i else if w = nI 2 then oB (tR T s k) i else -2
def sp_guest (T : Tol) (d j : Int32) : Int := match ix d (tz T 4) with
  | none => -2
  | some k => if j = zI (-1) then (oN (tR T 4 k) : Int) else match ix j (oN (tR T 4 k)) with
    | none => -2
    | some i => oA (tR T 4 k) i
def sp_count (T : Tol) (s : Int32) : Int := match ix s 5 with
  | none => -2
  | some k => tz T k
def sp_fault (T : Tol) (w : Int32) : Int := if w = nI 0 then (tF T : Int) else if w = nI 1 then tQ T else -1
section CLS
variable {M : PM} {T : Tol}
theorem s_hasx {a : Nat} {P : Pal} (hP : rP M a P) (x : Int32) : f_X4_has a x M = some (bI (ix x (pH P)).isSome, M) := by
  have hn : pH P ≤ 10 := hP.1.2.1
  rw [s_has hP]
  cases h : ix x (pH P) with
  | none =>
    rcases ix_none h (by omega) with h0 | ⟨j, h1, rfl, h2⟩
    · rw [decide_eq_false (fun z => z.1 h0)]; rfl
    · rw [q_cl h1, decide_eq_false (by omega)]; rfl
  | some k =>
    obtain ⟨rfl, h1, h2⟩ := ix_some h
    rw [q_cl h2, decide_eq_true ⟨nI_pos h2, h1⟩]; rfl
theorem s_isTone (M : PM) (x : Int32) : f_X10_isTone x M = some (bI (ix x 10).isSome, M) := by
  unfold f_X10_isTone
  cases h : ix x 10 with
  | none =>
    rcases ix_none h (by omega) with h0 | ⟨j, h1, rfl, h2⟩
    · rw [if_pos h0]; rfl
    · simp (disch := omega) only [q_lit, q_m1, q_m2, q_m1000, q_add, q_mul, q_cl, q_le, q_lt, q_eq, q_in, q_bd_some, eq_self, if_true, if_false, q_b0, q_b1, q_b01, q_bt, q_bf, q_ft, q_tf, Nat.mul_zero, Nat.add_zero, Nat.zero_add, or_true, true_or, not_true_eq_false, not_false_eq_true, reduceCtorEq, nI_pos h1, h2, show ¬ j < 0 by omega]; rfl
  | some k =>
    obtain ⟨rfl, h1, h2⟩ := ix_some h
    simp (disch := omega) only [q_lit, q_m1, q_m2, q_m1000, q_add, q_mul, q_cl, q_le, q_lt, q_eq, q_in, q_bd_some, eq_self, if_true, if_false, q_b0, q_b1, q_b01, q_bt, q_bf, q_ft, q_tf, Nat.mul_zero, Nat.add_zero, Nat.zero_add, or_true, true_or, not_true_eq_false, not_false_eq_true, reduceCtorEq, show ¬ 10 ≤ k by omega, show ¬ k < 0 by omega]; rfl
theorem c_strength (hT : rT M 1 T) (hz : tz T 0 ≤ 2) (p x y : Int32) : f_X10_strength p x y M = some (zI (sp_strength T p x y), M) := by
  unfold f_X10_strength sp_strength
  rw [s_paletteAt hT hz, q_bd_some]
  cases h : ix p (tz T 0) with
  | none => rfl
  | some k =>
    obtain ⟨rfl, h1, -⟩ := ix_some h
    have hP := hT.pal (show k < 2 by omega)
    show (if hr_K (6 + 9 * k) = 3 then _ else none) = _
    rw [if_pos hP.1.1]
    cases h3 : ix x (pH (tP T k)) with
    | none => simp (disch := omega) only [q_lit, q_m1, q_m2, q_m1000, q_add, q_mul, q_cl, q_le, q_lt, q_eq, q_in, q_bd_some, eq_self, if_true, if_false, q_b0, q_b1, q_b01, q_bt, q_bf, q_ft, q_tf, Nat.mul_zero, Nat.add_zero, Nat.zero_add, or_true, true_or, not_true_eq_false, not_false_eq_true, reduceCtorEq, s_hasx hP, h3, Option.isSome_none]
    | some a =>
      cases h4 : ix y (pH (tP T k)) with
      | none => simp (disch := omega) only [q_lit, q_m1, q_m2, q_m1000, q_add, q_mul, q_cl, q_le, q_lt, q_eq, q_in, q_bd_some, eq_self, if_true, if_false, q_b0, q_b1, q_b01, q_bt, q_bf, q_ft, q_tf, Nat.mul_zero, Nat.add_zero, Nat.zero_add, or_true, true_or, not_true_eq_false, not_false_eq_true, reduceCtorEq, s_hasx hP, h3, h4, Option.isSome_none, Option.isSome_some]
      | some b =>
        obtain ⟨rfl, h5, -⟩ := ix_some h3
        obtain ⟨rfl, h6, -⟩ := ix_some h4
        simp (disch := omega) only [q_lit, q_m1, q_m2, q_m1000, q_add, q_mul, q_cl, q_le, q_lt, q_eq, q_in, q_bd_some, eq_self, if_true, if_false, q_b0, q_b1, q_b01, q_bt, q_bf, q_ft, q_tf, Nat.mul_zero, Nat.add_zero, Nat.zero_add, or_true, true_or, not_true_eq_false, not_false_eq_true, reduceCtorEq, s_hasx hP, h3, h4, Option.isSome_some, s_strengthOf hP h5 h6]
        rw [q_nz]
theorem c_minds (hT : rT M 1 T) (hz : tz T 0 ≤ 2) (p x r y b : Int32) : f_X10_minds p x r y b M = some (zI (sp_minds T p x r y b), M) := by
  unfold f_X10_minds sp_minds
  rw [s_paletteAt hT hz, q_bd_some]
  cases h : ix p (tz T 0) with
  | none => rfl
  | some k =>
    obtain ⟨rfl, h1, -⟩ := ix_some h
    have hP := hT.pal (show k < 2 by omega)
    show (if hr_K (6 + 9 * k) = 3 then _ else none) = _
    rw [if_pos hP.1.1]
    cases h3 : ix x (pH (tP T k)) with
    | none => simp (disch := omega) only [q_lit, q_m1, q_m2, q_m1000, q_add, q_mul, q_cl, q_le, q_lt, q_eq, q_in, q_bd_some, eq_self, if_true, if_false, q_b0, q_b1, q_b01, q_bt, q_bf, q_ft, q_tf, Nat.mul_zero, Nat.add_zero, Nat.zero_add, or_true, true_or, not_true_eq_false, not_false_eq_true, reduceCtorEq, s_hasx hP, h3, Option.isSome_none]
    | some a =>
      cases h4 : ix r 10 with
      | none => simp (disch := omega) only [q_lit, q_m1, q_m2, q_m1000, q_add, q_mul, q_cl, q_le, q_lt, q_eq, q_in, q_bd_some, eq_self, if_true, if_false, q_b0, q_b1, q_b01, q_bt, q_bf, q_ft, q_tf, Nat.mul_zero, Nat.add_zero, Nat.zero_add, or_true, true_or, not_true_eq_false, not_false_eq_true, reduceCtorEq, s_hasx hP, s_isTone, h3, h4, Option.isSome_none, Option.isSome_some]
      | some r =>
        cases h5 : ix y 10 with
        | none => simp (disch := omega) only [q_lit, q_m1, q_m2, q_m1000, q_add, q_mul, q_cl, q_le, q_lt, q_eq, q_in, q_bd_some, eq_self, if_true, if_false, q_b0, q_b1, q_b01, q_bt, q_bf, q_ft, q_tf, Nat.mul_zero, Nat.add_zero, Nat.zero_add, or_true, true_or, not_true_eq_false, not_false_eq_true, reduceCtorEq, s_hasx hP, s_isTone, h3, h4, h5, Option.isSome_none, Option.isSome_some]
        | some y =>
          cases h6 : ix b 10 with
          | none => simp (disch := omega) only [q_lit, q_m1, q_m2, q_m1000, q_add, q_mul, q_cl, q_le, q_lt, q_eq, q_in, q_bd_some, eq_self, if_true, if_false, q_b0, q_b1, q_b01, q_bt, q_bf, q_ft, q_tf, Nat.mul_zero, Nat.add_zero, Nat.zero_add, or_true, true_or, not_true_eq_false, not_false_eq_true, reduceCtorEq, s_hasx hP, s_isTone, h3, h4, h5, h6, Option.isSome_none, Option.isSome_some]
          | some b =>
            obtain ⟨rfl, g1, -⟩ := ix_some h3
            obtain ⟨rfl, g2, -⟩ := ix_some h4
            obtain ⟨rfl, g3, -⟩ := ix_some h5
            obtain ⟨rfl, g4, -⟩ := ix_some h6
            simp (disch := omega) only [q_lit, q_m1, q_m2, q_m1000, q_add, q_mul, q_cl, q_le, q_lt, q_eq, q_in, q_bd_some, eq_self, if_true, if_false, q_b0, q_b1, q_b01, q_bt, q_bf, q_ft, q_tf, Nat.mul_zero, Nat.add_zero, Nat.zero_add, or_true, true_or, not_true_eq_false, not_false_eq_true, reduceCtorEq, s_hasx hP, s_isTone, h3, h4, h5, h6, Option.isSome_some, s_strengthWith hP g1 (show r ≤ 9 by omega) (show y ≤ 9 by omega) (show b ≤ 9 by omega)]
            rw [q_nz]
/-- what is behind it: the same, but that a palette's dot may now be known -/
def dotted (M M' : PM) (T : Tol) : Prop := M' = M ∨ ∃ k, k < tz T 0 ∧ M' = hr_si M (6 + 9 * k) 10 (zI (dotS (tP T k) 1000))
theorem c_palette (hT : rT M 1 T) (hz : tz T 0 ≤ 2) (p w : Int32) : hw (f_X10_palette p w M) (fun v M' => v = zI (sp_palette T p w) ∧ dotted M M' T) := by
  unfold f_X10_palette sp_palette
  rw [s_paletteAt hT hz, q_bd_some]
  cases h : ix p (tz T 0) with
  | none => exact hw.ok ⟨rfl, Or.inl rfl⟩
  | some k =>
    obtain ⟨rfl, h1, -⟩ := ix_some h
    have hP := hT.pal (show k < 2 by omega)
    show hw (if hr_K (6 + 9 * k) = 3 then _ else none) _
    rw [if_pos hP.1.1]
    refine hw.bd ((s_answer hP w).mono (fun v M' h => ?_))
    refine hw.ok ⟨h.1, ?_⟩
    rcases h.2 with h2 | h2
    · exact Or.inl h2
    · exact Or.inr ⟨k, h1, h2⟩
theorem c_rule (hT : rT M 1 T) (hz : tz T 0 ≤ 2) (p j w : Int32) : f_X10_rule p j w M = some (zI (sp_rule T p j w), M) := by
  unfold f_X10_rule sp_rule
  rw [s_paletteAt hT hz, q_bd_some]
  cases h : ix p (tz T 0) with
  | none => rfl
  | some k =>
    obtain ⟨rfl, h1, -⟩ := ix_some h
    have hP := hT.pal (show k < 2 by omega)
    have hR : pR (tP T k) ≤ 6 := hP.1.2.2.1
    show (if hr_K (6 + 9 * k) = 3 then _ else none) = _
    rw [if_pos hP.1.1, hP.2.1.2]
    cases h3 : ix j (pR (tP T k)) with
    | none =>
      rcases ix_none h3 (by omega) with h0 | ⟨j, g1, rfl, g2⟩
      · simp (disch := omega) only [q_lit, q_m1, q_m2, q_m1000, q_add, q_mul, q_cl, q_le, q_lt, q_eq, q_in, q_bd_some, eq_self, if_true, if_false, q_b0, q_b1, q_b01, q_bt, q_bf, q_ft, q_tf, Nat.mul_zero, Nat.add_zero, Nat.zero_add, or_true, true_or, not_true_eq_false, not_false_eq_true, reduceCtorEq, show j < nI 0 from h0, h3]
      · simp (disch := omega) only [q_lit, q_m1, q_m2, q_m1000, q_add, q_mul, q_cl, q_le, q_lt, q_eq, q_in, q_bd_some, eq_self, if_true, if_false, q_b0, q_b1, q_b01, q_bt, q_bf, q_ft, q_tf, Nat.mul_zero, Nat.add_zero, Nat.zero_add, or_true, true_or, not_true_eq_false, not_false_eq_true, reduceCtorEq, g2, show ¬ j < 0 by omega, h3]
    | some j =>
      obtain ⟨rfl, g1, -⟩ := ix_some h3
      cases h4 : ix w 3 with
      | none =>
        rcases ix_none h4 (by omega) with h0 | ⟨w, g3, rfl, g2⟩
        · simp (disch := omega) only [q_lit, q_m1, q_m2, q_m1000, q_add, q_mul, q_cl, q_le, q_lt, q_eq, q_in, q_bd_some, eq_self, if_true, if_false, q_b0, q_b1, q_b01, q_bt, q_bf, q_ft, q_tf, Nat.mul_zero, Nat.add_zero, Nat.zero_add, or_true, true_or, not_true_eq_false, not_false_eq_true, reduceCtorEq, show ¬ pR (tP T k) ≤ j by omega, show ¬ j < 0 by omega, show w < nI 0 from h0, h3, h4]
        · simp (disch := omega) only [q_lit, q_m1, q_m2, q_m1000, q_add, q_mul, q_cl, q_le, q_lt, q_eq, q_in, q_bd_some, eq_self, if_true, if_false, q_b0, q_b1, q_b01, q_bt, q_bf, q_ft, q_tf, Nat.mul_zero, Nat.add_zero, Nat.zero_add, or_true, true_or, not_true_eq_false, not_false_eq_true, reduceCtorEq, show ¬ pR (tP T k) ≤ j by omega, show ¬ j < 0 by omega, show ¬ w ≤ 2 by omega, show ¬ w < 0 by omega, h3, h4]
      | some w =>
        obtain ⟨rfl, g3, -⟩ := ix_some h4
        simp (disch := omega) only [q_lit, q_m1, q_m2, q_m1000, q_add, q_mul, q_cl, q_le, q_lt, q_eq, q_in, q_bd_some, eq_self, if_true, if_false, q_b0, q_b1, q_b01, q_bt, q_bf, q_ft, q_tf, Nat.mul_zero, Nat.add_zero, Nat.zero_add, or_true, true_or, not_true_eq_false, not_false_eq_true, reduceCtorEq, show ¬ pR (tP T k) ≤ j by omega, show ¬ j < 0 by omega, show w ≤ 2 by omega, show ¬ w < 0 by omega, hP.2.2.1.2.1 (3 * j + w) (by omega), h3, h4]
theorem c_gain (hT : rT M 1 T) (hz : tz T 0 ≤ 2) (p w c : Int32) : f_X10_gain p w c M = some (zI (sp_gain T p w c), M) := by
  unfold f_X10_gain sp_gain
  rw [s_paletteAt hT hz, q_bd_some]
  cases h : ix p (tz T 0) with
  | none => rfl
  | some k =>
    obtain ⟨rfl, h1, -⟩ := ix_some h
    have hP := hT.pal (show k < 2 by omega)
    have hn : pH (tP T k) ≤ 10 := hP.1.2.1
    show (if hr_K (6 + 9 * k) = 3 then _ else none) = _
    rw [if_pos hP.1.1]
    cases h3 : ix w 2 with
    | none =>
      rcases ix_none h3 (by omega) with h0 | ⟨w, g1, rfl, g2⟩
      · rw [if_pos h0]; rfl
      · simp (disch := omega) only [q_lit, q_m1, q_m2, q_m1000, q_add, q_mul, q_cl, q_le, q_lt, q_eq, q_in, q_bd_some, eq_self, if_true, if_false, q_b0, q_b1, q_b01, q_bt, q_bf, q_ft, q_tf, Nat.mul_zero, Nat.add_zero, Nat.zero_add, or_true, true_or, not_true_eq_false, not_false_eq_true, reduceCtorEq, show 1 < w by omega, show ¬ w < 0 by omega]
    | some w =>
      obtain ⟨rfl, g1, -⟩ := ix_some h3
      rcases q_any c with h0 | ⟨c, g2, rfl⟩
      · simp (disch := omega) only [q_lit, q_m1, q_m2, q_m1000, q_add, q_mul, q_cl, q_le, q_lt, q_eq, q_in, q_bd_some, eq_self, if_true, if_false, q_b0, q_b1, q_b01, q_bt, q_bf, q_ft, q_tf, Nat.mul_zero, Nat.add_zero, Nat.zero_add, or_true, true_or, not_true_eq_false, not_false_eq_true, reduceCtorEq, show ¬ 1 < w by omega, show ¬ w < 0 by omega, show ¬ nI 0 ≤ c from q_neg_nle h0 (by omega), show c < nI 0 from h0, h3]
      · simp (disch := omega) only [q_lit, q_m1, q_m2, q_m1000, q_add, q_mul, q_cl, q_le, q_lt, q_eq, q_in, q_bd_some, eq_self, if_true, if_false, q_b0, q_b1, q_b01, q_bt, q_bf, q_ft, q_tf, Nat.mul_zero, Nat.add_zero, Nat.zero_add, or_true, true_or, not_true_eq_false, not_false_eq_true, reduceCtorEq, show ¬ 1 < w by omega, show ¬ w < 0 by omega, Nat.zero_le, q_div, q_rem, s_hasn hP, Nat.not_lt_zero, h3]
        by_cases h4 : c / 10 < pH (tP T k)
        · by_cases h5 : c % 10 < pH (tP T k)
          · rw [if_neg (by rw [decide_eq_true h4]; simp), if_neg (by rw [decide_eq_true h5]; simp), if_pos ⟨h4, h5⟩, s_gainOf hP g1 h4 h5, q_bd_some]
          · rw [if_neg (by rw [decide_eq_true h4]; simp), if_pos (decide_eq_false h5), if_neg (fun z => h5 z.2)]
        · rw [if_pos (decide_eq_false h4), if_neg (fun z => h4 z.1)]
theorem c_count (hT : rT M 1 T) (s : Int32) : f_X10_count s M = some (zI (sp_count T s), M) := by
  unfold f_X10_count sp_count
  cases h : ix s 5 with
  | none =>
    rcases ix_none h (by omega) with h0 | ⟨j, h1, rfl, h2⟩
    · rw [if_pos h0]; rfl
    · simp (disch := omega) only [q_lit, q_m1, q_m2, q_m1000, q_add, q_mul, q_cl, q_le, q_lt, q_eq, q_in, q_bd_some, eq_self, if_true, if_false, q_b0, q_b1, q_b01, q_bt, q_bf, q_ft, q_tf, Nat.mul_zero, Nat.add_zero, Nat.zero_add, or_true, true_or, not_true_eq_false, not_false_eq_true, reduceCtorEq, show ¬ j < 5 by omega, show ¬ j < 0 by omega]
  | some k =>
    obtain ⟨rfl, h1, h2⟩ := ix_some h
    simp (disch := omega) only [q_lit, q_m1, q_m2, q_m1000, q_add, q_mul, q_cl, q_le, q_lt, q_eq, q_in, q_bd_some, eq_self, if_true, if_false, q_b0, q_b1, q_b01, q_bt, q_bf, q_ft, q_tf, Nat.mul_zero, Nat.add_zero, Nat.zero_add, or_true, true_or, not_true_eq_false, not_false_eq_true, reduceCtorEq, h1, show ¬ k < 0 by omega, show M.1 3 k = nI (tz T k) from hT.2.2.1 k h1]
    rw [q_nz]
theorem c_fault (hT : rT M 1 T) (w : Int32) : f_X10_fault w M = some (zI (sp_fault T w), M) := by
  unfold f_X10_fault sp_fault
  rw [hT.1.2.1, hT.1.2.2, q_lit 0, show (OfNat.ofNat 0 : Nat) = 0 from rfl, q_lit 1, show (OfNat.ofNat 1 : Nat) = 1 from rfl]
  by_cases h0 : w = nI 0
  · rw [if_pos h0, if_pos h0, q_nz]
  · rw [if_neg h0, if_neg h0]
    by_cases h1 : w = nI 1
    · rw [if_pos h1, if_pos h1]
    · rw [if_neg h1, if_neg h1]; rfl
theorem c_lineOf {s : Nat} {k : Nat} {a : Nat} {R : Rol} (hR : rR M a R) (hn : oN R ≤ 40) (j w : Int32) : f_X10_lineOf (.ref a) j w M = some (zI (if j = zI (-1) then (if w = nI 0 then (oN R : Int) else -2) else match ix j (oN R) with
    | none => -2
    | some i => if w = nI 0 then oC R i else if w = nI 1 then oA R i else if w = nI 2 then oB R i else -2), M) := by
  unfold f_X10_lineOf
  show (if hr_K a = 5 then _ else none) = _
  rw [if_pos hR.1, hR.2.1.1]
  by_cases hj : j = zI (-1)
  · subst hj
    rw [if_pos rfl]
    simp (disch := omega) only [q_lit, q_m1, q_m2, q_m1000, q_add, q_mul, q_cl, q_le, q_lt, q_eq, q_in, q_bd_some, eq_self, if_true, if_false, q_b0, q_b1, q_b01, q_bt, q_bf, q_ft, q_tf, Nat.mul_zero, Nat.add_zero, Nat.zero_add, or_true, true_or, not_true_eq_false, not_false_eq_true, reduceCtorEq]
    by_cases h0 : w = nI 0
    · rw [if_pos h0, if_pos h0, q_nz]
    · rw [if_neg h0, if_neg h0]
  · rw [if_neg hj]
    simp (disch := omega) only [q_lit, q_m1, q_m2, q_m1000, q_add, q_mul, q_cl, q_le, q_lt, q_eq, q_in, q_bd_some, eq_self, if_true, if_false, q_b0, q_b1, q_b01, q_bt, q_bf, q_ft, q_tf, Nat.mul_zero, Nat.add_zero, Nat.zero_add, or_true, true_or, not_true_eq_false, not_false_eq_true, reduceCtorEq, hj, s_X6_has hR (show oN R < 2147483648 by omega)]
    cases h3 : ix j (oN R) with
    | none => simp (disch := omega) only [q_lit, q_m1, q_m2, q_m1000, q_add, q_mul, q_cl, q_le, q_lt, q_eq, q_in, q_bd_some, eq_self, if_true, if_false, q_b0, q_b1, q_b01, q_bt, q_bf, q_ft, q_tf, Nat.mul_zero, Nat.add_zero, Nat.zero_add, or_true, true_or, not_true_eq_false, not_false_eq_true, reduceCtorEq, Option.isSome_none]
    | some i =>
      obtain ⟨rfl, g1, -⟩ := ix_some h3
      have g := hR.2.2 i g1
      simp (disch := omega) only [q_lit, q_m1, q_m2, q_m1000, q_add, q_mul, q_cl, q_le, q_lt, q_eq, q_in, q_bd_some, eq_self, if_true, if_false, q_b0, q_b1, q_b01, q_bt, q_bf, q_ft, q_tf, Nat.mul_zero, Nat.add_zero, Nat.zero_add, or_true, true_or, not_true_eq_false, not_false_eq_true, reduceCtorEq, Option.isSome_some, g.1, g.2.1, g.2.2]
      by_cases h0 : w = nI 0
      · rw [if_pos h0, if_pos h0]
      · rw [if_neg h0, if_neg h0]
        by_cases h1 : w = nI 1
        · rw [if_pos h1, if_pos h1]
        · rw [if_neg h1, if_neg h1]
          by_cases h2 : w = nI 2
          · rw [if_pos h2, if_pos h2]
          · rw [if_neg h2, if_neg h2]
theorem c_deed (hT : rT M 1 T) (hz : tz T 2 ≤ 2) (ho : ∀ k, k < tz T 2 → oN (tR T 2 k) ≤ 40) (d j w : Int32) : f_X10_deed d j w M = some (zI (sp_line T 2 d j w), M) := by
  unfold f_X10_deed sp_line
  rw [q_lit 2, show (OfNat.ofNat 2 : Nat) = 2 from rfl, s_rollAt hT (by omega) (by omega) hz, q_bd_some]
  cases h : ix d (tz T 2) with
  | none => rfl
  | some k =>
    obtain ⟨rfl, h1, -⟩ := ix_some h
    have hR := hT.rol (s := 2) (by omega) (by omega) h1
    show (if hr_K (24 + 4 * (2 * (2 - 1) + k)) = 5 then _ else none) = _
    rw [if_pos hR.1, c_lineOf (s := 2) (k := k) hR (ho k h1), q_bd_some]
theorem c_sneeze (hT : rT M 1 T) (hz : tz T 3 ≤ 2) (ho : ∀ k, k < tz T 3 → oN (tR T 3 k) ≤ 40) (d j w : Int32) : f_X10_sneeze d j w M = some (zI (sp_line T 3 d j w), M) := by
  unfold f_X10_sneeze sp_line
  rw [q_lit 3, show (OfNat.ofNat 3 : Nat) = 3 from rfl, s_rollAt hT (by omega) (by omega) hz, q_bd_some]
  cases h : ix d (tz T 3) with
  | none => rfl
  | some k =>
    obtain ⟨rfl, h1, -⟩ := ix_some h
    have hR := hT.rol (s := 3) (by omega) (by omega) h1
    show (if hr_K (24 + 4 * (2 * (3 - 1) + k)) = 5 then _ else none) = _
    rw [if_pos hR.1, c_lineOf (s := 3) (k := k) hR (ho k h1), q_bd_some]
theorem c_guest (hT : rT M 1 T) (hz : tz T 4 ≤ 2) (ho : ∀ k, k < tz T 4 → oN (tR T 4 k) ≤ 40) (d j : Int32) : f_X10_guest d j M = some (zI (sp_guest T d j), M) := by
  unfold f_X10_guest sp_guest
  rw [q_lit 4, show (OfNat.ofNat 4 : Nat) = 4 from rfl, s_rollAt hT (by omega) (by omega) hz, q_bd_some]
  cases h : ix d (tz T 4) with
  | none => rfl
  | some k =>
    obtain ⟨rfl, h1, -⟩ := ix_some h
    have hR := hT.rol (s := 4) (by omega) (by omega) h1
    have hn := ho k h1
    show (if hr_K (24 + 4 * (2 * (4 - 1) + k)) = 5 then _ else none) = _
    rw [if_pos hR.1, hR.2.1.1]
    by_cases hj : j = zI (-1)
    · subst hj
      simp (disch := omega) only [q_lit, q_m1, q_m2, q_m1000, q_add, q_mul, q_cl, q_le, q_lt, q_eq, q_in, q_bd_some, eq_self, if_true, if_false, q_b0, q_b1, q_b01, q_bt, q_bf, q_ft, q_tf, Nat.mul_zero, Nat.add_zero, Nat.zero_add, or_true, true_or, not_true_eq_false, not_false_eq_true, reduceCtorEq]
      rw [q_nz]
    · simp (disch := omega) only [q_lit, q_m1, q_m2, q_m1000, q_add, q_mul, q_cl, q_le, q_lt, q_eq, q_in, q_bd_some, eq_self, if_true, if_false, q_b0, q_b1, q_b01, q_bt, q_bf, q_ft, q_tf, Nat.mul_zero, Nat.add_zero, Nat.zero_add, or_true, true_or, not_true_eq_false, not_false_eq_true, reduceCtorEq, hj, s_X6_has hR (show oN (tR T 4 k) < 2147483648 by omega)]
      cases h3 : ix j (oN (tR T 4 k)) with
      | none => simp (disch := omega) only [q_lit, q_m1, q_m2, q_m1000, q_add, q_mul, q_cl, q_le, q_lt, q_eq, q_in, q_bd_some, eq_self, if_true, if_false, q_b0, q_b1, q_b01, q_bt, q_bf, q_ft, q_tf, Nat.mul_zero, Nat.add_zero, Nat.zero_add, or_true, true_or, not_true_eq_false, not_false_eq_true, reduceCtorEq, Option.isSome_none]
      | some i =>
        obtain ⟨rfl, g1, -⟩ := ix_some h3
        have g := hR.2.2 i g1
        simp (disch := omega) only [q_lit, q_m1, q_m2, q_m1000, q_add, q_mul, q_cl, q_le, q_lt, q_eq, q_in, q_bd_some, eq_self, if_true, if_false, q_b0, q_b1, q_b01, q_bt, q_bf, q_ft, q_tf, Nat.mul_zero, Nat.add_zero, Nat.zero_add, or_true, true_or, not_true_eq_false, not_false_eq_true, reduceCtorEq, Option.isSome_some, g.2.1]
theorem c_gallery (hT : rT M 1 T) (hz : tz T 1 ≤ 2) (ho : ∀ k, k < tz T 1 → oN (tR T 1 k) ≤ 9) (d w : Int32) : f_X10_gallery d w M = some (zI (sp_gallery T d w), M) := by
  unfold f_X10_gallery sp_gallery
  rw [q_lit 1, show (OfNat.ofNat 1 : Nat) = 1 from rfl, s_rollAt hT (by omega) (by omega) hz, q_bd_some]
  cases h : ix d (tz T 1) with
  | none => rfl
  | some k =>
    obtain ⟨rfl, h1, -⟩ := ix_some h
    have hR := hT.rol (s := 1) (by omega) (by omega) h1
    have hn := ho k h1
    show (if hr_K (24 + 4 * (2 * (1 - 1) + k)) = 5 then _ else none) = _
    rw [if_pos hR.1, hR.2.1.1, hR.2.1.2.1]
    have e62 : ∀ w : Nat, w < 2147483648 → oN (tR T 1 k) ≤ w - 10 → f_X10_gallery_62 (nI k) (nI w) (24 + 4 * (2 * (1 - 1) + k)) M = some (zI (if nI w < nI 20 then -1 else if w - 20 < oN (tR T 1 k) then oB (tR T 1 k) (w - 20) else -1), M) := by
      intro w hw hw2
      unfold f_X10_gallery_62
      rw [hR.2.1.1]
      simp (disch := omega) only [q_lit, q_m1, q_m2, q_m1000, q_add, q_mul, q_cl, q_le, q_lt, q_eq, q_in, q_bd_some, eq_self, if_true, if_false, q_b0, q_b1, q_b01, q_bt, q_bf, q_ft, q_tf, Nat.mul_zero, Nat.add_zero, Nat.zero_add, or_true, true_or, not_true_eq_false, not_false_eq_true, reduceCtorEq]
      by_cases h2 : w < 20
      · rw [if_pos h2, if_pos h2]
      · rw [if_neg h2, if_neg h2]
        by_cases h3 : 20 + oN (tR T 1 k) ≤ w
        · rw [if_pos h3, if_neg (by omega)]
        · rw [if_neg h3, if_pos (show w - 20 < oN (tR T 1 k) by omega)]
          simp (disch := omega) only [q_lit, q_m1, q_m2, q_m1000, q_add, q_mul, q_cl, q_le, q_lt, q_eq, q_in, q_bd_some, eq_self, if_true, if_false, q_b0, q_b1, q_b01, q_bt, q_bf, q_ft, q_tf, Nat.mul_zero, Nat.add_zero, Nat.zero_add, or_true, true_or, not_true_eq_false, not_false_eq_true, reduceCtorEq, q_sub, (hR.2.2 (w - 20) (by omega)).2.2]
    rcases q_any w with h0 | ⟨w, g2, rfl⟩
    · simp (disch := omega) only [q_lit, q_m1, q_m2, q_m1000, q_add, q_mul, q_cl, q_le, q_lt, q_eq, q_in, q_bd_some, eq_self, if_true, if_false, q_b0, q_b1, q_b01, q_bt, q_bf, q_ft, q_tf, Nat.mul_zero, Nat.add_zero, Nat.zero_add, or_true, true_or, not_true_eq_false, not_false_eq_true, reduceCtorEq, q_neg_ne h0, q_neg_lt h0]
      unfold f_X10_gallery_62
      simp (disch := omega) only [q_lit, q_m1, q_m2, q_m1000, q_add, q_mul, q_cl, q_le, q_lt, q_eq, q_in, q_bd_some, eq_self, if_true, if_false, q_b0, q_b1, q_b01, q_bt, q_bf, q_ft, q_tf, Nat.mul_zero, Nat.add_zero, Nat.zero_add, or_true, true_or, not_true_eq_false, not_false_eq_true, reduceCtorEq, q_neg_lt h0]
    · simp (disch := omega) only [q_lit, q_m1, q_m2, q_m1000, q_add, q_mul, q_cl, q_le, q_lt, q_eq, q_in, q_bd_some, eq_self, if_true, if_false, q_b0, q_b1, q_b01, q_bt, q_bf, q_ft, q_tf, Nat.mul_zero, Nat.add_zero, Nat.zero_add, or_true, true_or, not_true_eq_false, not_false_eq_true, reduceCtorEq]
      by_cases h2 : w = 0
      · rw [if_pos h2, if_pos h2, q_nz]
      · rw [if_neg h2, if_neg h2]
        by_cases h2 : w = 1
        · rw [if_pos h2, if_pos h2, q_nz]
        · rw [if_neg h2, if_neg h2]
          by_cases h3 : w < 10
          · rw [if_pos h3, if_pos h3]
            unfold f_X10_gallery_62
            simp (disch := omega) only [q_lit, q_m1, q_m2, q_m1000, q_add, q_mul, q_cl, q_le, q_lt, q_eq, q_in, q_bd_some, eq_self, if_true, if_false, q_b0, q_b1, q_b01, q_bt, q_bf, q_ft, q_tf, Nat.mul_zero, Nat.add_zero, Nat.zero_add, or_true, true_or, not_true_eq_false, not_false_eq_true, reduceCtorEq, show w < 20 by omega]
          · rw [if_neg h3, if_neg h3]
            by_cases h4 : 10 + oN (tR T 1 k) ≤ w
            · rw [if_pos h4, if_neg (show ¬ w - 10 < oN (tR T 1 k) by omega), e62 w g2 (by omega)]
              simp (disch := omega) only [q_lit, q_m1, q_m2, q_m1000, q_add, q_mul, q_cl, q_le, q_lt, q_eq, q_in, q_bd_some, eq_self, if_true, if_false, q_b0, q_b1, q_b01, q_bt, q_bf, q_ft, q_tf, Nat.mul_zero, Nat.add_zero, Nat.zero_add, or_true, true_or, not_true_eq_false, not_false_eq_true, reduceCtorEq]
            · rw [if_neg h4, if_pos (show w - 10 < oN (tR T 1 k) by omega)]
              simp (disch := omega) only [q_lit, q_m1, q_m2, q_m1000, q_add, q_mul, q_cl, q_le, q_lt, q_eq, q_in, q_bd_some, eq_self, if_true, if_false, q_b0, q_b1, q_b01, q_bt, q_bf, q_ft, q_tf, Nat.mul_zero, Nat.add_zero, Nat.zero_add, or_true, true_or, not_true_eq_false, not_false_eq_true, reduceCtorEq, q_sub, (hR.2.2 (w - 10) (by omega)).2.1]
end CLS
