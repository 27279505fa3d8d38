/-! the model's galleries, days, sights, dinners in hand; plain answers of them -/
def gG (M : PM) (k : Nat) (R : Rol) : Prop := (k < 2 ∧ oOK 1 R) ∧ M.1 275 28 = nI k ∧ (M.1 282 (20 * k) = nI (oN R) ∧ M.1 282 (20 * k + 1) = nI (oL R)) ∧ ∀ i, i < oN R → M.1 282 (20 * k + 2 + 2 * i) = zI (oA R i) ∧ M.1 282 (20 * k + 3 + 2 * i) = zI (oB R i)
def gD (M : PM) (k : Nat) (R : Rol) : Prop := (k < 2 ∧ oOK 2 R) ∧ M.1 275 29 = nI k ∧ M.1 283 (121 * k) = nI (oN R) ∧ ∀ i, i < oN R → M.1 283 (121 * k + 1 + 3 * i) = zI (oC R i) ∧ M.1 283 (121 * k + 1 + 3 * i + 1) = zI (oA R i) ∧ M.1 283 (121 * k + 1 + 3 * i + 2) = zI (oB R i)
def gS (M : PM) (k : Nat) (R : Rol) : Prop := (k < 2 ∧ oOK 3 R) ∧ M.1 275 46 = nI k ∧ M.1 284 (37 * k) = nI (oN R) ∧ ∀ i, i < oN R → M.1 284 (37 * k + 1 + 3 * i) = zI (oC R i) ∧ M.1 284 (37 * k + 1 + 3 * i + 1) = zI (oA R i) ∧ M.1 284 (37 * k + 1 + 3 * i + 2) = zI (oB R i)
def gN (M : PM) (k : Nat) (R : Rol) : Prop := (k < 2 ∧ oOK 4 R) ∧ M.1 275 51 = nI k ∧ M.1 285 (9 * k) = nI (oN R) ∧ ∀ i, i < oN R → M.1 285 (9 * k + 1 + i) = zI (oA R i)
theorem gG.at {M M' : PM} {k : Nat} {R : Rol} (h : gG M k R) (g : M'.1 282 = M.1 282) (g1 : M'.1 275 28 = M.1 275 28) : gG M' k R := by
  unfold gG at h ⊢
  rw [g, g1]
  exact h
theorem gD.at {M M' : PM} {k : Nat} {R : Rol} (h : gD M k R) (g : M'.1 283 = M.1 283) (g1 : M'.1 275 29 = M.1 275 29) : gD M' k R := by
  unfold gD at h ⊢
  rw [g, g1]
  exact h
theorem gS.at {M M' : PM} {k : Nat} {R : Rol} (h : gS M k R) (g : M'.1 284 = M.1 284) (g1 : M'.1 275 46 = M.1 275 46) : gS M' k R := by
  unfold gS at h ⊢
  rw [g, g1]
  exact h
theorem gN.at {M M' : PM} {k : Nat} {R : Rol} (h : gN M k R) (g : M'.1 285 = M.1 285) (g1 : M'.1 275 51 = M.1 275 51) : gN M' k R := by
  unfold gN at h ⊢
  rw [g, g1]
  exact h
section MODR
variable {M : PM} {T : Tol} {k : Nat} {R : Rol}
theorem m_hasGallery (hT : mT M 0 T) (ok : tOK T) (g : Int32) : f_X11_hasGallery g M = some (bI (ix g (tz T 1)).isSome, hr_si M 275 28 g) ∧ ∀ k, g = nI k → k < tz T 1 → gG (hr_si M 275 28 g) k (tR T 1 k) := by
  have hz := ok.2.2.1 1 (by omega)
  constructor
  · unfold f_X11_hasGallery
    rw [show (1 : Int32) = nI 1 from rfl, s_is (n := tz T 1) (by omega) (by simp only [q_si1]; exact hT.2.2.1 1 (by omega)) (by omega)]
    simp (disch := omega) only [q_lit, q_m1, q_m2, q_m1000, q_add, q_mul, q_cl, q_le, q_lt, q_eq, q_in, q_bd_some, eq_self, if_true, if_false, q_b0, q_b1, q_b01, q_bt, q_bf, q_ft, q_tf, Nat.mul_zero, Nat.add_zero, Nat.zero_add, or_true, true_or, not_true_eq_false, not_false_eq_true, reduceCtorEq]
  · rintro k rfl hk
    obtain ⟨⟨h1, h2⟩, h3⟩ := hT.2.2.2.2.1 k hk
    simp only [Nat.mul_zero, Nat.zero_add] at h1 h2 h3
    exact ⟨⟨by omega, ok.2.2.2.2 1 k (by omega) (by omega) hk⟩, by simp [q_si1], by simpa only [q_si1, show ¬ 282 = 275 by omega, if_false] using ⟨h1, h2⟩, by simpa only [q_si1, show ¬ 282 = 275 by omega, if_false] using h3⟩
theorem m_hasDay (hT : mT M 0 T) (ok : tOK T) (g : Int32) : f_X11_hasDay g M = some (bI (ix g (tz T 2)).isSome, hr_si M 275 29 g) ∧ ∀ k, g = nI k → k < tz T 2 → gD (hr_si M 275 29 g) k (tR T 2 k) := by
  have hz := ok.2.2.1 2 (by omega)
  constructor
  · unfold f_X11_hasDay
    rw [show (2 : Int32) = nI 2 from rfl, s_is (n := tz T 2) (by omega) (by simp only [q_si1]; exact hT.2.2.1 2 (by omega)) (by omega)]
    simp (disch := omega) only [q_lit, q_m1, q_m2, q_m1000, q_add, q_mul, q_cl, q_le, q_lt, q_eq, q_in, q_bd_some, eq_self, if_true, if_false, q_b0, q_b1, q_b01, q_bt, q_bf, q_ft, q_tf, Nat.mul_zero, Nat.add_zero, Nat.zero_add, or_true, true_or, not_true_eq_false, not_false_eq_true, reduceCtorEq]
  · rintro k rfl hk
    obtain ⟨h1, h3⟩ := hT.2.2.2.2.2.1 k hk
    simp only [Nat.mul_zero, Nat.zero_add] at h1 h3
    exact ⟨⟨by omega, ok.2.2.2.2 2 k (by omega) (by omega) hk⟩, by simp [q_si1], by simpa only [q_si1, show ¬ 283 = 275 by omega, if_false] using h1, by simpa only [q_si1, show ¬ 283 = 275 by omega, if_false] using h3⟩
theorem m_hasSight (hT : mT M 0 T) (ok : tOK T) (g : Int32) : f_X11_hasSight g M = some (bI (ix g (tz T 3)).isSome, hr_si M 275 46 g) ∧ ∀ k, g = nI k → k < tz T 3 → gS (hr_si M 275 46 g) k (tR T 3 k) := by
  have hz := ok.2.2.1 3 (by omega)
  constructor
  · unfold f_X11_hasSight
    rw [show (3 : Int32) = nI 3 from rfl, s_is (n := tz T 3) (by omega) (by simp only [q_si1]; exact hT.2.2.1 3 (by omega)) (by omega)]
    simp (disch := omega) only [q_lit, q_m1, q_m2, q_m1000, q_add, q_mul, q_cl, q_le, q_lt, q_eq, q_in, q_bd_some, eq_self, if_true, if_false, q_b0, q_b1, q_b01, q_bt, q_bf, q_ft, q_tf, Nat.mul_zero, Nat.add_zero, Nat.zero_add, or_true, true_or, not_true_eq_false, not_false_eq_true, reduceCtorEq]
  · rintro k rfl hk
    obtain ⟨h1, h3⟩ := hT.2.2.2.2.2.2.1 k hk
    simp only [Nat.mul_zero, Nat.zero_add] at h1 h3
    exact ⟨⟨by omega, ok.2.2.2.2 3 k (by omega) (by omega) hk⟩, by simp [q_si1], by simpa only [q_si1, show ¬ 284 = 275 by omega, if_false] using h1, by simpa only [q_si1, show ¬ 284 = 275 by omega, if_false] using h3⟩
theorem m_hasDinner (hT : mT M 0 T) (ok : tOK T) (g : Int32) : f_X11_hasDinner g M = some (bI (ix g (tz T 4)).isSome, hr_si M 275 51 g) ∧ ∀ k, g = nI k → k < tz T 4 → gN (hr_si M 275 51 g) k (tR T 4 k) := by
  have hz := ok.2.2.1 4 (by omega)
  constructor
  · unfold f_X11_hasDinner
    rw [show (4 : Int32) = nI 4 from rfl, s_is (n := tz T 4) (by omega) (by simp only [q_si1]; exact hT.2.2.1 4 (by omega)) (by omega)]
    simp (disch := omega) only [q_lit, q_m1, q_m2, q_m1000, q_add, q_mul, q_cl, q_le, q_lt, q_eq, q_in, q_bd_some, eq_self, if_true, if_false, q_b0, q_b1, q_b01, q_bt, q_bf, q_ft, q_tf, Nat.mul_zero, Nat.add_zero, Nat.zero_add, or_true, true_or, not_true_eq_false, not_false_eq_true, reduceCtorEq]
  · rintro k rfl hk
    obtain ⟨h1, h3⟩ := hT.2.2.2.2.2.2.2 k hk
    simp only [Nat.mul_zero, Nat.zero_add] at h1 h3
    exact ⟨⟨by omega, ok.2.2.2.2 4 k (by omega) (by omega) hk⟩, by simp [q_si1], by simpa only [q_si1, show ¬ 285 = 275 by omega, if_false] using h1, by simpa only [q_si1, show ¬ 285 = 275 by omega, if_false] using h3⟩
theorem s_pictures (h : gG M k R) : f_X11_pictures M = some (nI (oN R), M) := by
  have hk := h.1.1
  unfold f_X11_pictures
  rw [h.2.1]
  simp (disch := omega) only [q_lit, q_m1, q_m2, q_m1000, q_add, q_mul, q_cl, q_le, q_lt, q_eq, q_in, q_bd_some, eq_self, if_true, if_false, q_b0, q_b1, q_b01, q_bt, q_bf, q_ft, q_tf, Nat.mul_zero, Nat.add_zero, Nat.zero_add, or_true, true_or, not_true_eq_false, not_false_eq_true, reduceCtorEq, h.2.2.1.1]
theorem s_limit (h : gG M k R) : f_X11_limit M = some (nI (oL R), M) := by
  have hk := h.1.1
  unfold f_X11_limit
  rw [h.2.1]
  simp (disch := omega) only [q_lit, q_m1, q_m2, q_m1000, q_add, q_mul, q_cl, q_le, q_lt, q_eq, q_in, q_bd_some, eq_self, if_true, if_false, q_b0, q_b1, q_b01, q_bt, q_bf, q_ft, q_tf, Nat.mul_zero, Nat.add_zero, Nat.zero_add, or_true, true_or, not_true_eq_false, not_false_eq_true, reduceCtorEq, h.2.2.1.2]
theorem s_hueOf (h : gG M k R) {i : Nat} (hi : i < oN R) : f_X11_hueOf (nI i) M = some (zI (oA R i), M) := by
  have hk := h.1.1
  have hn : oN R ≤ 9 := h.1.2.1
  unfold f_X11_hueOf
  rw [h.2.1]
  simp (disch := omega) only [q_lit, q_m1, q_m2, q_m1000, q_add, q_mul, q_cl, q_le, q_lt, q_eq, q_in, q_bd_some, eq_self, if_true, if_false, q_b0, q_b1, q_b01, q_bt, q_bf, q_ft, q_tf, Nat.mul_zero, Nat.add_zero, Nat.zero_add, or_true, true_or, not_true_eq_false, not_false_eq_true, reduceCtorEq, (h.2.2.2 i hi).1]
theorem s_areaOf (h : gG M k R) {i : Nat} (hi : i < oN R) : f_X11_areaOf (nI i) M = some (zI (oB R i), M) := by
  have hk := h.1.1
  have hn : oN R ≤ 9 := h.1.2.1
  unfold f_X11_areaOf
  rw [h.2.1]
  simp (disch := omega) only [q_lit, q_m1, q_m2, q_m1000, q_add, q_mul, q_cl, q_le, q_lt, q_eq, q_in, q_bd_some, eq_self, if_true, if_false, q_b0, q_b1, q_b01, q_bt, q_bf, q_ft, q_tf, Nat.mul_zero, Nat.add_zero, Nat.zero_add, or_true, true_or, not_true_eq_false, not_false_eq_true, reduceCtorEq, (h.2.2.2 i hi).2]
theorem s_deeds (h : gD M k R) : f_X11_deeds M = some (nI (oN R), M) := by
  have hk := h.1.1
  unfold f_X11_deeds
  rw [h.2.1]
  simp (disch := omega) only [q_lit, q_m1, q_m2, q_m1000, q_add, q_mul, q_cl, q_le, q_lt, q_eq, q_in, q_bd_some, eq_self, if_true, if_false, q_b0, q_b1, q_b01, q_bt, q_bf, q_ft, q_tf, Nat.mul_zero, Nat.add_zero, Nat.zero_add, or_true, true_or, not_true_eq_false, not_false_eq_true, reduceCtorEq, h.2.2.1]
theorem s_deedOf (h : gD M k R) {i : Nat} (hi : i < oN R) : f_X11_deedOf (nI i) (nI 0) M = some (zI (oC R i), M) ∧ f_X11_deedOf (nI i) (nI 1) M = some (zI (oA R i), M) ∧ f_X11_deedOf (nI i) (nI 2) M = some (zI (oB R i), M) := by
  have hk := h.1.1
  have hn : oN R ≤ 40 := h.1.2.1
  have g := h.2.2.2 i hi
  unfold f_X11_deedOf
  rw [h.2.1]
  refine ⟨?_, ?_, ?_⟩
  · simp (disch := omega) only [q_lit, q_m1, q_m2, q_m1000, q_add, q_mul, q_cl, q_le, q_lt, q_eq, q_in, q_bd_some, eq_self, if_true, if_false, q_b0, q_b1, q_b01, q_bt, q_bf, q_ft, q_tf, Nat.mul_zero, Nat.add_zero, Nat.zero_add, or_true, true_or, not_true_eq_false, not_false_eq_true, reduceCtorEq, g.1]
  · simp (disch := omega) only [q_lit, q_m1, q_m2, q_m1000, q_add, q_mul, q_cl, q_le, q_lt, q_eq, q_in, q_bd_some, eq_self, if_true, if_false, q_b0, q_b1, q_b01, q_bt, q_bf, q_ft, q_tf, Nat.mul_zero, Nat.add_zero, Nat.zero_add, or_true, true_or, not_true_eq_false, not_false_eq_true, reduceCtorEq, g.2.1]
  · simp (disch := omega) only [q_lit, q_m1, q_m2, q_m1000, q_add, q_mul, q_cl, q_le, q_lt, q_eq, q_in, q_bd_some, eq_self, if_true, if_false, q_b0, q_b1, q_b01, q_bt, q_bf, q_ft, q_tf, Nat.mul_zero, Nat.add_zero, Nat.zero_add, or_true, true_or, not_true_eq_false, not_false_eq_true, reduceCtorEq, g.2.2]
theorem s_sneezes (h : gS M k R) : f_X11_sneezes M = some (nI (oN R), M) := by
  have hk := h.1.1
  unfold f_X11_sneezes
  rw [h.2.1]
  simp (disch := omega) only [q_lit, q_m1, q_m2, q_m1000, q_add, q_mul, q_cl, q_le, q_lt, q_eq, q_in, q_bd_some, eq_self, if_true, if_false, q_b0, q_b1, q_b01, q_bt, q_bf, q_ft, q_tf, Nat.mul_zero, Nat.add_zero, Nat.zero_add, or_true, true_or, not_true_eq_false, not_false_eq_true, reduceCtorEq, h.2.2.1]
theorem s_sneezeOf (h : gS M k R) {i : Nat} (hi : i < oN R) : f_X11_sneezeOf (nI i) (nI 0) M = some (zI (oC R i), M) ∧ f_X11_sneezeOf (nI i) (nI 1) M = some (zI (oA R i), M) ∧ f_X11_sneezeOf (nI i) (nI 2) M = some (zI (oB R i), M) := by
  have hk := h.1.1
  have hn : oN R ≤ 12 := h.1.2.1
  have g := h.2.2.2 i hi
  unfold f_X11_sneezeOf
  rw [h.2.1]
  refine ⟨?_, ?_, ?_⟩
  · simp (disch := omega) only [q_lit, q_m1, q_m2, q_m1000, q_add, q_mul, q_cl, q_le, q_lt, q_eq, q_in, q_bd_some, eq_self, if_true, if_false, q_b0, q_b1, q_b01, q_bt, q_bf, q_ft, q_tf, Nat.mul_zero, Nat.add_zero, Nat.zero_add, or_true, true_or, not_true_eq_false, not_false_eq_true, reduceCtorEq, g.1]
  · simp (disch := omega) only [q_lit, q_m1, q_m2, q_m1000, q_add, q_mul, q_cl, q_le, q_lt, q_eq, q_in, q_bd_some, eq_self, if_true, if_false, q_b0, q_b1, q_b01, q_bt, q_bf, q_ft, q_tf, Nat.mul_zero, Nat.add_zero, Nat.zero_add, or_true, true_or, not_true_eq_false, not_false_eq_true, reduceCtorEq, g.2.1]
  · simp (disch := omega) only [q_lit, q_m1, q_m2, q_m1000, q_add, q_mul, q_cl, q_le, q_lt, q_eq, q_in, q_bd_some, eq_self, if_true, if_false, q_b0, q_b1, q_b01, q_bt, q_bf, q_ft, q_tf, Nat.mul_zero, Nat.add_zero, Nat.zero_add, or_true, true_or, not_true_eq_false, not_false_eq_true, reduceCtorEq, g.2.2]
theorem s_guests (h : gN M k R) : f_X11_guests M = some (nI (oN R), M) := by
  have hk := h.1.1
  unfold f_X11_guests
  rw [h.2.1]
  simp (disch := omega) only [q_lit, q_m1, q_m2, q_m1000, q_add, q_mul, q_cl, q_le, q_lt, q_eq, q_in, q_bd_some, eq_self, if_true, if_false, q_b0, q_b1, q_b01, q_bt, q_bf, q_ft, q_tf, Nat.mul_zero, Nat.add_zero, Nat.zero_add, or_true, true_or, not_true_eq_false, not_false_eq_true, reduceCtorEq, h.2.2.1]
theorem s_worn (h : gN M k R) {i : Nat} (hi : i < oN R) : f_X11_worn (nI i) M = some (zI (oA R i), M) := by
  have hk := h.1.1
  have hn : oN R ≤ 8 := h.1.2.1
  unfold f_X11_worn
  rw [h.2.1]
  simp (disch := omega) only [q_lit, q_m1, q_m2, q_m1000, q_add, q_mul, q_cl, q_le, q_lt, q_eq, q_in, q_bd_some, eq_self, if_true, if_false, q_b0, q_b1, q_b01, q_bt, q_bf, q_ft, q_tf, Nat.mul_zero, Nat.add_zero, Nat.zero_add, or_true, true_or, not_true_eq_false, not_false_eq_true, reduceCtorEq, h.2.2.2 i hi]
theorem m_gallery (hT : mT M 0 T) (ok : tOK T) (d w : Int32) : hw (f_X11_gallery d w M) (fun v _ => v = zI (sp_gallery T d w)) := by
  unfold f_X11_gallery sp_gallery
  obtain ⟨e, hG⟩ := m_hasGallery (hT.si (k := 0) (v := 0)) ok d
  rw [e, q_bd_some]
  cases hd : ix d (tz T 1) with
  | none =>
    simp (disch := omega) only [q_lit, q_m1, q_m2, q_m1000, q_add, q_mul, q_cl, q_le, q_lt, q_eq, q_in, q_bd_some, eq_self, if_true, if_false, q_b0, q_b1, q_b01, q_bt, q_bf, q_ft, q_tf, Nat.mul_zero, Nat.add_zero, Nat.zero_add, or_true, true_or, not_true_eq_false, not_false_eq_true, reduceCtorEq, Option.isSome_none]
    exact hw.ok rfl
  | some k =>
    obtain ⟨rfl, h1, -⟩ := ix_some hd
    have hg := hG k rfl h1
    have hn : oN (tR T 1 k) ≤ 9 := hg.1.2.1
    generalize hr_si (hr_si M 275 0 0) 275 28 (nI k) = M' at hg
    simp (disch := omega) only [q_lit, q_m1, q_m2, q_m1000, q_add, q_mul, q_cl, q_le, q_lt, q_eq, q_in, q_bd_some, eq_self, if_true, if_false, q_b0, q_b1, q_b01, q_bt, q_bf, q_ft, q_tf, Nat.mul_zero, Nat.add_zero, Nat.zero_add, or_true, true_or, not_true_eq_false, not_false_eq_true, reduceCtorEq, Option.isSome_some, s_pictures hg]
    rcases q_any w with h0 | ⟨w, g2, rfl⟩
    · simp (disch := omega) only [q_lit, q_m1, q_m2, q_m1000, q_add, q_mul, q_cl, q_le, q_lt, q_eq, q_in, q_bd_some, eq_self, if_true, if_false, q_b0, q_b1, q_b01, q_bt, q_bf, q_ft, q_tf, Nat.mul_zero, Nat.add_zero, Nat.zero_add, or_true, true_or, not_true_eq_false, not_false_eq_true, reduceCtorEq, s_inab, q_neg_ne h0, q_neg_lt h0, show w < nI 0 from h0, false_and, decide_false]
      exact hw.ok rfl
    · simp (disch := omega) only [q_lit, q_m1, q_m2, q_m1000, q_add, q_mul, q_cl, q_le, q_lt, q_eq, q_in, q_bd_some, eq_self, if_true, if_false, q_b0, q_b1, q_b01, q_bt, q_bf, q_ft, q_tf, Nat.mul_zero, Nat.add_zero, Nat.zero_add, or_true, true_or, not_true_eq_false, not_false_eq_true, reduceCtorEq, s_inab, Nat.not_lt_zero, true_and]
      by_cases h2 : w = 0
      · rw [if_pos h2, if_pos h2]
        exact hw.ok (q_nz _)
      · rw [if_neg h2, if_neg h2]
        by_cases h2 : w = 1
        · rw [if_pos h2, if_pos h2, s_limit hg, q_bd_some]
          exact hw.ok (q_nz _)
        · rw [if_neg h2, if_neg h2]
          by_cases hA : 10 ≤ w ∧ w ≤ 9 + oN (tR T 1 k)
          · rw [decide_eq_true hA, if_neg (by simp), if_neg (show ¬ w < 10 by omega), if_pos (show w - 10 < oN (tR T 1 k) by omega)]
            simp (disch := omega) only [q_lit, q_m1, q_m2, q_m1000, q_add, q_mul, q_cl, q_le, q_lt, q_eq, q_in, q_bd_some, eq_self, if_true, if_false, q_b0, q_b1, q_b01, q_bt, q_bf, q_ft, q_tf, Nat.mul_zero, Nat.add_zero, Nat.zero_add, or_true, true_or, not_true_eq_false, not_false_eq_true, reduceCtorEq, q_sub, s_hueOf hg (show w - 10 < oN (tR T 1 k) by omega)]
            exact hw.ok rfl
          · rw [decide_eq_false hA, if_pos rfl]
            by_cases h3 : w < 10
            · rw [if_pos h3, decide_eq_false (show ¬ (20 ≤ w ∧ w ≤ 19 + oN (tR T 1 k)) by omega), if_pos rfl]
              exact hw.ok rfl
            · rw [if_neg h3, if_neg (show ¬ w - 10 < oN (tR T 1 k) by omega)]
              by_cases hB : 20 ≤ w ∧ w ≤ 19 + oN (tR T 1 k)
              · rw [decide_eq_true hB, if_neg (by simp), if_neg (show ¬ w < 20 by omega), if_pos (show w - 20 < oN (tR T 1 k) by omega)]
                simp (disch := omega) only [q_lit, q_m1, q_m2, q_m1000, q_add, q_mul, q_cl, q_le, q_lt, q_eq, q_in, q_bd_some, eq_self, if_true, if_false, q_b0, q_b1, q_b01, q_bt, q_bf, q_ft, q_tf, Nat.mul_zero, Nat.add_zero, Nat.zero_add, or_true, true_or, not_true_eq_false, not_false_eq_true, reduceCtorEq, q_sub, s_areaOf hg (show w - 20 < oN (tR T 1 k) by omega)]
                exact hw.ok rfl
              · rw [decide_eq_false hB, if_pos rfl]
                by_cases h4 : w < 20
                · rw [if_pos h4]
                  exact hw.ok rfl
                · rw [if_neg h4, if_neg (show ¬ w - 20 < oN (tR T 1 k) by omega)]
                  exact hw.ok rfl
theorem m_line3 {x : Int32} {a b c : Int} {X : Option (Int32 × PM)} (f : Nat → Option (Int32 × PM)) (h0 : f 0 = some (zI a, M)) (h1 : f 1 = some (zI b, M)) (h2 : f 2 = some (zI c, M)) {w : Nat} (hw3 : w < 3) : f w = some (zI (if nI w = nI 0 then a else if nI w = nI 1 then b else if nI w = nI 2 then c else -2), M) := by
  rcases (show w = 0 ∨ w = 1 ∨ w = 2 by omega) with rfl | rfl | rfl
  · rw [if_pos rfl, h0]
  · rw [if_neg (by decide), if_pos rfl, h1]
  · rw [if_neg (by decide), if_neg (by decide), if_pos rfl, h2]
theorem ix3_none {w : Int32} (h : ix w 3 = none) : ¬ w = nI 0 ∧ ¬ w = nI 1 ∧ ¬ w = nI 2 := by
  rcases ix_none h (by omega) with h0 | ⟨j, h1, rfl, h2⟩
  · exact ⟨q_neg_ne h0 (by omega), q_neg_ne h0 (by omega), q_neg_ne h0 (by omega)⟩
  · refine ⟨?_, ?_, ?_⟩ <;> rw [q_eq h1 (by omega)] <;> omega
theorem m_deed (hT : mT M 0 T) (ok : tOK T) (d j w : Int32) : hw (f_X11_deed d j w M) (fun v _ => v = zI (sp_line T 2 d j w)) := by
  unfold f_X11_deed sp_line
  obtain ⟨e, hG⟩ := m_hasDay (hT.si (k := 0) (v := 0)) ok d
  rw [e, q_bd_some]
  cases hd : ix d (tz T 2) with
  | none =>
    simp (disch := omega) only [q_lit, q_m1, q_m2, q_m1000, q_add, q_mul, q_cl, q_le, q_lt, q_eq, q_in, q_bd_some, eq_self, if_true, if_false, q_b0, q_b1, q_b01, q_bt, q_bf, q_ft, q_tf, Nat.mul_zero, Nat.add_zero, Nat.zero_add, or_true, true_or, not_true_eq_false, not_false_eq_true, reduceCtorEq, Option.isSome_none]
    exact hw.ok rfl
  | some k =>
    obtain ⟨rfl, h1, -⟩ := ix_some hd
    have hg := hG k rfl h1
    have hn : oN (tR T 2 k) ≤ 40 := hg.1.2.1
    generalize hr_si (hr_si M 275 0 0) 275 29 (nI k) = M' at hg
    simp (disch := omega) only [q_lit, q_m1, q_m2, q_m1000, q_add, q_mul, q_cl, q_le, q_lt, q_eq, q_in, q_bd_some, eq_self, if_true, if_false, q_b0, q_b1, q_b01, q_bt, q_bf, q_ft, q_tf, Nat.mul_zero, Nat.add_zero, Nat.zero_add, or_true, true_or, not_true_eq_false, not_false_eq_true, reduceCtorEq, Option.isSome_some, s_deeds hg, s_inS, s_inc]
    by_cases hj : j = zI (-1)
    · rw [if_pos hj, if_pos hj]
      by_cases h0 : w = nI 0
      · rw [if_pos h0, if_pos h0]
        exact hw.ok (q_nz _)
      · rw [if_neg h0, if_neg h0]
        exact hw.ok rfl
    · rw [if_neg hj, if_neg hj]
      cases h3 : ix j (oN (tR T 2 k)) with
      | none =>
        simp (disch := omega) only [q_lit, q_m1, q_m2, q_m1000, q_add, q_mul, q_cl, q_le, q_lt, q_eq, q_in, q_bd_some, eq_self, if_true, if_false, q_b0, q_b1, q_b01, q_bt, q_bf, q_ft, q_tf, Nat.mul_zero, Nat.add_zero, Nat.zero_add, or_true, true_or, not_true_eq_false, not_false_eq_true, reduceCtorEq, Option.isSome_none]
        exact hw.ok rfl
      | some i =>
        obtain ⟨rfl, g1, -⟩ := ix_some h3
        obtain ⟨e0, e1, e2⟩ := s_deedOf hg g1
        cases h4 : ix w 3 with
        | none =>
          obtain ⟨n0, n1, n2⟩ := ix3_none h4
          simp (disch := omega) only [q_lit, q_m1, q_m2, q_m1000, q_add, q_mul, q_cl, q_le, q_lt, q_eq, q_in, q_bd_some, eq_self, if_true, if_false, q_b0, q_b1, q_b01, q_bt, q_bf, q_ft, q_tf, Nat.mul_zero, Nat.add_zero, Nat.zero_add, or_true, true_or, not_true_eq_false, not_false_eq_true, reduceCtorEq, Option.isSome_none, Option.isSome_some, n0, n1, n2]
          exact hw.ok rfl
        | some w =>
          obtain ⟨rfl, g2, -⟩ := ix_some h4
          have e3 := m_line3 (x := 0) (X := none) (fun w => f_X11_deedOf (nI i) (nI w) M') e0 e1 e2 g2
          simp only [Option.isSome_some, q_b0, q_tf, if_false, e3, q_bd_some]
          exact hw.ok rfl
theorem m_sneeze (hT : mT M 0 T) (ok : tOK T) (d j w : Int32) : hw (f_X11_sneeze d j w M) (fun v _ => v = zI (sp_line T 3 d j w)) := by
  unfold f_X11_sneeze sp_line
  obtain ⟨e, hG⟩ := m_hasSight (hT.si (k := 0) (v := 0)) ok d
  rw [e, q_bd_some]
  cases hd : ix d (tz T 3) with
  | none =>
    simp (disch := omega) only [q_lit, q_m1, q_m2, q_m1000, q_add, q_mul, q_cl, q_le, q_lt, q_eq, q_in, q_bd_some, eq_self, if_true, if_false, q_b0, q_b1, q_b01, q_bt, q_bf, q_ft, q_tf, Nat.mul_zero, Nat.add_zero, Nat.zero_add, or_true, true_or, not_true_eq_false, not_false_eq_true, reduceCtorEq, Option.isSome_none]
    exact hw.ok rfl
  | some k =>
    obtain ⟨rfl, h1, -⟩ := ix_some hd
    have hg := hG k rfl h1
    have hn : oN (tR T 3 k) ≤ 12 := hg.1.2.1
    generalize hr_si (hr_si M 275 0 0) 275 46 (nI k) = M' at hg
    simp (disch := omega) only [q_lit, q_m1, q_m2, q_m1000, q_add, q_mul, q_cl, q_le, q_lt, q_eq, q_in, q_bd_some, eq_self, if_true, if_false, q_b0, q_b1, q_b01, q_bt, q_bf, q_ft, q_tf, Nat.mul_zero, Nat.add_zero, Nat.zero_add, or_true, true_or, not_true_eq_false, not_false_eq_true, reduceCtorEq, Option.isSome_some, s_sneezes hg, s_inS, s_inc]
    by_cases hj : j = zI (-1)
    · rw [if_pos hj, if_pos hj]
      by_cases h0 : w = nI 0
      · rw [if_pos h0, if_pos h0]
        exact hw.ok (q_nz _)
      · rw [if_neg h0, if_neg h0]
        exact hw.ok rfl
    · rw [if_neg hj, if_neg hj]
      cases h3 : ix j (oN (tR T 3 k)) with
      | none =>
        simp (disch := omega) only [q_lit, q_m1, q_m2, q_m1000, q_add, q_mul, q_cl, q_le, q_lt, q_eq, q_in, q_bd_some, eq_self, if_true, if_false, q_b0, q_b1, q_b01, q_bt, q_bf, q_ft, q_tf, Nat.mul_zero, Nat.add_zero, Nat.zero_add, or_true, true_or, not_true_eq_false, not_false_eq_true, reduceCtorEq, Option.isSome_none]
        exact hw.ok rfl
      | some i =>
        obtain ⟨rfl, g1, -⟩ := ix_some h3
        obtain ⟨e0, e1, e2⟩ := s_sneezeOf hg g1
        cases h4 : ix w 3 with
        | none =>
          obtain ⟨n0, n1, n2⟩ := ix3_none h4
          simp (disch := omega) only [q_lit, q_m1, q_m2, q_m1000, q_add, q_mul, q_cl, q_le, q_lt, q_eq, q_in, q_bd_some, eq_self, if_true, if_false, q_b0, q_b1, q_b01, q_bt, q_bf, q_ft, q_tf, Nat.mul_zero, Nat.add_zero, Nat.zero_add, or_true, true_or, not_true_eq_false, not_false_eq_true, reduceCtorEq, Option.isSome_none, Option.isSome_some, n0, n1, n2]
          exact hw.ok rfl
        | some w =>
          obtain ⟨rfl, g2, -⟩ := ix_some h4
          have e3 := m_line3 (x := 0) (X := none) (fun w => f_X11_sneezeOf (nI i) (nI w) M') e0 e1 e2 g2
          simp only [Option.isSome_some, q_b0, q_tf, if_false, e3, q_bd_some]
          exact hw.ok rfl
theorem m_guest (hT : mT M 0 T) (ok : tOK T) (d j : Int32) : hw (f_X11_guest d j M) (fun v _ => v = zI (sp_guest T d j)) := by
  unfold f_X11_guest sp_guest
  obtain ⟨e, hG⟩ := m_hasDinner (hT.si (k := 0) (v := 0)) ok d
  rw [e, q_bd_some]
  cases hd : ix d (tz T 4) with
  | none =>
    simp (disch := omega) only [q_lit, q_m1, q_m2, q_m1000, q_add, q_mul, q_cl, q_le, q_lt, q_eq, q_in, q_bd_some, eq_self, if_true, if_false, q_b0, q_b1, q_b01, q_bt, q_bf, q_ft, q_tf, Nat.mul_zero, Nat.add_zero, Nat.zero_add, or_true, true_or, not_true_eq_false, not_false_eq_true, reduceCtorEq, Option.isSome_none]
    exact hw.ok rfl
  | some k =>
    obtain ⟨rfl, h1, -⟩ := ix_some hd
    have hg := hG k rfl h1
    have hn : oN (tR T 4 k) ≤ 8 := hg.1.2.1
    generalize hr_si (hr_si M 275 0 0) 275 51 (nI k) = M' at hg
    simp (disch := omega) only [q_lit, q_m1, q_m2, q_m1000, q_add, q_mul, q_cl, q_le, q_lt, q_eq, q_in, q_bd_some, eq_self, if_true, if_false, q_b0, q_b1, q_b01, q_bt, q_bf, q_ft, q_tf, Nat.mul_zero, Nat.add_zero, Nat.zero_add, or_true, true_or, not_true_eq_false, not_false_eq_true, reduceCtorEq, Option.isSome_some, s_guests hg, s_inS]
    by_cases hj : j = zI (-1)
    · rw [if_pos hj, if_pos hj]
      exact hw.ok (q_nz _)
    · rw [if_neg hj, if_neg hj]
      cases h3 : ix j (oN (tR T 4 k)) with
      | none =>
        simp (disch := omega) only [q_lit, q_m1, q_m2, q_m1000, q_add, q_mul, q_cl, q_le, q_lt, q_eq, q_in, q_bd_some, eq_self, if_true, if_false, q_b0, q_b1, q_b01, q_bt, q_bf, q_ft, q_tf, Nat.mul_zero, Nat.add_zero, Nat.zero_add, or_true, true_or, not_true_eq_false, not_false_eq_true, reduceCtorEq, Option.isSome_none]
        exact hw.ok rfl
      | some i =>
        obtain ⟨rfl, g1, -⟩ := ix_some h3
        simp (disch := omega) only [q_lit, q_m1, q_m2, q_m1000, q_add, q_mul, q_cl, q_le, q_lt, q_eq, q_in, q_bd_some, eq_self, if_true, if_false, q_b0, q_b1, q_b01, q_bt, q_bf, q_ft, q_tf, Nat.mul_zero, Nat.add_zero, Nat.zero_add, or_true, true_or, not_true_eq_false, not_false_eq_true, reduceCtorEq, Option.isSome_some, s_worn hg g1]
        exact hw.ok rfl
theorem m_count (hT : mT M 0 T) (s : Int32) : hw (f_X11_count s M) (fun v _ => v = zI (sp_count T s)) := by
  unfold f_X11_count sp_count
  rw [show (0 : Int32) = nI 0 from rfl, show (4 : Int32) = nI 4 from rfl, s_inc _ _ (by omega), q_bd_some]
  cases h : ix s 5 with
  | none =>
    simp (disch := omega) only [q_lit, q_m1, q_m2, q_m1000, q_add, q_mul, q_cl, q_le, q_lt, q_eq, q_in, q_bd_some, eq_self, if_true, if_false, q_b0, q_b1, q_b01, q_bt, q_bf, q_ft, q_tf, Nat.mul_zero, Nat.add_zero, Nat.zero_add, or_true, true_or, not_true_eq_false, not_false_eq_true, reduceCtorEq, Option.isSome_none]
    exact hw.ok rfl
  | some k =>
    obtain ⟨rfl, h1, -⟩ := ix_some h
    have g := hT.2.2.1 k h1
    simp only [Nat.mul_zero, Nat.zero_add] at g
    simp (disch := omega) only [q_lit, q_m1, q_m2, q_m1000, q_add, q_mul, q_cl, q_le, q_lt, q_eq, q_in, q_bd_some, eq_self, if_true, if_false, q_b0, q_b1, q_b01, q_bt, q_bf, q_ft, q_tf, Nat.mul_zero, Nat.add_zero, Nat.zero_add, or_true, true_or, not_true_eq_false, not_false_eq_true, reduceCtorEq, Option.isSome_some, q_si1, q_si2, q_sl1, q_sl2, q_sl3, q_sr1, q_sr2, g, show ¬ 280 = 275 by omega]
    exact hw.ok (q_nz _)
theorem m_fault (hT : mT M 0 T) (w : Int32) : hw (f_X11_fault w M) (fun v _ => v = zI (sp_fault T w)) := by
  unfold f_X11_fault sp_fault
  simp (disch := omega) only [q_lit, q_m1, q_m2, q_m1000, q_add, q_mul, q_cl, q_le, q_lt, q_eq, q_in, q_bd_some, eq_self, if_true, if_false, q_b0, q_b1, q_b01, q_bt, q_bf, q_ft, q_tf, Nat.mul_zero, Nat.add_zero, Nat.zero_add, or_true, true_or, not_true_eq_false, not_false_eq_true, reduceCtorEq, q_si1, q_si2, q_sl1, q_sl2, q_sl3, q_sr1, q_sr2, hT.1.2.1, hT.1.2.2, show ¬ 278 = 275 by omega, show ¬ 279 = 275 by omega]
  by_cases h0 : w = nI 0
  · rw [if_pos h0, if_pos h0]
    exact hw.ok (q_nz _)
  · rw [if_neg h0, if_neg h0]
    by_cases h1 : w = nI 1
    · rw [if_pos h1, if_pos h1]
      exact hw.ok rfl
    · rw [if_neg h1, if_neg h1]
      exact hw.ok rfl
end MODR
