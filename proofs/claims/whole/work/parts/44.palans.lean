/-! the class's palette: its answers -/
theorem q_neg_ne {x : Int32} (h : x < 0) {k : Nat} (hk : k < 2147483648) : ¬ x = nI k := by
  rintro rfl
  exact nI_pos hk h
theorem q_neg_lt {x : Int32} (h : x < 0) {k : Nat} (hk : k < 2147483648) : x < nI k := by
  have h0 : (0 : Int32).toInt = 0 := rfl
  rw [Int32.lt_iff_toInt_lt, h0] at h
  rw [Int32.lt_iff_toInt_lt, q_nInt hk]
  omega
theorem q_neg_le {x : Int32} (h : x < 0) {k : Nat} (hk : k < 2147483648) : x ≤ nI k := Int32.le_of_lt (q_neg_lt h hk)
theorem q_neg_nle {x : Int32} (h : x < 0) {k : Nat} (hk : k < 2147483648) : ¬ nI k ≤ x := fun z => by
  have := Int32.lt_of_le_of_lt z (q_neg_lt h hk)
  exact Int32.lt_irrefl this
theorem q_neg_nlt {x : Int32} (h : x < 0) {k : Nat} (hk : k < 2147483648) : ¬ nI k < x := fun z => by
  have := Int32.lt_trans z (q_neg_lt h hk)
  exact Int32.lt_irrefl this
theorem dsum_le {c : Nat} (h : c < 1000) : dsum c ≤ 27 := by
  unfold dsum
  omega
theorem dotS_s (P : Pal) (n : Nat) : dotS P (n + 1) = if (dotS P n = -1 ∨ (dsum n : Int) < dsum (dotS P n).toNat) ∧ free P n = true then (n : Int) else dotS P n := rfl
theorem dotS_r (P : Pal) (n : Nat) : -1 ≤ dotS P n ∧ dotS P n < n := by
  induction n with
  | zero => unfold dotS fol; omega
  | succ n ih =>
    rw [dotS_s]
    split <;> omega
def lstS (P : Pal) (n : Nat) : Nat := if dotS P n = -1 then 28 else dsum (dotS P n).toNat
section PALF
variable {M : PM} {a : Nat} {P : Pal}
theorem s_findDot (hP : rP M a P) : f_X4_findDot a M = some (zI (dotS P 1000), M) := by
  have hn : pH P ≤ 10 := hP.1.2.1
  unfold f_X4_findDot
  rw [if_pos hP.1.1]
  refine hr_for (σ := Int32 × Int32) (fun f i s => f_X4_findDot_7 a f s.1 s.2 (nI i) M) 1000 (fun i s => s = (zI (dotS P i), nI (lstS P i))) (fun r => r = some (zI (dotS P 1000), M)) ?_ ?_ FU 0 (-1, 28) (Nat.zero_le _) (FU_ok (by omega)) rfl
  · rintro f i s hi rfl
    right
    refine ⟨(zI (dotS P (i + 1)), nI (lstS P (i + 1))), ?_, rfl⟩
    show f_X4_findDot_7 a (f + 1) (zI (dotS P i)) (nI (lstS P i)) (nI i) M = f_X4_findDot_7 a f (zI (dotS P (i + 1))) (nI (lstS P (i + 1))) (nI (i + 1)) M
    have hd := dotS_r P i
    have hdi := dsum_le (show i < 1000 from hi)
    have hl : lstS P i ≤ 28 := by
      unfold lstS
      split
      · omega
      · have := dsum_le (c := (dotS P i).toNat) (by omega); omega
    have hf : foesC P (i / 100) (i / 10 % 10) (i % 10) < 1024 := bset_lt10 _ hn
    rw [f_X4_findDot_7.eq_2]
    simp (disch := omega) only [q_lit, q_m1, q_m2, q_m1000, q_add, q_mul, q_cl, q_le, q_lt, q_eq, q_in, q_bd_some, eq_self, if_true, if_false, q_b0, q_b1, q_b01, q_bt, q_bf, q_ft, q_tf, Nat.mul_zero, Nat.add_zero, Nat.zero_add, or_true, true_or, not_true_eq_false, not_false_eq_true, reduceCtorEq, Nat.not_le.mpr hi, q_div, q_rem, s_foesOfColour hP (show i / 100 ≤ 9 by omega) (show i / 10 % 10 ≤ 9 by omega) (show i % 10 ≤ 9 by omega)]
    have e1 : dotS P (i + 1) = if lstS P i ≤ dsum i then dotS P i else if foesC P (i / 100) (i / 10 % 10) (i % 10) = 0 then (i : Int) else dotS P i := by
      rw [dotS_s]
      unfold lstS free
      by_cases h1 : dotS P i = -1
      · rw [if_pos h1, if_neg (show ¬ 28 ≤ dsum i by omega)]
        simp [h1]
      · rw [if_neg h1]
        by_cases h2 : dsum (dotS P i).toNat ≤ dsum i
        · rw [if_pos h2, if_neg (fun z => by rcases z.1 with z1 | z1 <;> omega)]
        · rw [if_neg h2]
          have h3 : dsum i < dsum (dotS P i).toNat := by omega
          simp [h3]
    have e2 : lstS P (i + 1) = if lstS P i ≤ dsum i then lstS P i else if foesC P (i / 100) (i / 10 % 10) (i % 10) = 0 then dsum i else lstS P i := by
      show (if dotS P (i + 1) = -1 then 28 else dsum (dotS P (i + 1)).toNat) = _
      rw [e1]
      by_cases h1 : lstS P i ≤ dsum i
      · rw [if_pos h1, if_pos h1]; rfl
      · rw [if_neg h1, if_neg h1]
        by_cases h2 : foesC P (i / 100) (i / 10 % 10) (i % 10) = 0
        · rw [if_pos h2, if_pos h2, if_neg (by omega), Int.toNat_natCast]
        · rw [if_neg h2, if_neg h2]; rfl
    rw [e1, e2]
    show (if lstS P i ≤ dsum i then _ else _) = _
    by_cases h1 : lstS P i ≤ dsum i
    · rw [if_pos h1, if_pos h1, if_pos h1]
    · rw [if_neg h1, if_neg h1, if_neg h1]
      by_cases h2 : foesC P (i / 100) (i / 10 % 10) (i % 10) = 0
      · rw [if_pos h2, if_pos h2, if_pos h2, q_nz i]
        rfl
      · rw [if_neg h2, if_neg h2, if_neg h2]
  · rintro f s rfl
    show f_X4_findDot_7 a (f + 1) _ _ (nI 1000) M = _
    rw [f_X4_findDot_7.eq_2]
    simp (disch := omega) only [q_lit, q_m1, q_m2, q_m1000, q_add, q_mul, q_cl, q_le, q_lt, q_eq, q_in, q_bd_some, eq_self, if_true, if_false, q_b0, q_b1, q_b01, q_bt, q_bf, q_ft, q_tf, Nat.mul_zero, Nat.add_zero, Nat.zero_add, or_true, true_or, not_true_eq_false, not_false_eq_true, reduceCtorEq, Nat.le_refl]
theorem s_dotColour (hP : rP M a P) : hw (f_X4_dotColour a M) (fun v M' => v = zI (dotS P 1000) ∧ (M' = M ∨ M' = hr_si M a 10 (zI (dotS P 1000)))) := by
  have hd := dotS_r P 1000
  unfold f_X4_dotColour
  rw [if_pos hP.1.1, q_lit 2, show (OfNat.ofNat 2 : Nat) = 2 from rfl, q_m2]
  rcases hP.2.2.2.2.2 with h | h
  · rw [if_pos h, s_findDot hP, q_bd_some]
    refine hw.ok ⟨?_, Or.inr rfl⟩
    simp [q_si1]
  · rw [h, if_neg (by rw [q_zeq (by omega) (by omega)]; omega)]
    exact hw.ok ⟨rfl, Or.inl rfl⟩
/-- what a palette answers -/
def palS (P : Pal) (w : Nat) : Int := if w = 0 then pH P else if w = 1 then pR P else if w = 2 then meekS P else if w = 3 then amxI (clash1 P) (pH P) else if w = 4 then dotS P 1000
  else if 100 ≤ w ∧ w < 200 then (if (w - 100) / 10 < pH P ∧ w % 10 < 3 then pP P (3 * ((w - 100) / 10) + w % 10) else -1) else if 200 ≤ w ∧ w < 220 then (if w % 10 < pH P then pL P (10 * ((w - 200) / 10) + w % 10) else -1) else -1
theorem palS_5 (P : Pal) {w : Nat} (h : 5 ≤ w) : palS P w = (if 100 ≤ w ∧ w < 200 then (if (w - 100) / 10 < pH P ∧ w % 10 < 3 then ((pP P (3 * ((w - 100) / 10) + w % 10) : Nat) : Int) else -1) else if 200 ≤ w ∧ w < 220 then (if w % 10 < pH P then ((pL P (10 * ((w - 200) / 10) + w % 10) : Nat) : Int) else -1) else -1 : Int) := by
  unfold palS
  rw [if_neg (show ¬ w = 0 by omega), if_neg (show ¬ w = 1 by omega), if_neg (show ¬ w = 2 by omega), if_neg (show ¬ w = 3 by omega), if_neg (show ¬ w = 4 by omega)]
theorem palS_4 (P : Pal) : palS P 4 = dotS P 1000 := by
  unfold palS
  rw [if_neg (show ¬ 4 = 0 by omega), if_neg (show ¬ 4 = 1 by omega), if_neg (show ¬ 4 = 2 by omega), if_neg (show ¬ 4 = 3 by omega), if_pos rfl]
theorem s_hasn (hP : rP M a P) {n : Nat} (h : n < 2147483648) : f_X4_has a (nI n) M = some (bI (decide (n < pH P)), M) := by
  rw [s_has hP]
  simp (disch := omega) only [nI_pos h, not_false_eq_true, true_and, q_cl]
theorem s_partOrLikes (hP : rP M a P) {w : Nat} (hw0 : w < 2147483648) (h5 : 5 ≤ w) : f_X4_partOrLikes a (nI w) M = some (zI (palS P w), M) := by
  have hn : pH P ≤ 10 := hP.1.2.1
  rw [palS_5 P h5]
  unfold f_X4_partOrLikes
  rw [if_pos hP.1.1]
  simp (disch := omega) only [q_lit, q_m1, q_m2, q_m1000, q_add, q_mul, q_cl, q_le, q_lt, q_eq, q_in, q_bd_some, eq_self, if_true, if_false, q_b0, q_b1, q_b01, q_bt, q_bf, q_ft, q_tf, Nat.mul_zero, Nat.add_zero, Nat.zero_add, or_true, true_or, not_true_eq_false, not_false_eq_true, reduceCtorEq]
  by_cases h1 : w < 100
  · rw [if_pos h1, if_neg (show ¬ (100 ≤ w ∧ w < 200) by omega), if_neg (show ¬ (200 ≤ w ∧ w < 220) by omega)]
    unfold f_X4_partOrLikes_27
    simp (disch := omega) only [q_lit, q_m1, q_m2, q_m1000, q_add, q_mul, q_cl, q_le, q_lt, q_eq, q_in, q_bd_some, eq_self, if_true, if_false, q_b0, q_b1, q_b01, q_bt, q_bf, q_ft, q_tf, Nat.mul_zero, Nat.add_zero, Nat.zero_add, or_true, true_or, not_true_eq_false, not_false_eq_true, reduceCtorEq, h1]
  · rw [if_neg h1]
    by_cases h2 : 200 ≤ w
    · rw [if_pos h2, if_neg (show ¬ (100 ≤ w ∧ w < 200) by omega)]
      unfold f_X4_partOrLikes_27
      simp (disch := omega) only [q_lit, q_m1, q_m2, q_m1000, q_add, q_mul, q_cl, q_le, q_lt, q_eq, q_in, q_bd_some, eq_self, if_true, if_false, q_b0, q_b1, q_b01, q_bt, q_bf, q_ft, q_tf, Nat.mul_zero, Nat.add_zero, Nat.zero_add, or_true, true_or, not_true_eq_false, not_false_eq_true, reduceCtorEq, q_rem, s_hasn hP, h1]
      by_cases h3 : 220 ≤ w
      · rw [if_pos h3, if_neg (show ¬ (200 ≤ w ∧ w < 220) by omega)]
      · rw [if_neg h3, if_pos (show 200 ≤ w ∧ w < 220 by omega)]
        by_cases h4 : w % 10 < pH P
        · rw [if_neg (show ¬ decide (w % 10 < pH P) = false by rw [decide_eq_true h4]; simp), if_neg (show ¬ w < 200 by omega), if_pos h4, q_sub (by omega)]
          simp (disch := omega) only [q_lit, q_m1, q_m2, q_m1000, q_add, q_mul, q_cl, q_le, q_lt, q_eq, q_in, q_bd_some, eq_self, if_true, if_false, q_b0, q_b1, q_b01, q_bt, q_bf, q_ft, q_tf, Nat.mul_zero, Nat.add_zero, Nat.zero_add, or_true, true_or, not_true_eq_false, not_false_eq_true, reduceCtorEq, q_div, hP.2.2.1.2.2 (10 * ((w - 200) / 10) + w % 10) (by omega)]
          rw [q_nz]
        · rw [if_pos (decide_eq_false h4), if_neg h4]
    · rw [if_neg h2, if_pos (show 100 ≤ w ∧ w < 200 by omega), q_sub (by omega)]
      unfold f_X4_partOrLikes_27
      simp (disch := omega) only [q_lit, q_m1, q_m2, q_m1000, q_add, q_mul, q_cl, q_le, q_lt, q_eq, q_in, q_bd_some, eq_self, if_true, if_false, q_b0, q_b1, q_b01, q_bt, q_bf, q_ft, q_tf, Nat.mul_zero, Nat.add_zero, Nat.zero_add, or_true, true_or, not_true_eq_false, not_false_eq_true, reduceCtorEq, q_rem, q_div, s_hasn hP, h1]
      rw [if_neg (show ¬ 220 ≤ w by omega)]
      by_cases h4 : (w - 100) / 10 < pH P
      · rw [if_neg (show ¬ decide ((w - 100) / 10 < pH P) = false by rw [decide_eq_true h4]; simp), if_pos (show w < 200 by omega)]
        by_cases h6 : 3 ≤ w % 10
        · rw [if_pos h6, if_neg (show ¬ ((w - 100) / 10 < pH P ∧ w % 10 < 3) by omega)]
        · rw [if_neg h6, s_part hP h4 (by omega), q_bd_some, if_pos (show (w - 100) / 10 < pH P ∧ w % 10 < 3 by omega), q_nz]
      · rw [if_pos (decide_eq_false h4), if_neg (fun z => h4 z.1)]
theorem s_answer (hP : rP M a P) (x : Int32) : hw (f_X4_answer a x M) (fun v M' => v = zI (if x < 0 then -1 else palS P x.toNatClampNeg) ∧ (M' = M ∨ M' = hr_si M a 10 (zI (dotS P 1000)))) := by
  unfold f_X4_answer
  rw [if_pos hP.1.1]
  rcases q_any x with hx | ⟨w, h1, rfl⟩
  · rw [if_pos hx]
    simp (disch := omega) only [q_lit, q_m1, q_m2, q_m1000, q_add, q_mul, q_cl, q_le, q_lt, q_eq, q_in, q_bd_some, eq_self, if_true, if_false, q_b0, q_b1, q_b01, q_bt, q_bf, q_ft, q_tf, Nat.mul_zero, Nat.add_zero, Nat.zero_add, or_true, true_or, not_true_eq_false, not_false_eq_true, reduceCtorEq, q_neg_ne hx, if_false]
    unfold f_X4_partOrLikes f_X4_partOrLikes_27
    rw [if_pos hP.1.1]
    simp (disch := omega) only [q_lit, q_m1, q_m2, q_m1000, q_add, q_mul, q_cl, q_le, q_lt, q_eq, q_in, q_bd_some, eq_self, if_true, if_false, q_b0, q_b1, q_b01, q_bt, q_bf, q_ft, q_tf, Nat.mul_zero, Nat.add_zero, Nat.zero_add, or_true, true_or, not_true_eq_false, not_false_eq_true, reduceCtorEq, q_neg_lt hx]
    exact hw.ok ⟨rfl, Or.inl rfl⟩
  · rw [if_neg (nI_pos h1)]
    simp (disch := omega) only [q_lit, q_m1, q_m2, q_m1000, q_add, q_mul, q_cl, q_le, q_lt, q_eq, q_in, q_bd_some, eq_self, if_true, if_false, q_b0, q_b1, q_b01, q_bt, q_bf, q_ft, q_tf, Nat.mul_zero, Nat.add_zero, Nat.zero_add, or_true, true_or, not_true_eq_false, not_false_eq_true, reduceCtorEq]
    by_cases h0 : w = 0
    · subst h0
      rw [if_pos rfl, hP.2.1.1, q_nz]
      exact hw.ok ⟨rfl, Or.inl rfl⟩
    · rw [if_neg h0]
      by_cases h0 : w = 1
      · subst h0
        rw [if_pos rfl, hP.2.1.2, q_nz]
        exact hw.ok ⟨rfl, Or.inl rfl⟩
      · rw [if_neg h0]
        by_cases h0 : w = 2
        · subst h0
          rw [if_pos rfl, s_meek hP, q_bd_some, q_nz]
          exact hw.ok ⟨rfl, Or.inl rfl⟩
        · rw [if_neg h0]
          by_cases h0 : w = 3
          · subst h0
            rw [if_pos rfl, s_fiercest hP, q_bd_some]
            exact hw.ok ⟨rfl, Or.inl rfl⟩
          · rw [if_neg h0]
            by_cases h0 : w = 4
            · subst h0
              rw [if_pos rfl]
              refine hw.bd ((s_dotColour hP).mono (fun v M' h => ?_))
              refine hw.ok ⟨?_, h.2⟩
              rw [h.1, palS_4]
            · rw [if_neg h0, s_partOrLikes hP h1 (by omega), q_bd_some]
              exact hw.ok ⟨rfl, Or.inl rfl⟩
theorem s_measureOf (M : PM) {r y b : Nat} {s x : Int} (hs : 0 ≤ s ∧ s ≤ 4) (hx : 0 ≤ x ∧ x ≤ 54) : f_X4_measureOf (nI r) (nI y) (nI b) (zI s) (zI x) M = some (nI (meaC r y b s x), M) := by
  obtain ⟨x, rfl⟩ : ∃ n : Nat, x = n := ⟨x.toNat, by omega⟩
  obtain ⟨s, rfl⟩ : ∃ n : Nat, s = n := ⟨s.toNat, by omega⟩
  unfold f_X4_measureOf meaC
  rw [← q_nz, ← q_nz]
  simp (disch := omega) only [q_lit, q_m1, q_m2, q_m1000, q_add, q_mul, q_cl, q_le, q_lt, q_eq, q_in, q_bd_some, eq_self, if_true, if_false, q_b0, q_b1, q_b01, q_bt, q_bf, q_ft, q_tf, Nat.mul_zero, Nat.add_zero, Nat.zero_add, or_true, true_or, not_true_eq_false, not_false_eq_true, reduceCtorEq]
  by_cases h0 : s = 0
  · rw [if_pos h0, if_pos (show (s : Int) = 0 by omega)]
  · rw [if_neg h0, if_neg (show ¬ (s : Int) = 0 by omega)]
    by_cases h1 : x = 0
    · rw [if_pos h1, if_pos (show (x : Int) = 0 by omega)]
    · rw [if_neg h1, if_neg (show ¬ (x : Int) = 0 by omega)]
      by_cases h2 : x = 1
      · rw [if_pos h2, if_pos (show (x : Int) = 1 by omega)]
      · rw [if_neg h2, if_neg (show ¬ (x : Int) = 1 by omega)]
theorem pU_ok (hP : pOK P) {k : Nat} (hk : k < pR P) : ruOK (pU P (3 * k)) (pU P (3 * k + 1)) (pU P (3 * k + 2)) := hP.2.2.2.1 k hk
theorem s_strengthWith (hP : rP M a P) {h r y b : Nat} (hh : h < pH P) (hr : r ≤ 9) (hy : y ≤ 9) (hb : b ≤ 9) : f_X4_strengthWith a (nI h) (nI r) (nI y) (nI b) M = some (nI (strC P h r y b), M) := by
  have hR : pR P ≤ 6 := hP.1.2.2.1
  unfold f_X4_strengthWith
  rw [if_pos hP.1.1]
  refine hr_for (σ := Int32) (fun f i s => f_X4_strengthWith_6 a (nI h) (nI r) (nI y) (nI b) f s (nI i) M) (pR P) (fun i s => s = nI (cnt (fun k => rhoC P h r y b k && !isC P k) i) ∧ exb (fun k => rhoC P h r y b k && isC P k) i = false) (fun q => q = some (nI (strC P h r y b), M)) ?_ ?_ FU 0 0 (Nat.zero_le _) (FU_ok (by omega)) ⟨rfl, rfl⟩
  · rintro f i s hi ⟨rfl, hno⟩
    obtain ⟨h1, h2, h3, h4, h5⟩ := pU_ok hP.1.2 hi
    have g := hP.2.2.1.2.1
    have hl := cnt_le (fun k => rhoC P h r y b k && !isC P k) i
    show (f_X4_strengthWith_6 a (nI h) (nI r) (nI y) (nI b) (f + 1) _ (nI i) M = _) ∨ _
    rw [f_X4_strengthWith_6.eq_2, hP.2.1.2]
    simp (disch := omega) only [q_lit, q_m1, q_m2, q_m1000, q_add, q_mul, q_cl, q_le, q_lt, q_eq, q_in, q_bd_some, eq_self, if_true, if_false, q_b0, q_b1, q_b01, q_bt, q_bf, q_ft, q_tf, Nat.mul_zero, Nat.add_zero, Nat.zero_add, or_true, true_or, not_true_eq_false, not_false_eq_true, reduceCtorEq, Nat.not_le.mpr hi, g (3 * i) (by omega), g (3 * i + 1) (by omega), g (3 * i + 2) (by omega), s_measureOf M h1 h2, s_measure hP hh h1 h2, s_touches M h1 h2 h3 (mea_le hP.1.2 h _ _) (meaC_le hr hy hb _ _), q_zneq]
    have ec : cnt (fun k => rhoC P h r y b k && !isC P k) (i + 1) = cnt (fun k => rhoC P h r y b k && !isC P k) i + (if rhoC P h r y b i && !isC P i then 1 else 0) := rfl
    have ee : exb (fun k => rhoC P h r y b k && isC P k) (i + 1) = (rhoC P h r y b i && isC P i) := by
      show (exb _ i || _) = _
      rw [hno]
      rfl
    by_cases hs : pU P (3 * i) = 3
    · have hf : rhoC P h r y b i = false := by unfold rhoC; rw [hs]; rfl
      right
      rw [if_pos (by omega)]
      refine ⟨_, rfl, ?_⟩
      rw [ec, ee, hf]
      exact ⟨rfl, rfl⟩
    · rw [if_neg (by omega)]
      have hrho : rhoC P h r y b i = tch (pU P (3 * i)) (pU P (3 * i + 1)) (pU P (3 * i + 2)) (mea P h (pU P (3 * i)) (pU P (3 * i + 1))) (meaC r y b (pU P (3 * i)) (pU P (3 * i + 1))) := by
        unfold rhoC
        rw [decide_eq_true hs]
        rfl
      rw [← hrho]
      cases hc : rhoC P h r y b i with
      | false =>
        right
        rw [if_pos rfl]
        refine ⟨_, rfl, ?_⟩
        rw [ec, ee, hc]
        exact ⟨rfl, rfl⟩
      | true =>
        rw [if_neg (by simp)]
        by_cases h4 : pU P (3 * i) = 4
        · left
          rw [if_pos (by omega)]
          unfold strC str0
          rw [if_pos]
          exact exb_iff.mpr ⟨i, hi, by rw [hc]; simp [isC, h4]⟩
        · right
          have h5 : isC P i = false := by unfold isC; exact decide_eq_false h4
          rw [if_neg (by omega)]
          refine ⟨_, rfl, ?_⟩
          rw [ec, ee, hc, h5]
          exact ⟨rfl, rfl⟩
  · rintro f s ⟨rfl, hno⟩
    show f_X4_strengthWith_6 a (nI h) (nI r) (nI y) (nI b) (f + 1) _ (nI (pR P)) M = _
    rw [f_X4_strengthWith_6.eq_2, hP.2.1.2]
    simp (disch := omega) only [q_lit, q_m1, q_m2, q_m1000, q_add, q_mul, q_cl, q_le, q_lt, q_eq, q_in, q_bd_some, eq_self, if_true, if_false, q_b0, q_b1, q_b01, q_bt, q_bf, q_ft, q_tf, Nat.mul_zero, Nat.add_zero, Nat.zero_add, or_true, true_or, not_true_eq_false, not_false_eq_true, reduceCtorEq, Nat.le_refl, strC, str0, hno]
def gainS (P : Pal) (who l r : Nat) : Int := (pL P (10 * who + (if who = 0 then l else r)) : Int) - 3 * (strH P l r : Nat)
theorem gainS_r (hP : pOK P) (who l r : Nat) : -18 ≤ gainS P who l r ∧ gainS P who l r ≤ 9 := by
  unfold gainS
  have h1 := hP.2.2.2.2 (10 * who + (if who = 0 then l else r))
  have h2 := strH_le P l r
  have h3 := hP.2.1
  omega
theorem s_gainOf (hP : rP M a P) {who l r : Nat} (hw2 : who < 2) (hl : l < pH P) (hr : r < pH P) : f_X4_gainOf a (nI who) (nI l) (nI r) M = some (zI (gainS P who l r), M) := by
  have hn : pH P ≤ 10 := hP.1.2.1
  have h2 := strH_le P l r
  have g := hP.2.2.1.2.2
  unfold f_X4_gainOf f_X4_gainOf_17 gainS
  rw [if_pos hP.1.1]
  simp (disch := omega) only [q_lit, q_m1, q_m2, q_m1000, q_add, q_mul, q_cl, q_le, q_lt, q_eq, q_in, q_bd_some, eq_self, if_true, if_false, q_b0, q_b1, q_b01, q_bt, q_bf, q_ft, q_tf, Nat.mul_zero, Nat.add_zero, Nat.zero_add, or_true, true_or, not_true_eq_false, not_false_eq_true, reduceCtorEq, s_strengthOf hP hl hr]
  by_cases h0 : who = 0
  · rw [if_pos h0, if_pos h0]
    simp (disch := omega) only [q_lit, q_m1, q_m2, q_m1000, q_add, q_mul, q_cl, q_le, q_lt, q_eq, q_in, q_bd_some, eq_self, if_true, if_false, q_b0, q_b1, q_b01, q_bt, q_bf, q_ft, q_tf, Nat.mul_zero, Nat.add_zero, Nat.zero_add, or_true, true_or, not_true_eq_false, not_false_eq_true, reduceCtorEq, g (10 * who + l) (by omega), q_nsub]
    congr 3
  · rw [if_neg h0, if_neg h0]
    simp (disch := omega) only [q_lit, q_m1, q_m2, q_m1000, q_add, q_mul, q_cl, q_le, q_lt, q_eq, q_in, q_bd_some, eq_self, if_true, if_false, q_b0, q_b1, q_b01, q_bt, q_bf, q_ft, q_tf, Nat.mul_zero, Nat.add_zero, Nat.zero_add, or_true, true_or, not_true_eq_false, not_false_eq_true, reduceCtorEq, g (10 * who + r) (by omega), q_nsub]
    congr 3
def restB (P : Pal) (l r h : Nat) : Bool := decide (gainS P 0 l r < gainS P 0 h r) || decide (gainS P 1 l r < gainS P 1 l h)
def restS (P : Pal) (l r : Nat) : Bool := !exb (restB P l r) (pH P)
theorem s_isRest (hP : rP M a P) {l r : Nat} (hl : l < pH P) (hr : r < pH P) : f_X4_isRest a (nI l) (nI r) M = some (bI (restS P l r), M) := by
  have hn : pH P ≤ 10 := hP.1.2.1
  unfold f_X4_isRest
  rw [if_pos hP.1.1]
  refine hr_for (σ := Unit) (fun f i _ => f_X4_isRest_2 a (nI l) (nI r) f (nI i) M) (pH P) (fun i _ => exb (restB P l r) i = false) (fun q => q = some (bI (restS P l r), M)) ?_ ?_ FU 0 () (Nat.zero_le _) (FU_ok (by omega)) rfl
  · rintro f i - hi hno
    show (f_X4_isRest_2 a (nI l) (nI r) (f + 1) (nI i) M = _) ∨ _
    have r1 := gainS_r hP.1.2 0 l r
    have r2 := gainS_r hP.1.2 0 i r
    have r3 := gainS_r hP.1.2 1 l r
    have r4 := gainS_r hP.1.2 1 l i
    rw [f_X4_isRest_2.eq_2, hP.2.1.1]
    simp (disch := omega) only [q_lit, q_m1, q_m2, q_m1000, q_add, q_mul, q_cl, q_le, q_lt, q_eq, q_in, q_bd_some, eq_self, if_true, if_false, q_b0, q_b1, q_b01, q_bt, q_bf, q_ft, q_tf, Nat.mul_zero, Nat.add_zero, Nat.zero_add, or_true, true_or, not_true_eq_false, not_false_eq_true, reduceCtorEq, Nat.not_le.mpr hi, s_gainOf hP (show 0 < 2 by omega) hi hr, s_gainOf hP (show 0 < 2 by omega) hl hr, s_gainOf hP (show 1 < 2 by omega) hl hi, s_gainOf hP (show 1 < 2 by omega) hl hr, q_zlt, q_zle]
    by_cases hb : restB P l r i = true
    · left
      have e : restS P l r = false := by
        unfold restS
        rw [exb_iff.mpr ⟨i, hi, hb⟩]
        rfl
      rw [e]
      unfold restB at hb
      simp only [Bool.or_eq_true, decide_eq_true_eq] at hb
      by_cases h1 : gainS P 0 l r < gainS P 0 i r
      · rw [if_pos h1]; rfl
      · rw [if_neg h1, if_neg (by omega)]; rfl
    · right
      refine ⟨(), ?_, ?_⟩
      · unfold restB at hb
        simp only [Bool.or_eq_true, decide_eq_true_eq] at hb
        rw [if_neg (by omega), if_pos (by omega)]
      · show (exb _ i || _) = false
        rw [hno]
        simpa using hb
  · rintro f - hno
    show f_X4_isRest_2 a (nI l) (nI r) (f + 1) (nI (pH P)) M = _
    rw [f_X4_isRest_2.eq_2, hP.2.1.1]
    simp (disch := omega) only [q_lit, q_m1, q_m2, q_m1000, q_add, q_mul, q_cl, q_le, q_lt, q_eq, q_in, q_bd_some, eq_self, if_true, if_false, q_b0, q_b1, q_b01, q_bt, q_bf, q_ft, q_tf, Nat.mul_zero, Nat.add_zero, Nat.zero_add, or_true, true_or, not_true_eq_false, not_false_eq_true, reduceCtorEq, Nat.le_refl, restS, hno]
    rfl
end PALF
