/-! THE MODEL COUPLES -/
section MOD
variable {q : Nat} {P : Pal}
theorem s_greater (M : PM) {a b : Nat} (ha : a < 2147483648) (hb : b < 2147483648) : f_X11_greater (nI a) (nI b) M = some (nI (max a b), M) := by
  unfold f_X11_greater
  by_cases h : a ≤ b
  · rw [if_pos ((q_le ha hb).mpr h), Nat.max_eq_right h]
  · rw [if_neg (fun z => h ((q_le ha hb).mp z)), Nat.max_eq_left (by omega)]
theorem s_leastOf11 (M : PM) {s l : Nat} (hs : s < 2147483648) (hl : l < 10) (l1 : s.testBit l = true) (l2 : ∀ i, i < l → s.testBit i = false) : f_X11_leastOf (nI s) M = some (nI l, M) := by
  unfold f_X11_leastOf
  refine hr_for (σ := Unit) (fun f i _ => f_X11_leastOf_2 (nI s) f (nI i) M) l (fun _ _ => True) (fun r => r = some (nI l, M)) ?_ ?_ FU 0 () (Nat.zero_le _) (FU_ok (by omega)) trivial
  · intro f i _ hi _
    right
    refine ⟨(), ?_, trivial⟩
    show f_X11_leastOf_2 (nI s) (f + 1) (nI i) M = _
    rw [f_X11_leastOf_2.eq_2]
    simp (disch := omega) only [q_lit, q_m1, q_m2, q_m1000, q_add, q_mul, q_cl, q_le, q_lt, q_eq, q_in, q_bd_some, eq_self, if_true, if_false, q_b0, q_b1, q_b01, q_bt, q_bf, q_ft, q_tf, Nat.mul_zero, Nat.add_zero, Nat.zero_add, or_true, true_or, not_true_eq_false, not_false_eq_true, reduceCtorEq, s_has11, l2 i hi]
  · intro f _ _
    show f_X11_leastOf_2 (nI s) (f + 1) (nI l) M = _
    rw [f_X11_leastOf_2.eq_2]
    simp (disch := omega) only [q_lit, q_m1, q_m2, q_m1000, q_add, q_mul, q_cl, q_le, q_lt, q_eq, q_in, q_bd_some, eq_self, if_true, if_false, q_b0, q_b1, q_b01, q_bt, q_bf, q_ft, q_tf, Nat.mul_zero, Nat.add_zero, Nat.zero_add, or_true, true_or, not_true_eq_false, not_false_eq_true, reduceCtorEq, s_has11, l1]
theorem hM.w300 {M0 M : PM} (h : hM M0 q P) (hf : hr_fr [(300, 0)] M0 M) : hM M q P := h.fr' hf (fun _ => rfl) rfl rfl (fun _ => rfl)
theorem s_findCouples49 {M0 M : PM} (hH : hM M0 q P) (hf0 : hr_fr [(300, 0)] M0 M) {s l : Nat} (h2 : s < 2 ^ pH P) (l1 : s.testBit l = true) (l2 : ∀ i, i < l → s.testBit i = false) (hm : mkM M 300 (foe P) (pH P) s) (hv : M.1 300 s = nI (mcS (foe P) (pH P) (bd s (2 ^ l)))) (k9 : Int32 → PM → Option (Unit × PM)) : ∃ M', f_X11_findCouples_49 k9 FU (nI s) (nI l) (nI (bd s (2 ^ l))) (nI (l + 1)) M = k9 (nI (s + 1)) M' ∧ mkM M' 300 (foe P) (pH P) (s + 1) ∧ hr_fr [(300, 0)] M0 M' := by
  have h10 := hH.1.1.2.1
  have h3 : 2 ^ pH P ≤ 2 ^ 10 := Nat.pow_le_pow_right (by decide) h10
  have hl : l < pH P := lt2_iff.mp h2 l l1
  have hle := least_at (show l < 10 by omega) l1 l2
  have hs0 : s ≠ 0 := fun z => by rw [z, Nat.zero_testBit] at l1; cases l1
  have hb := bd_lt l1
  have lo := mcS_le (foe P) (pH P) _ _ (Nat.le_refl (bd s (2 ^ l)))
  let g : Nat → Nat := fun j => if (bd s (2 ^ l)).testBit j && !foe P l j then 1 + mcS (foe P) (pH P) (bd (bd s (2 ^ l)) (2 ^ j)) else 0
  have gl : ∀ j, g j ≤ 1025 := by
    intro j
    have hgj : g j = if (bd s (2 ^ l)).testBit j && !foe P l j then 1 + mcS (foe P) (pH P) (bd (bd s (2 ^ l)) (2 ^ j)) else 0 := rfl
    rw [hgj]
    split
    · have b2 := bd_le (bd s (2 ^ l)) (2 ^ j)
      have := mcS_le (foe P) (pH P) _ _ (Nat.le_refl (bd (bd s (2 ^ l)) (2 ^ j)))
      omega
    · omega
  have g0 : ∀ j, j ≤ l → g j = 0 := by
    intro j hj
    have hgj : g j = if (bd s (2 ^ l)).testBit j && !foe P l j then 1 + mcS (foe P) (pH P) (bd (bd s (2 ^ l)) (2 ^ j)) else 0 := rfl
    rw [hgj, if_neg]
    rw [bd_bit, Nat.testBit_two_pow]
    by_cases e : l = j
    · subst e; simp
    · rw [l2 j (by omega)]; simp
  have start : mxN (mcS (foe P) (pH P) (bd s (2 ^ l))) g (l + 1) = mcS (foe P) (pH P) (bd s (2 ^ l)) := by
    have : ∀ m, m ≤ l + 1 → mxN (mcS (foe P) (pH P) (bd s (2 ^ l))) g m = mcS (foe P) (pH P) (bd s (2 ^ l)) := by
      intro m
      induction m with
      | zero => intro _; rfl
      | succ m ih =>
        intro hm
        unfold mxN
        rw [ih (by omega), g0 m (by omega), Nat.max_eq_left (Nat.zero_le _)]
    exact this _ (Nat.le_refl _)
  have em : mcS (foe P) (pH P) s = mxN (mcS (foe P) (pH P) (bd s (2 ^ l))) g (pH P) := mcS_eq hs0 hle
  refine hr_for (σ := PM) (fun f j N => f_X11_findCouples_49 k9 f (nI s) (nI l) (nI (bd s (2 ^ l))) (nI j) N) (pH P) (fun j N => (l < j ∧ mkM N 300 (foe P) (pH P) s ∧ N.1 300 s = nI (mxN (mcS (foe P) (pH P) (bd s (2 ^ l))) g j)) ∧ hr_fr [(300, 0)] M0 N) (fun r => ∃ M', r = k9 (nI (s + 1)) M' ∧ mkM M' 300 (foe P) (pH P) (s + 1) ∧ hr_fr [(300, 0)] M0 M') ?_ ?_ FU (l + 1) M (by omega) (FU_ok (by omega)) ⟨⟨by omega, hm, by rw [start]; exact hv⟩, hf0⟩
  · rintro f j N hj ⟨⟨hlj, hm, hv⟩, hf⟩
    right
    have hHN := hH.w300 hf
    have b3 := bd_le (bd s (2 ^ l)) (2 ^ j)
    have ml : mxN (mcS (foe P) (pH P) (bd s (2 ^ l))) g j ≤ 1025 := mxN_le (by omega) (fun k _ => gl k)
    have mj := mcS_le (foe P) (pH P) _ _ (Nat.le_refl (bd (bd s (2 ^ l)) (2 ^ j)))
    have eg : mxN (mcS (foe P) (pH P) (bd s (2 ^ l))) g (j + 1) = max (mxN (mcS (foe P) (pH P) (bd s (2 ^ l))) g j) (if (bd s (2 ^ l)).testBit j && !foe P l j then 1 + mcS (foe P) (pH P) (bd (bd s (2 ^ l)) (2 ^ j)) else 0) := rfl
    have fin : ∀ v, v = nI (mxN (mcS (foe P) (pH P) (bd s (2 ^ l))) g (j + 1)) → (l < j + 1 ∧ mkM (hr_si N 300 s v) 300 (foe P) (pH P) s ∧ (hr_si N 300 s v).1 300 s = nI (mxN (mcS (foe P) (pH P) (bd s (2 ^ l))) g (j + 1))) ∧ hr_fr [(300, 0)] M0 (hr_si N 300 s v) := by
      intro v hv
      refine ⟨⟨by omega, ?_, by rw [si_same, if_pos rfl]; exact hv⟩, hr_fr.si rfl hf⟩
      intro t ht
      rw [si_same, if_neg (by omega)]
      exact hm t ht
    show ∃ s', f_X11_findCouples_49 k9 (f + 1) (nI s) (nI l) (nI (bd s (2 ^ l))) (nI j) N = f_X11_findCouples_49 k9 f (nI s) (nI l) (nI (bd s (2 ^ l))) (nI (j + 1)) s' ∧ _
    rw [f_X11_findCouples_49.eq_2]
    simp (disch := omega) only [q_lit, q_m1, q_m2, q_m1000, q_add, q_mul, q_cl, q_le, q_lt, q_eq, q_in, q_bd_some, eq_self, if_true, if_false, q_b0, q_b1, q_b01, q_bt, q_bf, q_ft, q_tf, Nat.mul_zero, Nat.add_zero, Nat.zero_add, or_true, true_or, not_true_eq_false, not_false_eq_true, reduceCtorEq, hHN.2.1.2, show ¬ pH P ≤ j by omega, s_has11, s_clash hHN hl hj, hv, q_jl, q_bd, hm (bd (bd s (2 ^ l)) (2 ^ j)) (by omega), s_greater]
    cases h1 : (bd s (2 ^ l)).testBit j with
    | false =>
      rw [if_pos rfl]
      exact ⟨_, rfl, fin _ (by rw [eg, h1, if_neg (by simp), Nat.max_eq_left (Nat.zero_le _)])⟩
    | true =>
      rw [if_neg (by simp)]
      cases hE : foe P l j with
      | true =>
        rw [if_neg (by simp)]
        exact ⟨_, rfl, fin _ (by rw [eg, h1, hE, if_neg (by simp), Nat.max_eq_left (Nat.zero_le _)])⟩
      | false =>
        rw [if_pos rfl]
        exact ⟨_, rfl, fin _ (by rw [eg, h1, hE, if_pos (by rfl)])⟩
  · rintro f N ⟨⟨hlj, hm, hv⟩, hf⟩
    have hHN := hH.w300 hf
    show ∃ M', f_X11_findCouples_49 k9 (f + 1) (nI s) (nI l) _ (nI (pH P)) N = _ ∧ _
    rw [f_X11_findCouples_49.eq_2]
    simp (disch := omega) only [q_lit, q_m1, q_m2, q_m1000, q_add, q_mul, q_cl, q_le, q_lt, q_eq, q_in, q_bd_some, eq_self, if_true, if_false, q_b0, q_b1, q_b01, q_bt, q_bf, q_ft, q_tf, Nat.mul_zero, Nat.add_zero, Nat.zero_add, or_true, true_or, not_true_eq_false, not_false_eq_true, reduceCtorEq, hHN.2.1.2, Nat.le_refl]
    refine ⟨N, rfl, ?_, hf⟩
    intro t ht
    by_cases e : t = s
    · rw [e, hv, em]
    · exact hm t (by omega)
theorem s_findCouples {M0 : PM} (hH : hM M0 q P) : ∃ M', f_X11_findCouples M0 = some ((), M') ∧ mkM M' 300 (foe P) (pH P) (2 ^ pH P) ∧ hr_fr [(300, 0)] M0 M' := by
  have h10 := hH.1.1.2.1
  have h2 : 1 ≤ 2 ^ pH P := Nat.one_le_two_pow
  have h3 : 2 ^ pH P ≤ 2 ^ 10 := Nat.pow_le_pow_right (by decide) h10
  unfold f_X11_findCouples
  rw [if_pos (show inB 0 1024 = true from q_in (i := 0) (by omega) (by omega))]
  refine hr_for (σ := PM) (fun f s N => f_X11_findCouples_9 f (nI s) N) (2 ^ pH P) (fun s N => (1 ≤ s ∧ mkM N 300 (foe P) (pH P) s) ∧ hr_fr [(300, 0)] M0 N) (fun r => ∃ M', r = some ((), M') ∧ mkM M' 300 (foe P) (pH P) (2 ^ pH P) ∧ hr_fr [(300, 0)] M0 M') ?_ ?_ FU 1 (hr_si M0 300 0 (nI 0)) h2 (FU_ok (by omega)) ⟨⟨Nat.le_refl _, fun t ht => by rw [si_same, if_pos (by omega), show t = 0 by omega, mcS_0]⟩, hr_fr.si rfl (hr_fr.rf _ _)⟩
  · rintro f s N hs2 ⟨⟨hs1, hm⟩, hf⟩
    right
    have hHN := hH.w300 hf
    obtain ⟨l, l1, l2, l3⟩ := low_ex s s (Nat.le_refl _) (by omega)
    have hl : l < pH P := lt2_iff.mp hs2 l l1
    have hb := bd_lt l1
    have hf1 : hr_fr [(300, 0)] M0 (hr_si N 300 s (nI (mcS (foe P) (pH P) (bd s (2 ^ l))))) := hr_fr.si rfl hf
    obtain ⟨N', g1, g2, g3⟩ := s_findCouples49 hH hf1 hs2 l1 l2 (fun t ht => by rw [si_same, if_neg (by omega)]; exact hm t ht) (by rw [si_same, if_pos rfl]) (fun x1 M => f_X11_findCouples_9 f x1 M)
    show ∃ s', f_X11_findCouples_9 (f + 1) (nI s) N = f_X11_findCouples_9 f (nI (s + 1)) s' ∧ _
    rw [f_X11_findCouples_9.eq_2]
    simp (disch := omega) only [q_lit, q_m1, q_m2, q_m1000, q_add, q_mul, q_cl, q_le, q_lt, q_eq, q_in, q_bd_some, eq_self, if_true, if_false, q_b0, q_b1, q_b01, q_bt, q_bf, q_ft, q_tf, Nat.mul_zero, Nat.add_zero, Nat.zero_add, or_true, true_or, not_true_eq_false, not_false_eq_true, reduceCtorEq, hHN.2.1.2, q_jl, show ¬ 2 ^ pH P ≤ s by omega, s_leastOf11 N (show s < 2147483648 by omega) (show l < 10 by omega) l1 l2, q_bd, hm (bd s (2 ^ l)) hb]
    rw [g1]
    exact ⟨N', rfl, ⟨by omega, g2⟩, g3⟩
  · rintro f N ⟨⟨hs1, hm⟩, hf⟩
    have hHN := hH.w300 hf
    show ∃ M', f_X11_findCouples_9 (f + 1) (nI (2 ^ pH P)) N = _ ∧ _
    rw [f_X11_findCouples_9.eq_2]
    simp (disch := omega) only [q_lit, q_m1, q_m2, q_m1000, q_add, q_mul, q_cl, q_le, q_lt, q_eq, q_in, q_bd_some, eq_self, if_true, if_false, q_b0, q_b1, q_b01, q_bt, q_bf, q_ft, q_tf, Nat.mul_zero, Nat.add_zero, Nat.zero_add, or_true, true_or, not_true_eq_false, not_false_eq_true, reduceCtorEq, hHN.2.1.2, q_jl, Nat.le_refl]
    exact ⟨N, rfl, hm, hf⟩
end MOD
