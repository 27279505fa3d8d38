/-! the model's plain answers -/
theorem mT.at {M M' : PM} {m : Nat} {T : Tol} (h : mT M m T) (g : ∀ a, 276 ≤ a → a ≤ 285 → M'.1 a = M.1 a) : mT M' m T := by
  unfold mT at h ⊢
  rw [g 276 (by omega) (by omega), g 277 (by omega) (by omega), g 278 (by omega) (by omega), g 279 (by omega) (by omega), g 280 (by omega) (by omega), g 281 (by omega) (by omega), g 282 (by omega) (by omega), g 283 (by omega) (by omega), g 284 (by omega) (by omega), g 285 (by omega) (by omega)]
  exact h
theorem mT.si {M : PM} {m k : Nat} {v : Int32} {T : Tol} (h : mT M m T) : mT (hr_si M 275 k v) m T := h.at (fun a h1 h2 => by funext j; simp [q_si1, show ¬ a = 275 by omega])
theorem mT.fr {M M' : PM} {m : Nat} {T : Tol} {W : List (Nat × Nat)} (h : mT M m T) (hf : hr_fr W M M') (hw : ∀ a k, 276 ≤ a → a ≤ 285 → hr_in W a k = false) : mT M' m T := h.at (fun a h1 h2 => hf.row a (fun k => hw a k h1 h2))
theorem tot2_comm (P : Pal) (s x y : Int) (a b : Nat) : hold1 P s x y a b = hold1 P s x y b a := by
  unfold hold1 tch
  generalize mea P a s x = m
  generalize mea P b s x = t
  split
  · rw [decide_eq_decide]; omega
  · split
    · rw [decide_eq_decide]; omega
    · split
      · rw [decide_eq_decide]; omega
      · split
        · rw [decide_eq_decide]; omega
        · rfl
theorem strH_comm (P : Pal) (a b : Nat) : strH P a b = strH P b a := by
  unfold strH
  by_cases h : a = b
  · rw [if_pos h, if_pos h.symm]
  · rw [if_neg h, if_neg (fun z => h z.symm)]
    apply str0_congr
    intro k _
    unfold rho
    by_cases h3 : pU P (3 * k) = 3
    · rw [if_pos h3, if_pos h3, decide_eq_decide]
      exact Or.comm
    · rw [if_neg h3, if_neg h3, tot2_comm]
section MOD
variable {M : PM} {k : Nat} {P : Pal}
theorem s_clashes (hH : hM M k P) {h : Nat} (hh : h < pH P) : f_X11_clashes (nI h) M = some (nI (clash1 P h), M) := by
  have h10 : pH P ≤ 10 := hH.1.1.2.1
  unfold f_X11_clashes
  refine hr_for (σ := Int32) (fun f i s => f_X11_clashes_4 (nI h) f s (nI i) M) (pH P) (fun i s => s = nI (cnt (foe P h) i)) (fun r => r = some (nI (clash1 P h), M)) ?_ ?_ FU 0 0 (Nat.zero_le _) (FU_ok (by omega)) rfl
  · rintro f i s hi rfl
    right
    refine ⟨nI (cnt (foe P h) (i + 1)), ?_, rfl⟩
    show f_X11_clashes_4 (nI h) (f + 1) _ (nI i) M = f_X11_clashes_4 (nI h) f _ (nI (i + 1)) M
    rw [f_X11_clashes_4.eq_2, hH.2.1.2]
    simp (disch := omega) only [q_lit, q_m1, q_m2, q_m1000, q_add, q_mul, q_cl, q_le, q_lt, q_eq, q_in, q_bd_some, eq_self, if_true, if_false, q_b0, q_b1, q_b01, q_bt, q_bf, q_ft, q_tf, Nat.mul_zero, Nat.add_zero, Nat.zero_add, or_true, true_or, not_true_eq_false, not_false_eq_true, reduceCtorEq, show ¬ pH P ≤ i by omega, s_clash hH hh hi]
    show _ = f_X11_clashes_4 (nI h) f (nI (cnt (foe P h) i + if foe P h i then 1 else 0)) (nI (i + 1)) M
    cases foe P h i
    · rw [if_pos rfl]; rfl
    · rw [if_neg (by simp)]; rfl
  · rintro f s rfl
    show f_X11_clashes_4 (nI h) (f + 1) _ (nI (pH P)) M = _
    rw [f_X11_clashes_4.eq_2, hH.2.1.2]
    simp (disch := omega) only [q_lit, q_m1, q_m2, q_m1000, q_add, q_mul, q_cl, q_le, q_lt, q_eq, q_in, q_bd_some, eq_self, if_true, if_false, q_b0, q_b1, q_b01, q_bt, q_bf, q_ft, q_tf, Nat.mul_zero, Nat.add_zero, Nat.zero_add, or_true, true_or, not_true_eq_false, not_false_eq_true, reduceCtorEq, Nat.le_refl]
    rfl
theorem s_meek11 (hH : hM M k P) : f_X11_meek M = some (nI (meekS P), M) := by
  have h10 : pH P ≤ 10 := hH.1.1.2.1
  unfold f_X11_meek
  refine hr_for (σ := Int32) (fun f i s => f_X11_meek_4 f s (nI i) M) (pH P) (fun i s => s = nI (bset (fun h => decide (clash1 P h = 0)) i)) (fun r => r = some (nI (meekS P), M)) ?_ ?_ FU 0 0 (Nat.zero_le _) (FU_ok (by omega)) rfl
  · rintro f i s hi rfl
    right
    refine ⟨nI (bset (fun h => decide (clash1 P h = 0)) (i + 1)), ?_, rfl⟩
    show f_X11_meek_4 (f + 1) _ (nI i) M = f_X11_meek_4 f _ (nI (i + 1)) M
    have hc : clash1 P i ≤ 10 := Nat.le_trans (cnt_le _ _) h10
    rw [f_X11_meek_4.eq_2, hH.2.1.2]
    simp (disch := omega) only [q_lit, q_m1, q_m2, q_m1000, q_add, q_mul, q_cl, q_le, q_lt, q_eq, q_in, q_bd_some, eq_self, if_true, if_false, q_b0, q_b1, q_b01, q_bt, q_bf, q_ft, q_tf, Nat.mul_zero, Nat.add_zero, Nat.zero_add, or_true, true_or, not_true_eq_false, not_false_eq_true, reduceCtorEq, show ¬ pH P ≤ i by omega, s_clashes hH hi, q_jl, q_or]
    show _ = f_X11_meek_4 f (nI (bset (fun h => decide (clash1 P h = 0)) i ||| (if decide (clash1 P i = 0) = true then 2 ^ i else 0))) (nI (i + 1)) M
    by_cases h0 : clash1 P i = 0
    · rw [if_pos h0, decide_eq_true h0, if_pos rfl]
    · rw [if_neg h0, decide_eq_false h0, if_neg (by simp)]
  · rintro f s rfl
    show f_X11_meek_4 (f + 1) _ (nI (pH P)) M = _
    rw [f_X11_meek_4.eq_2, hH.2.1.2]
    simp (disch := omega) only [q_lit, q_m1, q_m2, q_m1000, q_add, q_mul, q_cl, q_le, q_lt, q_eq, q_in, q_bd_some, eq_self, if_true, if_false, q_b0, q_b1, q_b01, q_bt, q_bf, q_ft, q_tf, Nat.mul_zero, Nat.add_zero, Nat.zero_add, or_true, true_or, not_true_eq_false, not_false_eq_true, reduceCtorEq, Nat.le_refl]
    rfl
theorem amx_lt (g : Nat → Nat) {n : Nat} (h : n ≠ 0) : amx g n < n := by
  induction n with
  | zero => exact absurd rfl h
  | succ n ih =>
    unfold amx
    split
    · omega
    · by_cases h0 : n = 0
      · subst h0; unfold amx; omega
      · have := ih h0; omega
theorem s_fierce11 (hH : hM M k P) : f_X11_fierce M = some (zI (amxI (clash1 P) (pH P)), M) := by
  have h10 : pH P ≤ 10 := hH.1.1.2.1
  unfold f_X11_fierce
  refine hr_for (σ := Int32) (fun f i s => f_X11_fierce_4 f s (nI i) M) (pH P) (fun i s => s = zI (amxI (clash1 P) i)) (fun r => r = some (zI (amxI (clash1 P) (pH P)), M)) ?_ ?_ FU 0 (-1) (Nat.zero_le _) (FU_ok (by omega)) (by unfold amxI; rw [if_pos rfl]; decide)
  · rintro f i s hi rfl
    right
    refine ⟨zI (amxI (clash1 P) (i + 1)), ?_, rfl⟩
    show f_X11_fierce_4 (f + 1) (zI (amxI (clash1 P) i)) (nI i) M = f_X11_fierce_4 f (zI (amxI (clash1 P) (i + 1))) (nI (i + 1)) M
    have hc : clash1 P i ≤ 10 := Nat.le_trans (cnt_le _ _) h10
    have hd : clash1 P (amx (clash1 P) i) ≤ 10 := Nat.le_trans (cnt_le _ _) h10
    rw [f_X11_fierce_4.eq_2, hH.2.1.2, amxI_s (Nat.succ_ne_zero i)]
    simp (disch := omega) only [q_lit, q_m1, q_m2, q_m1000, q_add, q_mul, q_cl, q_le, q_lt, q_eq, q_in, q_bd_some, eq_self, if_true, if_false, q_b0, q_b1, q_b01, q_bt, q_bf, q_ft, q_tf, Nat.mul_zero, Nat.add_zero, Nat.zero_add, or_true, true_or, not_true_eq_false, not_false_eq_true, reduceCtorEq, show ¬ pH P ≤ i by omega]
    by_cases h0 : i = 0
    · subst h0
      rw [if_pos (show zI (amxI (clash1 P) 0) = zI (-1) by unfold amxI; rw [if_pos rfl])]
      have e : amx (clash1 P) (0 + 1) = 0 := by
        unfold amx
        split <;> rfl
      rw [e, q_nz 0]
    · have hl := amx_lt (clash1 P) h0
      rw [amxI_s h0, if_neg (by rw [q_zeq (by omega) (by omega)]; omega), ← q_nz]
      simp (disch := omega) only [q_lit, q_m1, q_m2, q_m1000, q_add, q_mul, q_cl, q_le, q_lt, q_eq, q_in, q_bd_some, eq_self, if_true, if_false, q_b0, q_b1, q_b01, q_bt, q_bf, q_ft, q_tf, Nat.mul_zero, Nat.add_zero, Nat.zero_add, or_true, true_or, not_true_eq_false, not_false_eq_true, reduceCtorEq, s_clashes hH hi, s_clashes hH (show amx (clash1 P) i < pH P by omega)]
      by_cases hlt : clash1 P (amx (clash1 P) i) < clash1 P i
      · have e : amx (clash1 P) (i + 1) = i := if_pos hlt
        rw [if_neg (by omega), e, q_nz i]
      · have e : amx (clash1 P) (i + 1) = amx (clash1 P) i := if_neg hlt
        rw [if_pos (by omega), e, q_nz]
  · rintro f s rfl
    show f_X11_fierce_4 (f + 1) _ (nI (pH P)) M = _
    rw [f_X11_fierce_4.eq_2, hH.2.1.2]
    simp (disch := omega) only [q_lit, q_m1, q_m2, q_m1000, q_add, q_mul, q_cl, q_le, q_lt, q_eq, q_in, q_bd_some, eq_self, if_true, if_false, q_b0, q_b1, q_b01, q_bt, q_bf, q_ft, q_tf, Nat.mul_zero, Nat.add_zero, Nat.zero_add, or_true, true_or, not_true_eq_false, not_false_eq_true, reduceCtorEq, Nat.le_refl]
theorem s_partsOf (M : PM) {c : Nat} (h : c < 2147483648) : f_X11_partsOf (nI c) M = some (nI (dsum c), M) := by
  unfold f_X11_partsOf
  simp (disch := omega) only [q_lit, q_m1, q_m2, q_m1000, q_add, q_mul, q_cl, q_le, q_lt, q_eq, q_in, q_bd_some, eq_self, if_true, if_false, q_b0, q_b1, q_b01, q_bt, q_bf, q_ft, q_tf, Nat.mul_zero, Nat.add_zero, Nat.zero_add, or_true, true_or, not_true_eq_false, not_false_eq_true, reduceCtorEq, q_div, q_rem]
  rfl
theorem foesC_and {P : Pal} (h : pH P ≤ 10) (r y b : Nat) : foesC P r y b &&& 1023 = foesC P r y b := by
  have := bset_lt10 (fun h => decide (0 < strC P h r y b)) h
  rw [show (1023 : Nat) = 2 ^ 10 - 1 from rfl, Nat.and_two_pow_sub_one_eq_mod]
  exact Nat.mod_eq_of_lt this
theorem s_dot27 (hH : hM M k P) {c : Nat} (hc : c < 1000) (k4 : Int32 → Int32 → PM → Option (Int32 × PM)) (b : Int32) : ∃ M', only289 M M' ∧ f_X11_dot_27 k4 b (nI c) M = k4 (if free P c = true then nI c else b) (nI (c + 1)) M' := by
  obtain ⟨v, M', e, hv, ho⟩ := s_isBorne (s := 1023) hH hc (by omega)
  refine ⟨M', ho, ?_⟩
  unfold f_X11_dot_27
  rw [q_lit 1023, show (OfNat.ofNat 1023 : Nat) = 1023 from rfl, e, hv, foesC_and hH.1.1.2.1]
  simp (disch := omega) only [q_lit, q_m1, q_m2, q_m1000, q_add, q_mul, q_cl, q_le, q_lt, q_eq, q_in, q_bd_some, eq_self, if_true, if_false, q_b0, q_b1, q_b01, q_bt, q_bf, q_ft, q_tf, Nat.mul_zero, Nat.add_zero, Nat.zero_add, or_true, true_or, not_true_eq_false, not_false_eq_true, reduceCtorEq]
  unfold free
  by_cases h0 : foesC P (c / 100) (c / 10 % 10) (c % 10) = 0
  · rw [decide_eq_true h0, if_neg (by simp), if_pos rfl]
  · rw [decide_eq_false h0, if_pos rfl, if_neg (by simp)]
theorem s_dot11 (hH : hM M k P) : hw (f_X11_dot M) (fun v M' => v = zI (dotS P 1000)) := by
  unfold f_X11_dot
  refine hr_for (σ := Int32 × PM) (fun f i s => f_X11_dot_4 f s.1 (nI i) s.2) 1000 (fun i s => s.1 = zI (dotS P i) ∧ only289 M s.2) (fun r => hw r (fun v M' => v = zI (dotS P 1000))) ?_ ?_ FU 0 (-1, M) (Nat.zero_le _) (FU_ok (by omega)) ⟨by show (-1 : Int32) = zI (-1); decide, only289.rf M⟩
  · rintro f i ⟨s, M1⟩ hi ⟨hs, ho⟩
    right
    have hs : s = zI (dotS P i) := hs
    have ho : only289 M M1 := ho
    have hH1 := ho.hnd hH
    have hd := dotS_r P i
    subst hs
    show ∃ s' : Int32 × PM, f_X11_dot_4 (f + 1) (zI (dotS P i)) (nI i) M1 = f_X11_dot_4 f s'.1 (nI (i + 1)) s'.2 ∧ s'.1 = zI (dotS P (i + 1)) ∧ only289 M s'.2
    obtain ⟨M2, h2, e2⟩ := s_dot27 hH1 hi (fun x1 x2 M => f_X11_dot_4 f x1 x2 M) (zI (dotS P i))
    rw [f_X11_dot_4.eq_2]
    simp (disch := omega) only [q_lit, q_m1, q_m2, q_m1000, q_add, q_mul, q_cl, q_le, q_lt, q_eq, q_in, q_bd_some, eq_self, if_true, if_false, q_b0, q_b1, q_b01, q_bt, q_bf, q_ft, q_tf, Nat.mul_zero, Nat.add_zero, Nat.zero_add, or_true, true_or, not_true_eq_false, not_false_eq_true, reduceCtorEq, show ¬ 1000 ≤ i by omega]
    have eD := dotS_s P i
    by_cases h0 : dotS P i = -1
    · rw [if_pos (by rw [h0]), e2]
      refine ⟨(zI (dotS P (i + 1)), M2), ?_, rfl, ho.tr h2⟩
      show f_X11_dot_4 f _ (nI (i + 1)) M2 = f_X11_dot_4 f _ (nI (i + 1)) M2
      congr 1
      rw [eD]
      by_cases hf : free P i = true
      · rw [if_pos hf, if_pos ⟨Or.inl h0, hf⟩, q_nz]
      · rw [if_neg hf, if_neg (fun z => hf z.2)]
    · obtain ⟨d, hd2⟩ : ∃ d : Nat, dotS P i = d := ⟨(dotS P i).toNat, by omega⟩
      rw [if_neg (by rw [q_zeq (by omega) (by omega)]; exact h0), show (zI (dotS P i)) = nI d from by rw [hd2, q_nz]]
      simp (disch := omega) only [q_lit, q_m1, q_m2, q_m1000, q_add, q_mul, q_cl, q_le, q_lt, q_eq, q_in, q_bd_some, eq_self, if_true, if_false, q_b0, q_b1, q_b01, q_bt, q_bf, q_ft, q_tf, Nat.mul_zero, Nat.add_zero, Nat.zero_add, or_true, true_or, not_true_eq_false, not_false_eq_true, reduceCtorEq, s_partsOf]
      have hdi := dsum_le (show i < 1000 from hi)
      have hdd := dsum_le (show d < 1000 by omega)
      simp (disch := omega) only [q_lit, q_m1, q_m2, q_m1000, q_add, q_mul, q_cl, q_le, q_lt, q_eq, q_in, q_bd_some, eq_self, if_true, if_false, q_b0, q_b1, q_b01, q_bt, q_bf, q_ft, q_tf, Nat.mul_zero, Nat.add_zero, Nat.zero_add, or_true, true_or, not_true_eq_false, not_false_eq_true, reduceCtorEq]
      by_cases h1 : dsum d ≤ dsum i
      · rw [if_pos h1]
        refine ⟨(nI d, M1), rfl, ?_, ho⟩
        show nI d = zI (dotS P (i + 1))
        rw [eD, if_neg, hd2, q_nz]
        rw [hd2, Int.toNat_natCast]
        rintro ⟨z | z, -⟩ <;> omega
      · rw [if_neg h1]
        rw [show (zI (dotS P i)) = nI d from by rw [hd2, q_nz]] at e2
        rw [e2]
        refine ⟨(zI (dotS P (i + 1)), M2), ?_, rfl, ho.tr h2⟩
        show f_X11_dot_4 f _ (nI (i + 1)) M2 = f_X11_dot_4 f _ (nI (i + 1)) M2
        congr 1
        rw [eD, hd2, Int.toNat_natCast]
        by_cases hf : free P i = true
        · rw [if_pos hf, if_pos ⟨Or.inr (by omega), hf⟩, q_nz]
        · rw [if_neg hf, if_neg (fun z => hf z.2), q_nz]
  · rintro f ⟨s, M1⟩ ⟨hs, ho⟩
    show hw (f_X11_dot_4 (f + 1) s (nI 1000) M1) _
    rw [f_X11_dot_4.eq_2]
    simp (disch := omega) only [q_lit, q_m1, q_m2, q_m1000, q_add, q_mul, q_cl, q_le, q_lt, q_eq, q_in, q_bd_some, eq_self, if_true, if_false, q_b0, q_b1, q_b01, q_bt, q_bf, q_ft, q_tf, Nat.mul_zero, Nat.add_zero, Nat.zero_add, or_true, true_or, not_true_eq_false, not_false_eq_true, reduceCtorEq, Nat.le_refl]
    exact hw.ok hs
theorem s_gainOf11 (hH : hM M k P) {w a b : Nat} (hw2 : w < 2) (ha : a < pH P) (hb : b < pH P) : f_X11_gainOf (nI w) (nI a) (nI b) M = some (zI ((pL P (10 * w + a) : Int) - 3 * (strH P a b : Nat)), M) := by
  have h10 : pH P ≤ 10 := hH.1.1.2.1
  unfold f_X11_gainOf
  simp (disch := omega) only [q_lit, q_m1, q_m2, q_m1000, q_add, q_mul, q_cl, q_le, q_lt, q_eq, q_in, q_bd_some, eq_self, if_true, if_false, q_b0, q_b1, q_b01, q_bt, q_bf, q_ft, q_tf, Nat.mul_zero, Nat.add_zero, Nat.zero_add, or_true, true_or, not_true_eq_false, not_false_eq_true, reduceCtorEq, s_of hH.1 hH.2.1.1, hH.2.2 a b ha hb]
  rw [show 50 + 10 * w + a = 50 + (10 * w + a) by omega, hH.1.2.2.2.2 (10 * w + a) (by omega), q_nsub]
  congr 3
theorem s_isCouple (hH : hM M k P) {c : Nat} (hc : c < 2147483648) : f_X11_isCouple (nI c) M = some (bI (decide (c / 10 < pH P) && decide (c % 10 < pH P)), M) := by
  have h10 : pH P ≤ 10 := hH.1.1.2.1
  have e : ∀ j, j < 2147483648 → (ix (nI j) (pH P)).isSome = decide (j < pH P) := by
    intro j hj
    by_cases h : j < pH P
    · rw [ix_n h (by omega), decide_eq_true h]; rfl
    · rw [ix_big (by omega) hj, decide_eq_false h]; rfl
  unfold f_X11_isCouple
  rw [show (0 : Int32) = nI 0 from rfl, show (99 : Int32) = nI 99 from rfl, s_inc M _ (by omega), q_bd_some]
  by_cases h99 : c < 100
  · rw [ix_n h99 (by omega)]
    simp (disch := omega) only [q_lit, q_m1, q_m2, q_m1000, q_add, q_mul, q_cl, q_le, q_lt, q_eq, q_in, q_bd_some, eq_self, if_true, if_false, q_b0, q_b1, q_b01, q_bt, q_bf, q_ft, q_tf, Nat.mul_zero, Nat.add_zero, Nat.zero_add, or_true, true_or, not_true_eq_false, not_false_eq_true, reduceCtorEq, Option.isSome_some, q_div, q_rem, s_isHue hH]
    rw [e _ (by omega), e _ (by omega)]
    cases decide (c / 10 < pH P)
    · rw [if_pos rfl]; rfl
    · cases decide (c % 10 < pH P) <;> rfl
  · rw [ix_big (by omega) hc]
    simp (disch := omega) only [q_lit, q_m1, q_m2, q_m1000, q_add, q_mul, q_cl, q_le, q_lt, q_eq, q_in, q_bd_some, eq_self, if_true, if_false, q_b0, q_b1, q_b01, q_bt, q_bf, q_ft, q_tf, Nat.mul_zero, Nat.add_zero, Nat.zero_add, or_true, true_or, not_true_eq_false, not_false_eq_true, reduceCtorEq, Option.isSome_none]
    rw [decide_eq_false (show ¬ c / 10 < pH P by omega)]
    rfl
end MOD
section MOD2
variable {M : PM} {T : Tol}
theorem m_hand (hT : mT M 0 T) (ok : tOK T) (p : Int32) : hw (f_X11_hand p M) (fun v M' => (match ix p (tz T 0) with
    | none => v = nI 0 ∧ M' = M
    | some k => v = nI 1 ∧ hM M' k (tP T k)) ∧ hr_fr hW_X11_hand M M') := by
  have hz := ok.2.2.1 0 (by omega)
  have h0 : M.1 280 0 = nI (tz T 0) := hT.2.2.1 0 (by omega)
  refine hw.fr ?_ (fun r h => fr_X11_hand p M r h)
  cases h : ix p (tz T 0) with
  | none =>
    rw [s_hand_no h0 (by omega) h]
    exact hw.ok ⟨rfl, rfl⟩
  | some k =>
    obtain ⟨rfl, h1, -⟩ := ix_some h
    exact s_hand h0 (by omega) h1 (hT.pal ok (by omega))
theorem m_strength (hT : mT M 0 T) (ok : tOK T) (p x y : Int32) : hw (f_X11_strength p x y M) (fun v _ => v = zI (sp_strength T p x y)) := by
  unfold f_X11_strength sp_strength
  refine hw.bd ((m_hand (hT.si (k := 0) (v := 0)) ok p).mono (fun v M' h => ?_))
  replace h := h.1
  cases hp : ix p (tz T 0) with
  | none =>
    rw [hp] at h
    rw [h.1]
    exact hw.ok rfl
  | some k =>
    rw [hp] at h
    obtain ⟨rfl, hH⟩ := h
    have h10 : pH (tP T k) ≤ 10 := hH.1.1.2.1
    dsimp only
    cases h3 : ix x (pH (tP T k)) with
    | none =>
      simp (disch := omega) only [q_lit, q_m1, q_m2, q_m1000, q_add, q_mul, q_cl, q_le, q_lt, q_eq, q_in, q_bd_some, eq_self, if_true, if_false, q_b0, q_b1, q_b01, q_bt, q_bf, q_ft, q_tf, Nat.mul_zero, Nat.add_zero, Nat.zero_add, or_true, true_or, not_true_eq_false, not_false_eq_true, reduceCtorEq, s_isHue hH, h3, Option.isSome_none]
      exact hw.ok rfl
    | some a =>
      cases h4 : ix y (pH (tP T k)) with
      | none =>
        simp (disch := omega) only [q_lit, q_m1, q_m2, q_m1000, q_add, q_mul, q_cl, q_le, q_lt, q_eq, q_in, q_bd_some, eq_self, if_true, if_false, q_b0, q_b1, q_b01, q_bt, q_bf, q_ft, q_tf, Nat.mul_zero, Nat.add_zero, Nat.zero_add, or_true, true_or, not_true_eq_false, not_false_eq_true, reduceCtorEq, s_isHue hH, h3, h4, Option.isSome_none, Option.isSome_some]
        exact hw.ok rfl
      | some b =>
        obtain ⟨rfl, h5, -⟩ := ix_some h3
        obtain ⟨rfl, h6, -⟩ := ix_some h4
        simp (disch := omega) only [q_lit, q_m1, q_m2, q_m1000, q_add, q_mul, q_cl, q_le, q_lt, q_eq, q_in, q_bd_some, eq_self, if_true, if_false, q_b0, q_b1, q_b01, q_bt, q_bf, q_ft, q_tf, Nat.mul_zero, Nat.add_zero, Nat.zero_add, or_true, true_or, not_true_eq_false, not_false_eq_true, reduceCtorEq, s_isHue hH, h3, h4, Option.isSome_some, hH.2.2 a b h5 h6]
        exact hw.ok (q_nz _)
theorem m_minds (hT : mT M 0 T) (ok : tOK T) (p x r y b : Int32) : hw (f_X11_minds p x r y b M) (fun v _ => v = zI (sp_minds T p x r y b)) := by
  unfold f_X11_minds sp_minds
  refine hw.bd ((m_hand (hT.si (k := 0) (v := 0)) ok p).mono (fun v M' h => ?_))
  replace h := h.1
  cases hp : ix p (tz T 0) with
  | none =>
    rw [hp] at h
    rw [h.1]
    exact hw.ok rfl
  | some k =>
    rw [hp] at h
    obtain ⟨rfl, hH⟩ := h
    dsimp only
    cases h3 : ix x (pH (tP T k)) with
    | none =>
      simp (disch := omega) only [q_lit, q_m1, q_m2, q_m1000, q_add, q_mul, q_cl, q_le, q_lt, q_eq, q_in, q_bd_some, eq_self, if_true, if_false, q_b0, q_b1, q_b01, q_bt, q_bf, q_ft, q_tf, Nat.mul_zero, Nat.add_zero, Nat.zero_add, or_true, true_or, not_true_eq_false, not_false_eq_true, reduceCtorEq, s_isHue hH, h3, Option.isSome_none]
      exact hw.ok rfl
    | some a =>
      cases h4 : ix r 10 with
      | none =>
        simp (disch := omega) only [q_lit, q_m1, q_m2, q_m1000, q_add, q_mul, q_cl, q_le, q_lt, q_eq, q_in, q_bd_some, eq_self, if_true, if_false, q_b0, q_b1, q_b01, q_bt, q_bf, q_ft, q_tf, Nat.mul_zero, Nat.add_zero, Nat.zero_add, or_true, true_or, not_true_eq_false, not_false_eq_true, reduceCtorEq, s_isHue hH, s_inc, h3, h4, Option.isSome_none, Option.isSome_some]
        exact hw.ok rfl
      | some r =>
        cases h5 : ix y 10 with
        | none =>
          simp (disch := omega) only [q_lit, q_m1, q_m2, q_m1000, q_add, q_mul, q_cl, q_le, q_lt, q_eq, q_in, q_bd_some, eq_self, if_true, if_false, q_b0, q_b1, q_b01, q_bt, q_bf, q_ft, q_tf, Nat.mul_zero, Nat.add_zero, Nat.zero_add, or_true, true_or, not_true_eq_false, not_false_eq_true, reduceCtorEq, s_isHue hH, s_inc, h3, h4, h5, Option.isSome_none, Option.isSome_some]
          exact hw.ok rfl
        | some y =>
          cases h6 : ix b 10 with
          | none =>
            simp (disch := omega) only [q_lit, q_m1, q_m2, q_m1000, q_add, q_mul, q_cl, q_le, q_lt, q_eq, q_in, q_bd_some, eq_self, if_true, if_false, q_b0, q_b1, q_b01, q_bt, q_bf, q_ft, q_tf, Nat.mul_zero, Nat.add_zero, Nat.zero_add, or_true, true_or, not_true_eq_false, not_false_eq_true, reduceCtorEq, s_isHue hH, s_inc, h3, h4, h5, h6, Option.isSome_none, Option.isSome_some]
            exact hw.ok rfl
          | some b =>
            obtain ⟨rfl, g1, -⟩ := ix_some h3
            obtain ⟨rfl, g2, -⟩ := ix_some h4
            obtain ⟨rfl, g3, -⟩ := ix_some h5
            obtain ⟨rfl, g4, -⟩ := ix_some h6
            simp (disch := omega) only [q_lit, q_m1, q_m2, q_m1000, q_add, q_mul, q_cl, q_le, q_lt, q_eq, q_in, q_bd_some, eq_self, if_true, if_false, q_b0, q_b1, q_b01, q_bt, q_bf, q_ft, q_tf, Nat.mul_zero, Nat.add_zero, Nat.zero_add, or_true, true_or, not_true_eq_false, not_false_eq_true, reduceCtorEq, s_isHue hH, s_inc, h3, h4, h5, h6, Option.isSome_some, s_mindsColour hH g1 (show 100 * r + 10 * y + b < 1000 by omega)]
            rw [show (100 * r + 10 * y + b) / 100 = r by omega, show (100 * r + 10 * y + b) / 10 % 10 = y by omega, show (100 * r + 10 * y + b) % 10 = b by omega]
            exact hw.ok (q_nz _)
theorem m_rule (hT : mT M 0 T) (ok : tOK T) (p j w : Int32) : hw (f_X11_rule p j w M) (fun v _ => v = zI (sp_rule T p j w)) := by
  unfold f_X11_rule sp_rule
  refine hw.bd ((m_hand (hT.si (k := 0) (v := 0)) ok p).mono (fun v M' h => ?_))
  replace h := h.1
  cases hp : ix p (tz T 0) with
  | none =>
    rw [hp] at h
    rw [h.1]
    exact hw.ok rfl
  | some k =>
    rw [hp] at h
    obtain ⟨rfl, hH⟩ := h
    have h6 : pR (tP T k) ≤ 6 := hH.1.1.2.2.1
    dsimp only
    have e1 : f_X11_of (nI 1) M' = some (nI (pR (tP T k)), M') := by rw [s_of hH.1 hH.2.1.1 (by omega), hH.1.2.1.2]
    cases h3 : ix j (pR (tP T k)) with
    | none =>
      simp (disch := omega) only [q_lit, q_m1, q_m2, q_m1000, q_add, q_mul, q_cl, q_le, q_lt, q_eq, q_in, q_bd_some, eq_self, if_true, if_false, q_b0, q_b1, q_b01, q_bt, q_bf, q_ft, q_tf, Nat.mul_zero, Nat.add_zero, Nat.zero_add, or_true, true_or, not_true_eq_false, not_false_eq_true, reduceCtorEq, e1, s_inS, h3, Option.isSome_none]
      exact hw.ok rfl
    | some j =>
      cases h4 : ix w 3 with
      | none =>
        simp (disch := omega) only [q_lit, q_m1, q_m2, q_m1000, q_add, q_mul, q_cl, q_le, q_lt, q_eq, q_in, q_bd_some, eq_self, if_true, if_false, q_b0, q_b1, q_b01, q_bt, q_bf, q_ft, q_tf, Nat.mul_zero, Nat.add_zero, Nat.zero_add, or_true, true_or, not_true_eq_false, not_false_eq_true, reduceCtorEq, e1, s_inS, s_inc, h3, h4, Option.isSome_none, Option.isSome_some]
        exact hw.ok rfl
      | some w =>
        obtain ⟨rfl, g1, -⟩ := ix_some h3
        obtain ⟨rfl, g2, -⟩ := ix_some h4
        simp (disch := omega) only [q_lit, q_m1, q_m2, q_m1000, q_add, q_mul, q_cl, q_le, q_lt, q_eq, q_in, q_bd_some, eq_self, if_true, if_false, q_b0, q_b1, q_b01, q_bt, q_bf, q_ft, q_tf, Nat.mul_zero, Nat.add_zero, Nat.zero_add, or_true, true_or, not_true_eq_false, not_false_eq_true, reduceCtorEq, e1, s_inS, s_inc, h3, h4, Option.isSome_some, s_ruleOf hH.1 hH.2.1.1 g1 g2]
        exact hw.ok rfl
theorem m_gain (hT : mT M 0 T) (ok : tOK T) (p w c : Int32) : hw (f_X11_gain p w c M) (fun v _ => v = zI (sp_gain T p w c)) := by
  unfold f_X11_gain sp_gain
  refine hw.bd ((m_hand (hT.si (k := 0) (v := 0)) ok p).mono (fun v M' h => ?_))
  replace h := h.1
  cases hp : ix p (tz T 0) with
  | none =>
    rw [hp] at h
    rw [h.1]
    exact hw.ok rfl
  | some k =>
    rw [hp] at h
    obtain ⟨rfl, hH⟩ := h
    have h10 : pH (tP T k) ≤ 10 := hH.1.1.2.1
    dsimp only
    cases h3 : ix w 2 with
    | none =>
      simp (disch := omega) only [q_lit, q_m1, q_m2, q_m1000, q_add, q_mul, q_cl, q_le, q_lt, q_eq, q_in, q_bd_some, eq_self, if_true, if_false, q_b0, q_b1, q_b01, q_bt, q_bf, q_ft, q_tf, Nat.mul_zero, Nat.add_zero, Nat.zero_add, or_true, true_or, not_true_eq_false, not_false_eq_true, reduceCtorEq, s_inc, h3, Option.isSome_none]
      exact hw.ok rfl
    | some w =>
      obtain ⟨rfl, g1, -⟩ := ix_some h3
      dsimp only
      rcases q_any c with h0 | ⟨c, g2, rfl⟩
      · have e : f_X11_isCouple c M' = some (nI 0, M') := by
          unfold f_X11_isCouple
          rw [show (0 : Int32) = nI 0 from rfl, show (99 : Int32) = nI 99 from rfl, s_inc M' _ (by omega), ix_neg h0]
          simp (disch := omega) only [q_lit, q_m1, q_m2, q_m1000, q_add, q_mul, q_cl, q_le, q_lt, q_eq, q_in, q_bd_some, eq_self, if_true, if_false, q_b0, q_b1, q_b01, q_bt, q_bf, q_ft, q_tf, Nat.mul_zero, Nat.add_zero, Nat.zero_add, or_true, true_or, not_true_eq_false, not_false_eq_true, reduceCtorEq, Option.isSome_none]
        simp (disch := omega) only [q_lit, q_m1, q_m2, q_m1000, q_add, q_mul, q_cl, q_le, q_lt, q_eq, q_in, q_bd_some, eq_self, if_true, if_false, q_b0, q_b1, q_b01, q_bt, q_bf, q_ft, q_tf, Nat.mul_zero, Nat.add_zero, Nat.zero_add, or_true, true_or, not_true_eq_false, not_false_eq_true, reduceCtorEq, s_inc, h3, Option.isSome_some, e, show c < nI 0 from h0]
        exact hw.ok rfl
      · simp (disch := omega) only [q_lit, q_m1, q_m2, q_m1000, q_add, q_mul, q_cl, q_le, q_lt, q_eq, q_in, q_bd_some, eq_self, if_true, if_false, q_b0, q_b1, q_b01, q_bt, q_bf, q_ft, q_tf, Nat.mul_zero, Nat.add_zero, Nat.zero_add, or_true, true_or, not_true_eq_false, not_false_eq_true, reduceCtorEq, s_inc, h3, Option.isSome_some, s_isCouple hH, Nat.not_lt_zero]
        by_cases h4 : c / 10 < pH (tP T k)
        · by_cases h5 : c % 10 < pH (tP T k)
          · rw [decide_eq_true h4, decide_eq_true h5, if_neg (by simp), if_pos (show c / 10 < pH (tP T k) ∧ c % 10 < pH (tP T k) from ⟨h4, h5⟩)]
            simp (disch := omega) only [q_lit, q_m1, q_m2, q_m1000, q_add, q_mul, q_cl, q_le, q_lt, q_eq, q_in, q_bd_some, eq_self, if_true, if_false, q_b0, q_b1, q_b01, q_bt, q_bf, q_ft, q_tf, Nat.mul_zero, Nat.add_zero, Nat.zero_add, or_true, true_or, not_true_eq_false, not_false_eq_true, reduceCtorEq, q_div, q_rem, s_gainOf11 hH (show 0 < 2 by omega) h4 h5, s_gainOf11 hH (show 1 < 2 by omega) h5 h4]
            unfold gainS
            by_cases h7 : w = 0
            · subst h7
              rw [if_pos rfl, if_pos rfl, Nat.mul_zero, Nat.zero_add]
              exact hw.ok rfl
            · rw [if_neg h7, if_neg h7, strH_comm _ (c % 10), show w = 1 by omega]
              exact hw.ok rfl
          · rw [decide_eq_true h4, decide_eq_false h5, if_pos (by simp), if_neg (fun z => h5 z.2)]
            exact hw.ok rfl
        · rw [decide_eq_false h4, if_pos (by simp), if_neg (fun z => h4 z.1)]
          exact hw.ok rfl
theorem m_palette (hT : mT M 0 T) (ok : tOK T) (p w : Int32) : hw (f_X11_palette p w M) (fun v _ => v = zI (sp_palette T p w)) := by
  unfold f_X11_palette sp_palette
  refine hw.bd ((m_hand (hT.si (k := 0) (v := 0)) ok p).mono (fun v M' h => ?_))
  replace h := h.1
  cases hp : ix p (tz T 0) with
  | none =>
    rw [hp] at h
    rw [h.1]
    exact hw.ok rfl
  | some k =>
    rw [hp] at h
    obtain ⟨rfl, hH⟩ := h
    have h10 : pH (tP T k) ≤ 10 := hH.1.1.2.1
    have e1 : f_X11_of (nI 1) M' = some (nI (pR (tP T k)), M') := by rw [s_of hH.1 hH.2.1.1 (by omega), hH.1.2.1.2]
    dsimp only
    rcases q_any w with h0 | ⟨w, g2, rfl⟩
    · rw [if_pos h0]
      simp (disch := omega) only [q_lit, q_m1, q_m2, q_m1000, q_add, q_mul, q_cl, q_le, q_lt, q_eq, q_in, q_bd_some, eq_self, if_true, if_false, q_b0, q_b1, q_b01, q_bt, q_bf, q_ft, q_tf, Nat.mul_zero, Nat.add_zero, Nat.zero_add, or_true, true_or, not_true_eq_false, not_false_eq_true, reduceCtorEq, s_inab, show w < nI 0 from h0, false_and, decide_false, q_neg_ne h0]
      exact hw.ok rfl
    · rw [if_neg (nI_pos g2), q_cl g2]
      simp (disch := omega) only [q_lit, q_m1, q_m2, q_m1000, q_add, q_mul, q_cl, q_le, q_lt, q_eq, q_in, q_bd_some, eq_self, if_true, if_false, q_b0, q_b1, q_b01, q_bt, q_bf, q_ft, q_tf, Nat.mul_zero, Nat.add_zero, Nat.zero_add, or_true, true_or, not_true_eq_false, not_false_eq_true, reduceCtorEq, s_inab, Nat.not_lt_zero, true_and]
      by_cases h5 : 5 ≤ w
      · rw [palS_5 _ h5]
        by_cases hA : 100 ≤ w ∧ w ≤ 199
        · rw [if_pos (show 100 ≤ w ∧ w < 200 by omega), decide_eq_true hA, if_neg (by simp)]
          simp (disch := omega) only [q_lit, q_m1, q_m2, q_m1000, q_add, q_mul, q_cl, q_le, q_lt, q_eq, q_in, q_bd_some, eq_self, if_true, if_false, q_b0, q_b1, q_b01, q_bt, q_bf, q_ft, q_tf, Nat.mul_zero, Nat.add_zero, Nat.zero_add, or_true, true_or, not_true_eq_false, not_false_eq_true, reduceCtorEq, q_sub, q_div, q_rem, s_isHue hH]
          by_cases h4 : (w - 100) / 10 < pH (tP T k)
          · rw [ix_n h4 (by omega), if_neg (by simp)]
            by_cases h6 : 3 ≤ w % 10
            · rw [if_pos h6, if_neg (show ¬ ((w - 100) / 10 < pH (tP T k) ∧ w % 10 < 3) by omega)]
              exact hw.ok rfl
            · rw [if_neg h6, if_pos (show (w - 100) / 10 < pH (tP T k) ∧ w % 10 < 3 by omega)]
              simp (disch := omega) only [q_lit, q_m1, q_m2, q_m1000, q_add, q_mul, q_cl, q_le, q_lt, q_eq, q_in, q_bd_some, eq_self, if_true, if_false, q_b0, q_b1, q_b01, q_bt, q_bf, q_ft, q_tf, Nat.mul_zero, Nat.add_zero, Nat.zero_add, or_true, true_or, not_true_eq_false, not_false_eq_true, reduceCtorEq, s_part11 hH.1 hH.2.1.1 h4 (show w % 10 < 3 by omega)]
              exact hw.ok (q_nz _)
          · rw [ix_big (by omega) (by omega), if_pos (by rfl), if_neg (show ¬ ((w - 100) / 10 < pH (tP T k) ∧ w % 10 < 3) by omega)]
            exact hw.ok rfl
        · rw [if_neg (show ¬ (100 ≤ w ∧ w < 200) by omega), decide_eq_false hA, if_pos rfl]
          by_cases hB : 200 ≤ w ∧ w ≤ 219
          · rw [if_pos (show 200 ≤ w ∧ w < 220 by omega), decide_eq_true hB, if_neg (by simp)]
            simp (disch := omega) only [q_lit, q_m1, q_m2, q_m1000, q_add, q_mul, q_cl, q_le, q_lt, q_eq, q_in, q_bd_some, eq_self, if_true, if_false, q_b0, q_b1, q_b01, q_bt, q_bf, q_ft, q_tf, Nat.mul_zero, Nat.add_zero, Nat.zero_add, or_true, true_or, not_true_eq_false, not_false_eq_true, reduceCtorEq, q_rem, s_isHue hH]
            by_cases h4 : w % 10 < pH (tP T k)
            · rw [ix_n h4 (by omega), if_neg (by simp), if_pos h4]
              simp (disch := omega) only [q_lit, q_m1, q_m2, q_m1000, q_add, q_mul, q_cl, q_le, q_lt, q_eq, q_in, q_bd_some, eq_self, if_true, if_false, q_b0, q_b1, q_b01, q_bt, q_bf, q_ft, q_tf, Nat.mul_zero, Nat.add_zero, Nat.zero_add, or_true, true_or, not_true_eq_false, not_false_eq_true, reduceCtorEq, q_sub, s_of hH.1 hH.2.1.1]
              rw [show 50 + w - 200 = 50 + (10 * ((w - 200) / 10) + w % 10) by omega, hH.1.2.2.2.2 _ (by omega)]
              exact hw.ok (q_nz _)
            · rw [ix_big (by omega) (by omega), if_pos (by rfl), if_neg h4]
              exact hw.ok rfl
          · rw [if_neg (show ¬ (200 ≤ w ∧ w < 220) by omega), decide_eq_false hB, if_pos rfl, if_neg (show ¬ w = 0 by omega), if_neg (show ¬ w = 1 by omega), if_neg (show ¬ w = 2 by omega), if_neg (show ¬ w = 3 by omega), if_neg (show ¬ w = 4 by omega)]
            exact hw.ok rfl
      · rw [decide_eq_false (show ¬ (100 ≤ w ∧ w ≤ 199) by omega), if_pos rfl, decide_eq_false (show ¬ (200 ≤ w ∧ w ≤ 219) by omega), if_pos rfl]
        unfold palS
        by_cases h0 : w = 0
        · rw [if_pos h0, if_pos h0, hH.2.1.2]
          exact hw.ok (q_nz _)
        · rw [if_neg h0, if_neg h0]
          by_cases h0 : w = 1
          · rw [if_pos h0, if_pos h0, e1, q_bd_some]
            exact hw.ok (q_nz _)
          · rw [if_neg h0, if_neg h0]
            by_cases h0 : w = 2
            · rw [if_pos h0, if_pos h0, s_meek11 hH, q_bd_some]
              exact hw.ok (q_nz _)
            · rw [if_neg h0, if_neg h0]
              by_cases h0 : w = 3
              · rw [if_pos h0, if_pos h0, s_fierce11 hH, q_bd_some]
                exact hw.ok rfl
              · rw [if_neg h0, if_neg h0, if_pos (show w = 4 by omega), if_pos (show w = 4 by omega)]
                exact hw.bd ((s_dot11 hH).mono (fun v M'' h => hw.ok h))
end MOD2
