/-! THE CLASS COUPLES -/
theorem low_bd {s l : Nat} (l1 : s.testBit l = true) (l3 : ∀ i, (s &&& (s - 1)).testBit i = (s.testBit i && decide (i ≠ l))) : s &&& (s - 1) = bd s (2 ^ l) := by
  apply Nat.eq_of_testBit_eq
  intro i
  rw [l3, bd_bit, Nat.testBit_two_pow]
  by_cases e : l = i
  · subst e; simp
  · rw [decide_eq_false e, decide_eq_true (show i ≠ l from fun z => e z.symm)]; rfl
section CLS
variable {P : Pal} {n : Nat} {hs nu : Nat → Nat}
def mkM (M : PM) (c : Nat) (E : Nat → Nat → Bool) (n k : Nat) : Prop := ∀ s, s < k → M.1 c s = nI (mcS E n s)
theorem s_mostCouples {M : PM} (h : cK M P n hs nu) {s : Nat} (h1 : 1 ≤ s) (h2 : s < 2 ^ n) (hm : mkM M 246 (eF P hs) n s) : f_X1_mostCouplesOf (nI s) M = some (nI (mcS (eF P hs) n s), M) := by
  have h10 := h.1.1
  have h3 : 2 ^ n ≤ 2 ^ 10 := Nat.pow_le_pow_right (by decide) h10
  obtain ⟨l, l1, l2, l3⟩ := low_ex s s (Nat.le_refl _) (by omega)
  have hl : l < n := lt2_iff.mp h2 l l1
  have hle := least_at (show l < 10 by omega) l1 l2
  have hb := bd_lt l1
  have eo := low_bd l1 l3
  have lo := mcS_le (eF P hs) n _ _ (Nat.le_refl (bd s (2 ^ l)))
  rw [mcS_eq (by omega) hle]
  unfold f_X1_mostCouplesOf
  rw [q_lit 1, gO, q_sub h1, q_m1, q_and, eo]
  simp (disch := omega) only [q_lit, q_m1, q_m2, q_m1000, q_add, q_mul, q_cl, q_le, q_lt, q_eq, q_in, q_bd_some, eq_self, if_true, if_false, q_b0, q_b1, q_b01, q_bt, q_bf, q_ft, q_tf, Nat.mul_zero, Nat.add_zero, Nat.zero_add, or_true, true_or, not_true_eq_false, not_false_eq_true, reduceCtorEq, s_leastOf, hle, ocI, (h.2 l hl).2.2, q_bd, hm (bd s (2 ^ l)) hb]
  let g : Nat → Nat := fun j => if (bd s (2 ^ l)).testBit j && !eF P hs l j then 1 + mcS (eF P hs) n (bd (bd s (2 ^ l)) (2 ^ j)) else 0
  have gl : ∀ j, g j ≤ 1025 := by
    intro j
    have hgj : g j = if (bd s (2 ^ l)).testBit j && !eF P hs l j then 1 + mcS (eF P hs) n (bd (bd s (2 ^ l)) (2 ^ j)) else 0 := rfl
    rw [hgj]
    split
    · have b2 := bd_le (bd s (2 ^ l)) (2 ^ j)
      have := mcS_le (eF P hs) n _ _ (Nat.le_refl (bd (bd s (2 ^ l)) (2 ^ j)))
      omega
    · omega
  refine hr_for (σ := Int32) (fun f j x => f_X1_mostCouplesOf_31 (nI s) f (nI (bd s (2 ^ l))) (nI (bd (bd s (2 ^ l)) (bset (eF P hs l) n))) x (nI j) M) n (fun j x => x = nI (mxN (mcS (eF P hs) n (bd s (2 ^ l))) g j)) (fun r => r = some (nI (mxN (mcS (eF P hs) n (bd s (2 ^ l))) g n), M)) ?_ ?_ FU 0 _ (Nat.zero_le _) (FU_ok (by omega)) rfl
  · rintro f j x hj rfl
    right
    refine ⟨_, ?_, rfl⟩
    have bl2 := bd_le (bd s (2 ^ l)) (bset (eF P hs l) n)
    have b3 := bd_le (bd s (2 ^ l)) (2 ^ j)
    have eb : (bd (bd s (2 ^ l)) (bset (eF P hs l) n)).testBit j = ((bd s (2 ^ l)).testBit j && !eF P hs l j) := by
      rw [bd_bit, bset_bit, decide_eq_true hj]
      rfl
    have ml : mxN (mcS (eF P hs) n (bd s (2 ^ l))) g j ≤ 1025 := mxN_le (by omega) (fun k _ => gl k)
    have mj := mcS_le (eF P hs) n _ _ (Nat.le_refl (bd (bd s (2 ^ l)) (2 ^ j)))
    have eg : mxN (mcS (eF P hs) n (bd s (2 ^ l))) g (j + 1) = max (mxN (mcS (eF P hs) n (bd s (2 ^ l))) g j) (if (bd s (2 ^ l)).testBit j && !eF P hs l j then 1 + mcS (eF P hs) n (bd (bd s (2 ^ l)) (2 ^ j)) else 0) := rfl
    show f_X1_mostCouplesOf_31 (nI s) (f + 1) _ _ _ (nI j) M = _
    rw [f_X1_mostCouplesOf_31.eq_2, s_holdsBit M (by omega) (by omega), eb, eg]
    simp (disch := omega) only [q_lit, q_m1, q_m2, q_m1000, q_add, q_mul, q_cl, q_le, q_lt, q_eq, q_in, q_bd_some, eq_self, if_true, if_false, q_b0, q_b1, q_b01, q_bt, q_bf, q_ft, q_tf, Nat.mul_zero, Nat.add_zero, Nat.zero_add, or_true, true_or, not_true_eq_false, not_false_eq_true, reduceCtorEq, h.1.2, show ¬ n ≤ j by omega, q_jl, q_bd, hm (bd (bd s (2 ^ l)) (2 ^ j)) (by omega), q_jx]
    cases hq : ((bd s (2 ^ l)).testBit j && !eF P hs l j) with
    | false =>
      rw [if_pos rfl, if_neg (by simp), Nat.max_eq_left (Nat.zero_le _)]
    | true => rw [if_neg (by simp), if_pos rfl]
  · rintro f x rfl
    show f_X1_mostCouplesOf_31 (nI s) (f + 1) _ _ _ (nI n) M = _
    rw [f_X1_mostCouplesOf_31.eq_2]
    simp (disch := omega) only [q_lit, q_m1, q_m2, q_m1000, q_add, q_mul, q_cl, q_le, q_lt, q_eq, q_in, q_bd_some, eq_self, if_true, if_false, q_b0, q_b1, q_b01, q_bt, q_bf, q_ft, q_tf, Nat.mul_zero, Nat.add_zero, Nat.zero_add, or_true, true_or, not_true_eq_false, not_false_eq_true, reduceCtorEq, h.1.2, Nat.le_refl]
theorem s_leastAlly {M : PM} (h : cK M P n hs nu) (hm : mkM M 246 (eF P hs) n (2 ^ n)) {left k : Nat} (hl : left < 2 ^ n) (hk : k < n) : f_X1_leastAlly (nI left) (nI k) M = some (ocI (alS (eF P hs) n left k), M) := by
  have h10 := h.1.1
  have h3 : 2 ^ n ≤ 2 ^ 10 := Nat.pow_le_pow_right (by decide) h10
  have bl := bd_le left (2 ^ k)
  have m1 := mcS_le (eF P hs) n _ _ (Nat.le_refl left)
  unfold f_X1_leastAlly alS
  rw [q_lit 1, gO, q_jl (by omega), q_m1, q_bd]
  refine hr_for (σ := Unit) (fun f j _ => f_X1_leastAlly_11 (nI left) (nI k) f (nI (bd left (2 ^ k))) (nI j) M) n (fun j _ => fst1 (fun j => ((bd left (2 ^ k)).testBit j && !eF P hs k j) && decide (1 + mcS (eF P hs) n (bd (bd left (2 ^ k)) (2 ^ j)) = mcS (eF P hs) n left)) j = none) (fun r => r = some (ocI (fst1 (fun j => ((bd left (2 ^ k)).testBit j && !eF P hs k j) && decide (1 + mcS (eF P hs) n (bd (bd left (2 ^ k)) (2 ^ j)) = mcS (eF P hs) n left)) n), M)) ?_ ?_ FU 0 () (Nat.zero_le _) (FU_ok (by omega)) rfl
  · intro f j _ hj hno
    have b3 := bd_le (bd left (2 ^ k)) (2 ^ j)
    have m2 := mcS_le (eF P hs) n _ _ (Nat.le_refl (bd (bd left (2 ^ k)) (2 ^ j)))
    have hbl : bset (eF P hs k) n < 1024 := bset_lt10 _ h10
    have eb : (bset (eF P hs k) n).testBit j = eF P hs k j := by rw [bset_bit, decide_eq_true hj]; rfl
    show f_X1_leastAlly_11 (nI left) (nI k) (f + 1) _ (nI j) M = _ ∨ ∃ _ : Unit, f_X1_leastAlly_11 (nI left) (nI k) (f + 1) _ (nI j) M = f_X1_leastAlly_11 (nI left) (nI k) f _ (nI (j + 1)) M ∧ _
    rw [f_X1_leastAlly_11.eq_2]
    simp (disch := omega) only [q_lit, q_m1, q_m2, q_m1000, q_add, q_mul, q_cl, q_le, q_lt, q_eq, q_in, q_bd_some, eq_self, if_true, if_false, q_b0, q_b1, q_b01, q_bt, q_bf, q_ft, q_tf, Nat.mul_zero, Nat.add_zero, Nat.zero_add, or_true, true_or, not_true_eq_false, not_false_eq_true, reduceCtorEq, h.1.2, show ¬ n ≤ j by omega, s_holdsBit, (h.2 k hk).2.2, eb, f_X1_leastAlly_48, q_jl, q_bd, hm (bd (bd left (2 ^ k)) (2 ^ j)) (by omega), hm left hl]
    cases h1 : (bd left (2 ^ k)).testBit j with
    | false =>
      right
      rw [if_pos rfl]
      exact ⟨(), rfl, fst1_no hno (by rw [h1]; rfl)⟩
    | true =>
      rw [if_neg (by simp)]
      cases hE : eF P hs k j with
      | true =>
        right
        rw [if_neg (by simp)]
        exact ⟨(), rfl, fst1_no hno (by rw [h1, hE]; rfl)⟩
      | false =>
        rw [if_pos rfl]
        by_cases e : 1 + mcS (eF P hs) n (bd (bd left (2 ^ k)) (2 ^ j)) = mcS (eF P hs) n left
        · left
          rw [if_pos e, fst1_hit hno (by rw [h1, hE, decide_eq_true e]; rfl) hj]
          rfl
        · right
          rw [if_neg e]
          exact ⟨(), rfl, fst1_no hno (by rw [h1, hE, decide_eq_false e]; rfl)⟩
  · intro f _ hno
    show f_X1_leastAlly_11 (nI left) (nI k) (f + 1) _ (nI n) M = _
    rw [f_X1_leastAlly_11.eq_2]
    simp (disch := omega) only [q_lit, q_m1, q_m2, q_m1000, q_add, q_mul, q_cl, q_le, q_lt, q_eq, q_in, q_bd_some, eq_self, if_true, if_false, q_b0, q_b1, q_b01, q_bt, q_bf, q_ft, q_tf, Nat.mul_zero, Nat.add_zero, Nat.zero_add, or_true, true_or, not_true_eq_false, not_false_eq_true, reduceCtorEq, h.1.2, Nat.le_refl]
    rw [hno]
    rfl
/-- it is coupled -/
def cpl (M : PM) (E : Nat → Nat → Bool) (n : Nat) : Prop := M.1 240 11 = nI (mcS E n (2 ^ n - 1)) ∧ ∀ h, h < n → M.1 248 h = ocI (fAS E n n h)
theorem lf_lt (E : Nat → Nat → Bool) (n k : Nat) : lfS E n k < 2 ^ n := by
  have h2 : 1 ≤ 2 ^ n := Nat.one_le_two_pow
  induction k with
  | zero => show 2 ^ n - 1 < 2 ^ n; omega
  | succ k ih => exact Nat.lt_of_le_of_lt (lf_sub E n k).le ih
theorem s_couple77 {M0 M : PM} (h : cK M0 P n hs nu) (hf0 : hr_fr [(246, 0), (240, 12), (248, 0)] M0 M) (hm : mkM M 246 (eF P hs) n (2 ^ n)) (hc : M.1 240 11 = nI (mcS (eF P hs) n (2 ^ n - 1))) (ha : ∀ j, j < n → M.1 248 j = zI (-1)) : ∃ M', f_X1_couple_77 FU (nI (2 ^ n - 1)) (nI 0) M = some ((), M') ∧ cpl M' (eF P hs) n ∧ hr_fr [(246, 0), (240, 12), (248, 0)] M0 M' := by
  have h10 := h.1.1
  have h3 : 2 ^ n ≤ 2 ^ 10 := Nat.pow_le_pow_right (by decide) h10
  refine hr_for (σ := PM) (fun f k N => f_X1_couple_77 f (nI (lfS (eF P hs) n k)) (nI k) N) n (fun k N => (mkM N 246 (eF P hs) n (2 ^ n) ∧ N.1 240 11 = nI (mcS (eF P hs) n (2 ^ n - 1)) ∧ ∀ j, j < n → N.1 248 j = ocI (fAS (eF P hs) n k j)) ∧ hr_fr [(246, 0), (240, 12), (248, 0)] M0 N) (fun r => ∃ M', r = some ((), M') ∧ cpl M' (eF P hs) n ∧ hr_fr [(246, 0), (240, 12), (248, 0)] M0 M') ?_ ?_ FU 0 M (Nat.zero_le _) (FU_ok (by omega)) ⟨⟨hm, hc, ha⟩, hf0⟩
  · rintro f k N hk ⟨⟨hm, hc, ha⟩, hf⟩
    right
    have hK : cK N P n hs nu := h.fr hf rfl (fun _ => rfl) (fun _ => rfl) (fun _ => rfl)
    have hlt := lf_lt (eF P hs) n k
    have hal := s_leastAlly hK hm hlt hk
    have elf : lfS (eF P hs) n (k + 1) = if (lfS (eF P hs) n k).testBit k then (match alS (eF P hs) n (lfS (eF P hs) n k) k with
      | none => bd (lfS (eF P hs) n k) (2 ^ k)
      | some j => bd (bd (lfS (eF P hs) n k) (2 ^ k)) (2 ^ j)) else lfS (eF P hs) n k := rfl
    have efa : fAS (eF P hs) n (k + 1) = if (lfS (eF P hs) n k).testBit k then (match alS (eF P hs) n (lfS (eF P hs) n k) k with
      | none => fAS (eF P hs) n k
      | some j => fun h => if h = j then some k else if h = k then some j else fAS (eF P hs) n k h) else fAS (eF P hs) n k := rfl
    show ∃ s', f_X1_couple_77 (f + 1) (nI (lfS (eF P hs) n k)) (nI k) N = f_X1_couple_77 f (nI (lfS (eF P hs) n (k + 1))) (nI (k + 1)) s' ∧ _
    rw [f_X1_couple_77.eq_2, elf, efa]
    simp (disch := omega) only [q_lit, q_m1, q_m2, q_m1000, q_add, q_mul, q_cl, q_le, q_lt, q_eq, q_in, q_bd_some, eq_self, if_true, if_false, q_b0, q_b1, q_b01, q_bt, q_bf, q_ft, q_tf, Nat.mul_zero, Nat.add_zero, Nat.zero_add, or_true, true_or, not_true_eq_false, not_false_eq_true, reduceCtorEq, hK.1.2, show ¬ n ≤ k by omega, s_holdsBit, hal]
    cases hb : (lfS (eF P hs) n k).testBit k with
    | false =>
      rw [if_pos rfl, if_neg (by simp), if_neg (by simp)]
      exact ⟨N, rfl, ⟨hm, hc, ha⟩, hf⟩
    | true =>
      simp only [if_true]
      rw [if_neg (by simp)]
      cases hq : alS (eF P hs) n (lfS (eF P hs) n k) k with
      | none =>
        rw [if_pos (show ocI none = zI (-1) from rfl)]
        simp (disch := omega) only [q_lit, q_m1, q_m2, q_m1000, q_add, q_mul, q_cl, q_le, q_lt, q_eq, q_in, q_bd_some, eq_self, if_true, if_false, q_b0, q_b1, q_b01, q_bt, q_bf, q_ft, q_tf, Nat.mul_zero, Nat.add_zero, Nat.zero_add, or_true, true_or, not_true_eq_false, not_false_eq_true, reduceCtorEq, q_jl, q_bd]
        exact ⟨N, rfl, ⟨hm, hc, ha⟩, hf⟩
      | some j =>
        obtain ⟨j1, j2, -⟩ := fst1_some hq
        rw [if_neg (show ¬ ocI (some j) = zI (-1) from fun z => by have := (q_nzeq (a := j) (by omega) (by omega)).mp z; omega), show ocI (some j) = nI j from rfl]
        simp (disch := omega) only [q_lit, q_m1, q_m2, q_m1000, q_add, q_mul, q_cl, q_le, q_lt, q_eq, q_in, q_bd_some, eq_self, if_true, if_false, q_b0, q_b1, q_b01, q_bt, q_bf, q_ft, q_tf, Nat.mul_zero, Nat.add_zero, Nat.zero_add, or_true, true_or, not_true_eq_false, not_false_eq_true, reduceCtorEq, q_jl, q_bd]
        refine ⟨_, rfl, ⟨?_, ?_, ?_⟩, hr_fr.si rfl (hr_fr.si rfl hf)⟩
        · intro t ht
          rw [si_ne _ _ _ (show 246 ≠ 248 by omega), si_ne _ _ _ (show 246 ≠ 248 by omega)]
          exact hm t ht
        · rw [si_ne _ _ _ (show 240 ≠ 248 by omega), si_ne _ _ _ (show 240 ≠ 248 by omega)]
          exact hc
        · intro i hi
          rw [si_same, si_same]
          by_cases e1 : i = j
          · rw [if_pos e1, if_pos e1]; rfl
          · rw [if_neg e1, if_neg e1]
            by_cases e2 : i = k
            · rw [if_pos e2, if_pos e2]; rfl
            · rw [if_neg e2, if_neg e2]; exact ha i hi
  · rintro f N ⟨⟨hm, hc, ha⟩, hf⟩
    have hK : cK N P n hs nu := h.fr hf rfl (fun _ => rfl) (fun _ => rfl) (fun _ => rfl)
    show ∃ M', f_X1_couple_77 (f + 1) _ (nI n) N = _ ∧ _
    rw [f_X1_couple_77.eq_2]
    simp (disch := omega) only [q_lit, q_m1, q_m2, q_m1000, q_add, q_mul, q_cl, q_le, q_lt, q_eq, q_in, q_bd_some, eq_self, if_true, if_false, q_b0, q_b1, q_b01, q_bt, q_bf, q_ft, q_tf, Nat.mul_zero, Nat.add_zero, Nat.zero_add, or_true, true_or, not_true_eq_false, not_false_eq_true, reduceCtorEq, hK.1.2, Nat.le_refl]
    exact ⟨N, rfl, ⟨hc, ha⟩, hf⟩
end CLS
