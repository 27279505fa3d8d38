/-! FLAGS, by the model -/
theorem fst1_congr {p q : Nat → Bool} {n : Nat} (h : ∀ k, k < n → p k = q k) : fst1 p n = fst1 q n := by
  induction n with
  | zero => rfl
  | succ n ih =>
    unfold fst1
    rw [ih (fun k hk => h k (by omega)), h n (by omega)]
theorem fA_none {E : Nat → Nat → Bool} {n h : Nat} : ∀ k, (lfS E n k).testBit h = true → fAS E n k h = none := by
  intro k
  induction k with
  | zero => intro _; rfl
  | succ k ih =>
    intro hb
    have hk := ih (lf_sub E n k h hb)
    have hlow : h ≠ k := fun z => by
      have := lf_low E n (k + 1) k (by omega)
      rw [z, this] at hb
      cases hb
    unfold fAS
    cases hc : (lfS E n k).testBit k with
    | false => rw [if_neg (by simp)]; exact hk
    | true =>
      rw [if_pos rfl]
      cases hq : alS E n (lfS E n k) k with
      | none => exact hk
      | some j =>
        dsimp only
        have elf : lfS E n (k + 1) = bd (bd (lfS E n k) (2 ^ k)) (2 ^ j) := by
          show (if (lfS E n k).testBit k then (match alS E n (lfS E n k) k with
            | none => bd (lfS E n k) (2 ^ k)
            | some j => bd (bd (lfS E n k) (2 ^ k)) (2 ^ j)) else lfS E n k) = _
          rw [if_pos hc, hq]
        have hj : h ≠ j := fun z => by
          rw [elf, z, bd_bit, Nat.testBit_two_pow, decide_eq_true rfl] at hb
          simp at hb
        rw [if_neg hj, if_neg hlow]
        exact hk
theorem lf_skip {E : Nat → Nat → Bool} {n k : Nat} : ∀ a, k ≤ a → (∀ i, i < a → (lfS E n k).testBit i = false) → lfS E n a = lfS E n k := by
  intro a
  induction a with
  | zero => intro h _; rw [show k = 0 by omega]
  | succ a ih =>
    intro h hb
    by_cases e : k = a + 1
    · rw [e]
    · have e1 := ih (by omega) (fun i hi => hb i (by omega))
      show (if (lfS E n a).testBit a then _ else lfS E n a) = _
      rw [e1, hb a (by omega), if_neg (by simp)]
section MOD
variable {q : Nat} {P : Pal}
theorem s_ally38 {M : PM} (hH : hM M q P) (hm : mkM M 300 (foe P) (pH P) (2 ^ pH P)) {s a : Nat} (h2 : s < 2 ^ pH P) (l1 : s.testBit a = true) (l2 : ∀ i, i < a → s.testBit i = false) (a1 : Int32) (k9 : Int32 → PM → Option (Int32 × PM)) : f_X11_allyOf_38 a1 k9 FU (nI s) (nI a) (nI (bd s (2 ^ a))) (zI (-1)) (nI (pH P - 1)) M = (if nI a = a1 then f_X11_allyOf_115 a1 (nI a) (ocI (alS (foe P) (pH P) s a)) M else if ocI (alS (foe P) (pH P) s a) = a1 then f_X11_allyOf_115 a1 (nI a) (ocI (alS (foe P) (pH P) s a)) M else if ocI (alS (foe P) (pH P) s a) = zI (-1) then k9 (nI (bd s (2 ^ a))) M else k9 (nI (bd s (2 ^ a)) &&& ((jl 1 (ocI (alS (foe P) (pH P) s a))) ^^^ zI (-1))) M) := by
  have h10 := hH.1.1.2.1
  have h3 : 2 ^ pH P ≤ 2 ^ 10 := Nat.pow_le_pow_right (by decide) h10
  have ha : a < pH P := lt2_iff.mp h2 a l1
  have bl := bd_le s (2 ^ a)
  have m1 := mcS_le (foe P) (pH P) _ _ (Nat.le_refl s)
  let c : Nat → Bool := fun j => ((bd s (2 ^ a)).testBit j && !foe P a j) && decide (1 + mcS (foe P) (pH P) (bd (bd s (2 ^ a)) (2 ^ j)) = mcS (foe P) (pH P) s)
  have clow : ∀ j, j ≤ a → c j = false := by
    intro j hj
    show (((bd s (2 ^ a)).testBit j && !foe P a j) && _) = false
    rw [bd_bit, Nat.testBit_two_pow]
    by_cases e : a = j
    · subst e; simp
    · rw [l2 j (by omega)]; simp
  have eal : alS (foe P) (pH P) s a = fst1 (fun j => decide (a < j) && c j) (pH P) := by
    unfold alS
    refine fst1_congr (fun k _ => ?_)
    show c k = (decide (a < k) && c k)
    by_cases e : a < k
    · rw [decide_eq_true e]; rfl
    · rw [clow k (by omega), Bool.and_false]
  refine hr_for (σ := Int32) (fun f i x => f_X11_allyOf_38 a1 k9 f (nI s) (nI a) (nI (bd s (2 ^ a))) x (nI (pH P - 1 - i)) M) (pH P - 1 - a) (fun i x => x = ocI (fst1 (fun j => decide (pH P - 1 - i < j) && c j) (pH P))) (fun r => r = _) ?_ ?_ FU 0 (zI (-1)) (Nat.zero_le _) (FU_ok (by omega)) ?_
  · rintro f i x hi rfl
    right
    have hbn : pH P - 1 - i < pH P := by omega
    have b3 := bd_le (bd s (2 ^ a)) (2 ^ (pH P - 1 - i))
    have m2 := mcS_le (foe P) (pH P) _ _ (Nat.le_refl (bd (bd s (2 ^ a)) (2 ^ (pH P - 1 - i))))
    have en : nI (pH P - 1 - i) + zI (-1) = nI (pH P - 1 - (i + 1)) := by rw [q_nzadd, q_nz]; congr 1; omega
    have hit : c (pH P - 1 - i) = true → fst1 (fun j => decide (pH P - 1 - (i + 1) < j) && c j) (pH P) = some (pH P - 1 - i) := fun hc =>
      fst1_hit (n := pH P - 1 - i) (fst1_nos (n := 0) rfl (Nat.zero_le _) (fun t _ ht => by rw [decide_eq_false (by omega)]; rfl)) (by rw [hc, decide_eq_true (by omega)]; rfl) hbn
    have mis : c (pH P - 1 - i) = false → fst1 (fun j => decide (pH P - 1 - (i + 1) < j) && c j) (pH P) = fst1 (fun j => decide (pH P - 1 - i < j) && c j) (pH P) := fun hc => fst1_congr (fun k _ => by
      by_cases e : k = pH P - 1 - i
      · rw [e, hc, Bool.and_false, Bool.and_false]
      · congr 1
        by_cases e2 : pH P - 1 - i < k
        · rw [decide_eq_true e2, decide_eq_true (by omega)]
        · rw [decide_eq_false e2, decide_eq_false (by omega)])
    have ec : c (pH P - 1 - i) = (((bd s (2 ^ a)).testBit (pH P - 1 - i) && !foe P a (pH P - 1 - i)) && decide (1 + mcS (foe P) (pH P) (bd (bd s (2 ^ a)) (2 ^ (pH P - 1 - i))) = mcS (foe P) (pH P) s)) := rfl
    show ∃ s', f_X11_allyOf_38 a1 k9 (f + 1) (nI s) (nI a) (nI (bd s (2 ^ a))) _ (nI (pH P - 1 - i)) M = f_X11_allyOf_38 a1 k9 f (nI s) (nI a) (nI (bd s (2 ^ a))) s' (nI (pH P - 1 - (i + 1))) M ∧ _
    rw [f_X11_allyOf_38.eq_2, ← en]
    simp (disch := omega) only [q_lit, q_m1, q_m2, q_m1000, q_add, q_mul, q_cl, q_le, q_lt, q_eq, q_in, q_bd_some, eq_self, if_true, if_false, q_b0, q_b1, q_b01, q_bt, q_bf, q_ft, q_tf, Nat.mul_zero, Nat.add_zero, Nat.zero_add, or_true, true_or, not_true_eq_false, not_false_eq_true, reduceCtorEq, show ¬ pH P - 1 - i ≤ a by omega, s_has11, s_clash hH ha hbn, q_jl, q_bd, hm (bd (bd s (2 ^ a)) (2 ^ (pH P - 1 - i))) (by omega), hm s h2]
    cases h1 : (bd s (2 ^ a)).testBit (pH P - 1 - i) with
    | false =>
      rw [if_pos rfl]
      exact ⟨_, rfl, by rw [mis (by rw [ec, h1]; rfl)]⟩
    | true =>
      rw [if_neg (by simp)]
      cases hE : foe P a (pH P - 1 - i) with
      | true =>
        rw [if_neg (by simp)]
        exact ⟨_, rfl, by rw [mis (by rw [ec, h1, hE]; rfl)]⟩
      | false =>
        rw [if_pos rfl]
        by_cases e : 1 + mcS (foe P) (pH P) (bd (bd s (2 ^ a)) (2 ^ (pH P - 1 - i))) = mcS (foe P) (pH P) s
        · rw [if_pos e]
          exact ⟨_, rfl, by rw [hit (by rw [ec, h1, hE, decide_eq_true e]; rfl)]; rfl⟩
        · rw [if_neg e]
          exact ⟨_, rfl, by rw [mis (by rw [ec, h1, hE, decide_eq_false e]; rfl)]⟩
  · rintro f x rfl
    rw [eal]
    show f_X11_allyOf_38 a1 k9 (f + 1) (nI s) (nI a) (nI (bd s (2 ^ a))) _ (nI (pH P - 1 - (pH P - 1 - a))) M = _
    rw [f_X11_allyOf_38.eq_2, show pH P - 1 - (pH P - 1 - a) = a by omega, if_pos (Int32.le_refl _), show (-1 : Int32) = zI (-1) by decide]
  · rw [fst1_nos (n := 0) rfl (Nat.zero_le _) (fun t _ ht => by rw [decide_eq_false (by omega)]; rfl)]
    rfl
end MOD
