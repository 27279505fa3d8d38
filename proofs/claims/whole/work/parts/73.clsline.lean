/-! THE CLASS LINES UP -/
section CLS
variable {P : Pal} {n : Nat} {hs nu : Nat → Nat}
/-- what stands behind is found of all sets below -/
def mkB (M : PM) (E : Nat → Nat → Bool) (n k : Nat) : Prop := ∀ s, s < k → ∀ j, j < n → s.testBit j = true → M.1 244 (10 * s + j) = nI (bg E n (popc s - 1) s j)
theorem s_begunBy {M : PM} (h : cK M P n hs nu) {s k : Nat} (h2 : s < 2 ^ n) (hk : k < n) (hb : s.testBit k = true) (hm : mkB M (eF P hs) n s) : f_X1_ordersBegunBy (nI s) (nI k) M = some (nI (bg (eF P hs) n (popc s - 1) s k), M) := by
  have h10 := h.1.1
  have h3 : 2 ^ n ≤ 2 ^ 10 := Nat.pow_le_pow_right (by decide) h10
  have hp := popc_rm (show s < 1024 by omega) hb
  have bl := bd_le s (2 ^ k)
  have b2 : bd s (2 ^ k) < s := by
    apply Nat.lt_of_le_of_ne bl
    intro z
    have : (bd s (2 ^ k)).testBit k = true := by rw [z]; exact hb
    rw [bd_bit, Nat.testBit_two_pow, decide_eq_true rfl] at this
    simp at this
  unfold f_X1_ordersBegunBy
  rw [q_lit 1, gO, q_jl (by omega), q_m1, q_bd]
  by_cases h0 : bd s (2 ^ k) = 0
  · rw [h0, if_pos (show nI 0 = 0 from rfl)]
    rw [h0, (popc_0 (by omega)).mpr rfl] at hp
    rw [show popc s - 1 = 0 by omega]
    rfl
  · have hpp : 0 < popc (bd s (2 ^ k)) := Nat.pos_of_ne_zero (fun z => h0 ((popc_0 (by omega)).mp z))
    rw [if_neg (show ¬ nI (bd s (2 ^ k)) = 0 from fun z => h0 ((q_eq (by omega) (by omega)).mp z)), if_pos (q_in hk (by omega) |> fun z => (by exact q_in (by omega) (by omega) : inB (nI k) 10 = true)), q_cl (by omega), (h.2 k hk).2.2, q_bd]
    have e : popc s - 1 = (popc (bd s (2 ^ k)) - 1) + 1 := by omega
    rw [e]
    let g : Nat → Nat := fun j => if (bd s (2 ^ k)).testBit j && !eF P hs k j then bg (eF P hs) n (popc (bd s (2 ^ k)) - 1) (bd s (2 ^ k)) j else 0
    show _ = some (nI (sumN g n), M)
    refine hr_for (σ := Int32) (fun f j x => f_X1_ordersBegunBy_32 (nI s) (nI k) f (nI (bd s (2 ^ k))) (nI (bd (bd s (2 ^ k)) (bset (eF P hs k) n))) x (nI j) M) n (fun j x => x = nI (sumN g j)) (fun r => r = some (nI (sumN g n), M)) ?_ ?_ FU 0 0 (Nat.zero_le _) (FU_ok (by omega)) rfl
    · rintro f j x hj rfl
      right
      refine ⟨_, ?_, rfl⟩
      have bl2 := bd_le (bd s (2 ^ k)) (bset (eF P hs k) n)
      have eb : (bd (bd s (2 ^ k)) (bset (eF P hs k) n)).testBit j = ((bd s (2 ^ k)).testBit j && !eF P hs k j) := by
        rw [bd_bit, bset_bit, decide_eq_true hj]
        rfl
      have eg : sumN g (j + 1) = sumN g j + (if (bd s (2 ^ k)).testBit j && !eF P hs k j then bg (eF P hs) n (popc (bd s (2 ^ k)) - 1) (bd s (2 ^ k)) j else 0) := rfl
      show f_X1_ordersBegunBy_32 (nI s) (nI k) (f + 1) (nI (bd s (2 ^ k))) (nI (bd (bd s (2 ^ k)) (bset (eF P hs k) n))) _ (nI j) M = _
      rw [f_X1_ordersBegunBy_32.eq_2, s_holdsBit M (by omega) (by omega), eb, eg]
      simp (disch := omega) only [q_lit, q_m1, q_m2, q_m1000, q_add, q_mul, q_cl, q_le, q_lt, q_eq, q_in, q_bd_some, eq_self, if_true, if_false, q_b0, q_b1, q_b01, q_bt, q_bf, q_ft, q_tf, Nat.mul_zero, Nat.add_zero, Nat.zero_add, or_true, true_or, not_true_eq_false, not_false_eq_true, reduceCtorEq, h.1.2, show ¬ n ≤ j by omega]
      cases hq : ((bd s (2 ^ k)).testBit j && !eF P hs k j) with
      | false =>
        rw [if_pos rfl, if_neg (by simp)]
        rfl
      | true =>
        rw [Bool.and_eq_true] at hq
        rw [if_neg (by simp), if_pos rfl, hm _ b2 j hj hq.1, q_add]
    · rintro f x rfl
      show f_X1_ordersBegunBy_32 (nI s) (nI k) (f + 1) _ _ _ (nI n) M = _
      rw [f_X1_ordersBegunBy_32.eq_2]
      simp (disch := omega) only [q_lit, q_m1, q_m2, q_m1000, q_add, q_mul, q_cl, q_le, q_lt, q_eq, q_in, q_bd_some, eq_self, if_true, if_false, q_b0, q_b1, q_b01, q_bt, q_bf, q_ft, q_tf, Nat.mul_zero, Nat.add_zero, Nat.zero_add, or_true, true_or, not_true_eq_false, not_false_eq_true, reduceCtorEq, h.1.2, Nat.le_refl]
theorem s_lineUp12 {M0 M : PM} (h : cK M0 P n hs nu) (hf0 : hr_fr [(244, 0)] M0 M) {s : Nat} (h1 : 1 ≤ s) (h2 : s < 2 ^ n) (k2 : Int32 → PM → Option (Unit × PM)) (hm : mkB M (eF P hs) n s) : ∃ M', f_X1_lineUp_12 k2 FU (nI s) (nI 0) M = k2 (nI (s + 1)) M' ∧ mkB M' (eF P hs) n (s + 1) ∧ hr_fr [(244, 0)] M0 M' := by
  have h10 := h.1.1
  have h3 : 2 ^ n ≤ 2 ^ 10 := Nat.pow_le_pow_right (by decide) h10
  refine hr_for (σ := PM) (fun f k N => f_X1_lineUp_12 k2 f (nI s) (nI k) N) n (fun k N => (mkB N (eF P hs) n s ∧ ∀ j, j < k → s.testBit j = true → N.1 244 (10 * s + j) = nI (bg (eF P hs) n (popc s - 1) s j)) ∧ hr_fr [(244, 0)] M0 N) (fun r => ∃ M', r = k2 (nI (s + 1)) M' ∧ mkB M' (eF P hs) n (s + 1) ∧ hr_fr [(244, 0)] M0 M') ?_ ?_ FU 0 M (Nat.zero_le _) (FU_ok (by omega)) ⟨⟨hm, fun j hj => by omega⟩, hf0⟩
  · rintro f k N hk ⟨⟨hm, hj⟩, hf⟩
    right
    have hK : cK N P n hs nu := h.fr hf rfl (fun _ => rfl) (fun _ => rfl) (fun _ => rfl)
    show ∃ s', f_X1_lineUp_12 k2 (f + 1) (nI s) (nI k) N = f_X1_lineUp_12 k2 f (nI s) (nI (k + 1)) s' ∧ _
    rw [f_X1_lineUp_12.eq_2]
    simp (disch := omega) only [q_lit, q_m1, q_m2, q_m1000, q_add, q_mul, q_cl, q_le, q_lt, q_eq, q_in, q_bd_some, eq_self, if_true, if_false, q_b0, q_b1, q_b01, q_bt, q_bf, q_ft, q_tf, Nat.mul_zero, Nat.add_zero, Nat.zero_add, or_true, true_or, not_true_eq_false, not_false_eq_true, reduceCtorEq, hK.1.2, show ¬ n ≤ k by omega, s_holdsBit]
    cases hb : s.testBit k with
    | false =>
      rw [if_pos rfl]
      refine ⟨N, rfl, ⟨hm, ?_⟩, hf⟩
      intro j hj2 hbj
      by_cases e : j = k
      · rw [e, hb] at hbj; cases hbj
      · exact hj j (by omega) hbj
    | true =>
      rw [if_neg (by simp), s_begunBy hK h2 hk hb hm, q_bd_some]
      refine ⟨_, rfl, ⟨?_, ?_⟩, hr_fr.si rfl hf⟩
      · intro t ht j hj2 hbj
        rw [si_same, if_neg (by omega)]
        exact hm t ht j hj2 hbj
      · intro j hj2 hbj
        rw [si_same]
        by_cases e : j = k
        · rw [e, if_pos rfl]
        · rw [if_neg (by omega)]
          exact hj j (by omega) hbj
  · rintro f N ⟨⟨hm, hj⟩, hf⟩
    have hK : cK N P n hs nu := h.fr hf rfl (fun _ => rfl) (fun _ => rfl) (fun _ => rfl)
    show ∃ M', f_X1_lineUp_12 k2 (f + 1) (nI s) (nI n) N = _ ∧ _
    rw [f_X1_lineUp_12.eq_2]
    simp (disch := omega) only [q_lit, q_m1, q_m2, q_m1000, q_add, q_mul, q_cl, q_le, q_lt, q_eq, q_in, q_bd_some, eq_self, if_true, if_false, q_b0, q_b1, q_b01, q_bt, q_bf, q_ft, q_tf, Nat.mul_zero, Nat.add_zero, Nat.zero_add, or_true, true_or, not_true_eq_false, not_false_eq_true, reduceCtorEq, hK.1.2, Nat.le_refl]
    refine ⟨N, rfl, ?_, hf⟩
    intro t ht j hj2 hbj
    by_cases e : t = s
    · subst e; exact hj j hj2 hbj
    · exact hm t (by omega) j hj2 hbj
/-- it is lined up -/
def ldn (M : PM) (E : Nat → Nat → Bool) (n : Nat) (nu : Nat → Nat) : Prop := M.1 240 7 = nI (orS E n) ∧ M.1 240 6 = nI (if 0 < orS E n then n else 0) ∧ ∀ k, k < n → 0 < orS E n → M.1 245 k = nI (nu (odN E n k))
theorem s_leastBeginner {M : PM} (h : cK M P n hs nu) (hm : mkB M (eF P hs) n (2 ^ n)) {left w : Nat} (hl : left < 2 ^ n) (hw : sub2 w left) : f_X1_leastBeginner (nI left) (nI w) M = some (ocI (chS (eF P hs) n left w), M) := by
  have h10 := h.1.1
  have h3 : 2 ^ n ≤ 2 ^ 10 := Nat.pow_le_pow_right (by decide) h10
  have hwl := hw.le
  have hf9 : popc left - 1 ≤ 9 := by have := popc_le left; omega
  unfold f_X1_leastBeginner chS
  refine hr_for (σ := Unit) (fun f k _ => f_X1_leastBeginner_2 (nI left) (nI w) f (nI k) M) n (fun k _ => fst1 (fun k => w.testBit k && decide (0 < bg (eF P hs) n (popc left - 1) left k)) k = none) (fun r => r = some (ocI (fst1 (fun k => w.testBit k && decide (0 < bg (eF P hs) n (popc left - 1) left k)) n), M)) ?_ ?_ FU 0 () (Nat.zero_le _) (FU_ok (by omega)) rfl
  · intro f k _ hk hno
    show f_X1_leastBeginner_2 (nI left) (nI w) (f + 1) (nI k) M = _ ∨ ∃ _ : Unit, f_X1_leastBeginner_2 (nI left) (nI w) (f + 1) (nI k) M = f_X1_leastBeginner_2 (nI left) (nI w) f (nI (k + 1)) M ∧ _
    rw [f_X1_leastBeginner_2.eq_2]
    simp (disch := omega) only [q_lit, q_m1, q_m2, q_m1000, q_add, q_mul, q_cl, q_le, q_lt, q_eq, q_in, q_bd_some, eq_self, if_true, if_false, q_b0, q_b1, q_b01, q_bt, q_bf, q_ft, q_tf, Nat.mul_zero, Nat.add_zero, Nat.zero_add, or_true, true_or, not_true_eq_false, not_false_eq_true, reduceCtorEq, h.1.2, show ¬ n ≤ k by omega, s_holdsBit]
    cases hb : w.testBit k with
    | false =>
      right
      rw [if_pos rfl]
      exact ⟨(), rfl, fst1_no hno (by rw [hb]; rfl)⟩
    | true =>
      have hb2 := hw k hb
      have hp : 0 < popc left := Nat.pos_of_ne_zero (fun z => by
        rw [popc_0 (by omega)] at z
        rw [z, Nat.zero_testBit] at hb2
        cases hb2)
      have hbl := Nat.le_trans (bg_le (E := eF P hs) h10 (popc left - 1) left k hl (by omega) hb2) (fac_9 hf9)
      rw [if_neg (by simp), hm left hl k hk hb2]
      by_cases h0 : bg (eF P hs) n (popc left - 1) left k ≤ 0
      · right
        rw [if_pos ((q_le (by omega) (by omega)).mpr h0)]
        exact ⟨(), rfl, fst1_no hno (by rw [hb, decide_eq_false (by omega)]; rfl)⟩
      · left
        rw [if_neg (fun z => h0 ((q_le (by omega) (by omega)).mp z)), fst1_hit hno (by rw [hb, decide_eq_true (by omega)]; rfl) hk]
        rfl
  · intro f _ hno
    show f_X1_leastBeginner_2 (nI left) (nI w) (f + 1) (nI n) M = _
    rw [f_X1_leastBeginner_2.eq_2]
    simp (disch := omega) only [q_lit, q_m1, q_m2, q_m1000, q_add, q_mul, q_cl, q_le, q_lt, q_eq, q_in, q_bd_some, eq_self, if_true, if_false, q_b0, q_b1, q_b01, q_bt, q_bf, q_ft, q_tf, Nat.mul_zero, Nat.add_zero, Nat.zero_add, or_true, true_or, not_true_eq_false, not_false_eq_true, reduceCtorEq, h.1.2, Nat.le_refl]
    rw [hno]
    rfl
theorem s_firstOrder {M0 : PM} (h : cK M0 P n hs nu) (hm : mkB M0 (eF P hs) n (2 ^ n)) (ho : M0.1 240 7 = nI (orS (eF P hs) n)) : ∃ M', f_X1_findFirstOrder M0 = some ((), M') ∧ ldn M' (eF P hs) n nu ∧ hr_fr [(240, 7), (245, 0)] M0 M' := by
  have h10 := h.1.1
  have h2 : 1 ≤ 2 ^ n := Nat.one_le_two_pow
  have h3 : 2 ^ n ≤ 2 ^ 10 := Nat.pow_le_pow_right (by decide) h10
  have hor := orS_le (eF P hs) h10
  unfold f_X1_findFirstOrder
  have hf1 : hr_fr [(240, 7), (245, 0)] M0 (hr_si M0 240 6 (nI 0)) := hr_fr.si rfl (hr_fr.rf _ _)
  have hK1 : cK (hr_si M0 240 6 (nI 0)) P n hs nu := h.fr hf1 rfl (fun _ => rfl) (fun _ => rfl) (fun _ => rfl)
  rw [show hr_si M0 240 6 0 = hr_si M0 240 6 (nI 0) from rfl, s_everyone hK1, q_bd_some]
  by_cases h0 : 0 < orS (eF P hs) n
  · have od := od_ok h10 h0
    refine hr_for (σ := PM) (fun f i N => f_X1_findFirstOrder_14 f (nI (odS (eF P hs) n i).1) (nI (odS (eF P hs) n i).2) (nI i) N) n (fun i N => (N.1 240 6 = nI i ∧ ∀ k, k < i → N.1 245 k = nI (nu (odN (eF P hs) n k))) ∧ hr_fr [(240, 7), (245, 0)] M0 N) (fun r => ∃ M', r = some ((), M') ∧ ldn M' (eF P hs) n nu ∧ hr_fr [(240, 7), (245, 0)] M0 M') ?_ ?_ FU 0 _ (Nat.zero_le _) (FU_ok (by omega)) ⟨⟨by rw [si_same, if_pos rfl], fun k hk => by omega⟩, hf1⟩
    · rintro f i N hi ⟨⟨e6, e5⟩, hf⟩
      right
      have hK : cK N P n hs nu := h.fr hf rfl (fun _ => rfl) (fun _ => rfl) (fun _ => rfl)
      have hmN : mkB N (eF P hs) n (2 ^ n) := fun s hs1 j hj hb => (hf.at 244 _ rfl).trans (hm s hs1 j hj hb)
      have e7 : N.1 240 7 = nI (orS (eF P hs) n) := (hf.at 240 7 rfl).trans ho
      obtain ⟨o1, o2, o3, o4, o5, o6, o7⟩ := od i hi
      have ol := s_leastBeginner hK hmN o1 o3
      rw [o4] at ol
      have e : odS (eF P hs) n (i + 1) = (bd (odS (eF P hs) n i).1 (2 ^ odN (eF P hs) n i), bd (bd (odS (eF P hs) n i).1 (2 ^ odN (eF P hs) n i)) (bset (eF P hs (odN (eF P hs) n i)) n)) := by
        show (match chS (eF P hs) n (odS (eF P hs) n i).1 (odS (eF P hs) n i).2 with | none => odS (eF P hs) n i | some k => (bd (odS (eF P hs) n i).1 (2 ^ k), bd (bd (odS (eF P hs) n i).1 (2 ^ k)) (bset (eF P hs k) n))) = _
        rw [o4]
      generalize hz : odN (eF P hs) n i = z at *
      have ez := hK.2 z o5
      show ∃ s', f_X1_findFirstOrder_14 (f + 1) (nI (odS (eF P hs) n i).1) (nI (odS (eF P hs) n i).2) (nI i) N = f_X1_findFirstOrder_14 f (nI (odS (eF P hs) n (i + 1)).1) (nI (odS (eF P hs) n (i + 1)).2) (nI (i + 1)) s' ∧ _
      rw [f_X1_findFirstOrder_14.eq_2, e]
      dsimp only
      have q3 : ∀ v u, (hr_si (hr_si N 245 i v) 240 6 u).1 243 z = nI (bset (eF P hs z) n) := fun v u => by
        rw [si_ne _ _ _ (show 243 ≠ 240 by omega), si_ne _ _ _ (show 243 ≠ 245 by omega)]
        exact ez.2.2
      have q6 : ∀ v, (hr_si N 245 i v).1 240 6 = nI i := fun v => by
        rw [si_ne _ _ _ (show 240 ≠ 245 by omega)]
        exact e6
      simp (disch := omega) only [q_lit, q_m1, q_m2, q_m1000, q_add, q_mul, q_cl, q_le, q_lt, q_eq, q_in, q_bd_some, eq_self, if_true, if_false, q_b0, q_b1, q_b01, q_bt, q_bf, q_ft, q_tf, Nat.mul_zero, Nat.add_zero, Nat.zero_add, or_true, true_or, not_true_eq_false, not_false_eq_true, reduceCtorEq, hK.1.2, show ¬ n ≤ i by omega, e7, show ¬ orS (eF P hs) n ≤ 0 by omega, ol, ocI, q_nzeq, show ¬ ((z : Nat) : Int) = -1 by omega, e6, ez.2.1, q6, q3, q_jl, q_bd]
      refine ⟨_, rfl, ⟨by rw [si_same, if_pos rfl], ?_⟩, hr_fr.si rfl (hr_fr.si rfl hf)⟩
      intro k hk
      rw [si_ne _ _ _ (show 245 ≠ 240 by omega), si_same]
      by_cases ek : k = i
      · rw [if_pos ek, ek, hz]
      · rw [if_neg ek]
        exact e5 k (by omega)
    · rintro f N ⟨⟨e6, e5⟩, hf⟩
      have hK : cK N P n hs nu := h.fr hf rfl (fun _ => rfl) (fun _ => rfl) (fun _ => rfl)
      show ∃ M', f_X1_findFirstOrder_14 (f + 1) _ _ (nI n) N = _ ∧ _
      rw [f_X1_findFirstOrder_14.eq_2]
      simp (disch := omega) only [q_lit, q_m1, q_m2, q_m1000, q_add, q_mul, q_cl, q_le, q_lt, q_eq, q_in, q_bd_some, eq_self, if_true, if_false, q_b0, q_b1, q_b01, q_bt, q_bf, q_ft, q_tf, Nat.mul_zero, Nat.add_zero, Nat.zero_add, or_true, true_or, not_true_eq_false, not_false_eq_true, reduceCtorEq, hK.1.2, Nat.le_refl]
      exact ⟨N, rfl, ⟨(hf.at 240 7 rfl).trans ho, by rw [if_pos h0]; exact e6, fun k hk _ => e5 k hk⟩, hf⟩
  · have e7 : (hr_si M0 240 6 (nI 0)).1 240 7 = nI 0 := by
      rw [si_same, if_neg (by omega), ho, show orS (eF P hs) n = 0 by omega]
    refine ⟨hr_si M0 240 6 (nI 0), ?_, ⟨by rw [e7, show orS (eF P hs) n = 0 by omega], by rw [if_neg h0, si_same, if_pos rfl], fun k _ hk => absurd hk h0⟩, hf1⟩
    show f_X1_findFirstOrder_14 (3999 + 1) _ _ (nI 0) _ = _
    rw [f_X1_findFirstOrder_14.eq_2, hK1.1.2, e7]
    by_cases hn0 : n ≤ 0
    · rw [if_pos ((q_le (by omega) (by omega)).mpr hn0)]
    · rw [if_neg (fun z => hn0 ((q_le (by omega) (by omega)).mp z)), if_pos (show nI 0 ≤ 0 by decide)]
theorem s_lineUp {M0 : PM} (h : cK M0 P n hs nu) : ∃ M', f_X1_lineUp M0 = some ((), M') ∧ ldn M' (eF P hs) n nu ∧ hr_fr hW_X1_lineUp M0 M' := by
  have h10 := h.1.1
  have h2 : 1 ≤ 2 ^ n := Nat.one_le_two_pow
  have h3 : 2 ^ n ≤ 2 ^ 10 := Nat.pow_le_pow_right (by decide) h10
  have hor := orS_le (eF P hs) h10
  unfold f_X1_lineUp
  refine hr_for (σ := PM) (fun f s N => f_X1_lineUp_2 f (nI s) N) (2 ^ n) (fun s N => (1 ≤ s ∧ mkB N (eF P hs) n s) ∧ hr_fr [(244, 0)] M0 N) (fun r => ∃ M', r = some ((), M') ∧ ldn M' (eF P hs) n nu ∧ hr_fr hW_X1_lineUp M0 M') ?_ ?_ FU 1 M0 h2 (FU_ok (by omega)) ⟨⟨Nat.le_refl _, fun s hs1 j _ hb => by rw [show s = 0 by omega, Nat.zero_testBit] at hb; cases hb⟩, hr_fr.rf _ _⟩
  · rintro f s N hs2 ⟨⟨hs1, hm⟩, hf⟩
    right
    have hK : cK N P n hs nu := h.fr hf rfl (fun _ => rfl) (fun _ => rfl) (fun _ => rfl)
    obtain ⟨N', g1, g2, g3⟩ := s_lineUp12 h hf hs1 hs2 (fun x1 M => f_X1_lineUp_2 f x1 M) hm
    show ∃ s', f_X1_lineUp_2 (f + 1) (nI s) N = f_X1_lineUp_2 f (nI (s + 1)) s' ∧ _
    rw [f_X1_lineUp_2.eq_2]
    simp (disch := omega) only [q_lit, q_m1, q_m2, q_m1000, q_add, q_mul, q_cl, q_le, q_lt, q_eq, q_in, q_bd_some, eq_self, if_true, if_false, q_b0, q_b1, q_b01, q_bt, q_bf, q_ft, q_tf, Nat.mul_zero, Nat.add_zero, Nat.zero_add, or_true, true_or, not_true_eq_false, not_false_eq_true, reduceCtorEq, s_everyone hK, show ¬ 2 ^ n - 1 < s by omega]
    rw [g1]
    exact ⟨N', rfl, ⟨by omega, g2⟩, g3⟩
  · rintro f N ⟨⟨hs1, hm⟩, hf⟩
    have hK : cK N P n hs nu := h.fr hf rfl (fun _ => rfl) (fun _ => rfl) (fun _ => rfl)
    have part : ∀ M1, hr_fr hW_X1_lineUp M0 M1 → mkB M1 (eF P hs) n (2 ^ n) → M1.1 240 7 = nI (if n = 0 then 1 else 0) → ∃ M', f_X1_lineUp_75 FU (nI 0) M1 = some ((), M') ∧ ldn M' (eF P hs) n nu ∧ hr_fr hW_X1_lineUp M0 M' := by
      intro M1 hf1 hm1 h7
      refine hr_for (σ := PM) (fun f k N => f_X1_lineUp_75 f (nI k) N) n (fun k N => (mkB N (eF P hs) n (2 ^ n) ∧ N.1 240 7 = nI ((if n = 0 then 1 else 0) + sumN (bg (eF P hs) n (n - 1) (2 ^ n - 1)) k)) ∧ hr_fr hW_X1_lineUp M0 N) (fun r => ∃ M', r = some ((), M') ∧ ldn M' (eF P hs) n nu ∧ hr_fr hW_X1_lineUp M0 M') ?_ ?_ FU 0 M1 (Nat.zero_le _) (FU_ok (by omega)) ⟨⟨hm1, h7⟩, hf1⟩
      · rintro f k N hk ⟨⟨hm, h7⟩, hf⟩
        right
        have hK : cK N P n hs nu := h.fr hf rfl (fun _ => rfl) (fun _ => rfl) (fun _ => rfl)
        have e4 := hm (2 ^ n - 1) (by omega) k hk (by rw [all_bit, decide_eq_true hk])
        rw [popc_all h10] at e4
        show ∃ s', f_X1_lineUp_75 (f + 1) (nI k) N = f_X1_lineUp_75 f (nI (k + 1)) s' ∧ _
        rw [f_X1_lineUp_75.eq_2]
        simp (disch := omega) only [q_lit, q_m1, q_m2, q_m1000, q_add, q_mul, q_cl, q_le, q_lt, q_eq, q_in, q_bd_some, eq_self, if_true, if_false, q_b0, q_b1, q_b01, q_bt, q_bf, q_ft, q_tf, Nat.mul_zero, Nat.add_zero, Nat.zero_add, or_true, true_or, not_true_eq_false, not_false_eq_true, reduceCtorEq, hK.1.2, show ¬ n ≤ k by omega, s_everyone hK, e4, h7]
        refine ⟨_, rfl, ⟨?_, ?_⟩, hr_fr.si rfl hf⟩
        · intro s hs1 j hj hb
          rw [si_ne _ _ _ (show 244 ≠ 240 by omega)]
          exact hm s hs1 j hj hb
        · rw [si_same, if_pos rfl, Nat.add_assoc]
          rfl
      · rintro f N ⟨⟨hm, h7⟩, hf⟩
        have hK : cK N P n hs nu := h.fr hf rfl (fun _ => rfl) (fun _ => rfl) (fun _ => rfl)
        obtain ⟨N', g1, g2, g3⟩ := s_firstOrder hK hm h7
        show ∃ M', f_X1_lineUp_75 (f + 1) (nI n) N = _ ∧ _
        rw [f_X1_lineUp_75.eq_2]
        simp (disch := omega) only [q_lit, q_m1, q_m2, q_m1000, q_add, q_mul, q_cl, q_le, q_lt, q_eq, q_in, q_bd_some, eq_self, if_true, if_false, q_b0, q_b1, q_b01, q_bt, q_bf, q_ft, q_tf, Nat.mul_zero, Nat.add_zero, Nat.zero_add, or_true, true_or, not_true_eq_false, not_false_eq_true, reduceCtorEq, hK.1.2, Nat.le_refl, g1]
        exact ⟨N', rfl, g2, hf.tr (hr_fr.mono rfl g3)⟩
    show ∃ M', f_X1_lineUp_2 (f + 1) (nI (2 ^ n)) N = _ ∧ _
    rw [f_X1_lineUp_2.eq_2]
    have hf' : ∀ v, hr_fr hW_X1_lineUp M0 (hr_si N 240 7 v) := fun v => hr_fr.si rfl (hr_fr.mono rfl hf)
    have hm' : ∀ v, mkB (hr_si N 240 7 v) (eF P hs) n (2 ^ n) := fun v s hs1 j hj hb => by
      rw [si_ne _ _ _ (show 244 ≠ 240 by omega)]
      exact hm s hs1 j hj hb
    simp (disch := omega) only [q_lit, q_m1, q_m2, q_m1000, q_add, q_mul, q_cl, q_le, q_lt, q_eq, q_in, q_bd_some, eq_self, if_true, if_false, q_b0, q_b1, q_b01, q_bt, q_bf, q_ft, q_tf, Nat.mul_zero, Nat.add_zero, Nat.zero_add, or_true, true_or, not_true_eq_false, not_false_eq_true, reduceCtorEq, s_everyone hK, show 2 ^ n - 1 < 2 ^ n by omega, hK.1.2]
    by_cases hn0 : n = 0
    · rw [if_pos hn0]
      exact part _ (hf' _) (hm' _) (by rw [si_same, if_pos rfl, if_pos hn0])
    · rw [if_neg hn0]
      exact part _ (hf' _) (hm' _) (by rw [si_same, if_pos rfl, if_neg hn0])
end CLS
