/-! A PALETTE COPIED: all that is found of it -/
theorem bset_or (p q : Nat → Bool) : ∀ n, bset p n ||| bset q n = bset (fun i => p i || q i) n := fun n => by
  apply Nat.eq_of_testBit_eq
  intro i
  rw [Nat.testBit_or, bset_bit, bset_bit, bset_bit]
  cases decide (i < n) <;> rfl
theorem nI_le0 {n : Nat} (h : n < 2147483648) : nI n ≤ 0 ↔ n = 0 := by
  have := q_le (a := n) (b := 0) h (by omega)
  exact this.trans (by omega)
section PALC
variable {M : PM} {a : Nat} {P : Pal}
theorem w_strengths (hP : pW M a P) : ∃ M', f_X4_findStrengths a M = some ((), M') ∧ rng (a + 4) (a + 5) M M' ∧ (∀ x y, x < pH P → y < pH P → M'.1 (a + 4) (10 * x + y) = nI (strH P x y)) ∧ ∀ x, x < pH P → M'.1 (a + 5) x = nI (foes P x) := by
  have h10 := hP.1.2.1
  have h6 := hP.1.2.2.1
  unfold f_X4_findStrengths
  rw [if_pos hP.1.1, show (0 : Int32) = nI 0 from rfl]
  refine hr_for (σ := PM) (fun f i N => f_X4_findStrengths_2 a f (nI i) N) (pH P) (fun i N => rng (a + 4) (a + 5) M N ∧ (∀ x y, x < i → y < pH P → N.1 (a + 4) (10 * x + y) = nI (strH P x y)) ∧ ∀ x, x < i → N.1 (a + 5) x = nI (foes P x)) (fun r => ∃ M', r = some ((), M') ∧ rng (a + 4) (a + 5) M M' ∧ (∀ x y, x < pH P → y < pH P → M'.1 (a + 4) (10 * x + y) = nI (strH P x y)) ∧ ∀ x, x < pH P → M'.1 (a + 5) x = nI (foes P x)) ?_ ?_ FU 0 M (Nat.zero_le _) (FU_ok (by omega)) ⟨rng.rf _ _ _, fun x y h => by omega, fun x h => by omega⟩
  · rintro f i N hi ⟨hr, h1, h2⟩
    right
    show ∃ s', f_X4_findStrengths_2 a (f + 1) (nI i) N = f_X4_findStrengths_2 a f (nI (i + 1)) s' ∧ _
    rw [f_X4_findStrengths_2.eq_2, (hP.rng hr (by omega)).2.1.1, if_neg (fun y => by have := (q_le (by omega) (by omega)).mp y; omega), if_pos (q_in (by omega) (by omega)), q_cl (by omega), show (0 : Int32) = nI 0 from rfl]
    generalize hk : (fun x1 M => f_X4_findStrengths_2 a f x1 M) = k2
    have ek : ∀ n N, k2 (nI n) N = f_X4_findStrengths_2 a f (nI n) N := fun n N => by rw [← hk]
    refine hr_for (σ := PM) (fun f2 j N2 => f_X4_findStrengths_19 a k2 f2 (nI i) (nI j) N2) (pH P) (fun j N2 => rng (a + 4) (a + 5) M N2 ∧ (∀ x y, (x < i ∧ y < pH P) ∨ (x = i ∧ y < j) → N2.1 (a + 4) (10 * x + y) = nI (strH P x y)) ∧ (∀ x, x < i → N2.1 (a + 5) x = nI (foes P x)) ∧ N2.1 (a + 5) i = nI (bset (foe P i) j)) (fun r => ∃ s', r = f_X4_findStrengths_2 a f (nI (i + 1)) s' ∧ rng (a + 4) (a + 5) M s' ∧ (∀ x y, x < i + 1 → y < pH P → s'.1 (a + 4) (10 * x + y) = nI (strH P x y)) ∧ ∀ x, x < i + 1 → s'.1 (a + 5) x = nI (foes P x)) ?_ ?_ FU 0 _ (Nat.zero_le _) (FU_ok (by omega)) ⟨hr.si (by omega) (by omega) _ _, fun x y h => by rw [si_ne _ _ _ (by omega)]; exact h1 x y (by omega) (by omega), fun x h => by rw [si_same, if_neg (by omega)]; exact h2 x h, by rw [si_same, if_pos rfl]; rfl⟩
    · rintro f2 j N2 hj ⟨i1, i2, i3, i4⟩
      right
      have hP2 : pW N2 a P := hP.rng i1 (by omega)
      have sle := strH_le P i j
      have bl := bset_lt10 (foe P i) (n := j) (by omega)
      -- whatever is set there goes on
      have e42 : f_X4_findStrengths_42 a k2 (fun x1 x2 M => f_X4_findStrengths_19 a k2 f2 x1 x2 M) (nI i) (nI j) (nI (strH P i j)) N2 = f_X4_findStrengths_19 a k2 f2 (nI i) (nI (j + 1)) (if strH P i j = 0 then hr_si N2 (a + 4) (10 * i + j) (nI (strH P i j)) else hr_si (hr_si N2 (a + 4) (10 * i + j) (nI (strH P i j))) (a + 5) i (nI (bset (foe P i) j ||| 2 ^ j))) := by
        unfold f_X4_findStrengths_42
        rw [q_lit 10, gO 10, q_mul, q_add, if_pos (q_in (by omega) (by omega)), q_cl (by omega), q_lit 1, gO 1, q_add]
        by_cases z : strH P i j = 0
        · rw [if_pos ((nI_le0 (by omega)).mpr z), if_pos z]
        · rw [if_neg (fun w => z ((nI_le0 (by omega)).mp w)), if_neg z, if_pos (q_in (by omega) (by omega)), if_pos (q_in (by omega) (by omega)), q_cl (by omega), si_ne _ _ _ (show a + 5 ≠ a + 4 by omega), i4, q_jl (by omega), q_or]
      have e19 : f_X4_findStrengths_19 a k2 (f2 + 1) (nI i) (nI j) N2 = f_X4_findStrengths_42 a k2 (fun x1 x2 M => f_X4_findStrengths_19 a k2 f2 x1 x2 M) (nI i) (nI j) (nI (strH P i j)) N2 := by
        rw [f_X4_findStrengths_19.eq_2, hP2.2.1.1, if_neg (fun y => by have := (q_le (by omega) (by omega)).mp y; omega)]
        by_cases z : i = j
        · have e0 : strH P i j = 0 := by unfold strH; rw [if_pos z]
          rw [if_pos (show nI i = nI j by rw [z]), e0]
          rfl
        · have e0 : strH P i j = str0 P (rho P i j) := by unfold strH; rw [if_neg z]
          rw [if_neg (fun w => z ((q_eq (by omega) (by omega)).mp w)), w_strength hP2 hi hj, q_bd_some, e0]
      show ∃ s', f_X4_findStrengths_19 a k2 (f2 + 1) (nI i) (nI j) N2 = f_X4_findStrengths_19 a k2 f2 (nI i) (nI (j + 1)) s' ∧ _
      rw [e19, e42]
      refine ⟨_, rfl, ?_, ?_, ?_, ?_⟩
      · split
        · exact i1.si (by omega) (by omega) _ _
        · exact (i1.si (by omega) (by omega) _ _).si (by omega) (by omega) _ _
      · intro x y h
        have e4 : (if strH P i j = 0 then hr_si N2 (a + 4) (10 * i + j) (nI (strH P i j)) else hr_si (hr_si N2 (a + 4) (10 * i + j) (nI (strH P i j))) (a + 5) i (nI (bset (foe P i) j ||| 2 ^ j))).1 (a + 4) (10 * x + y) = (hr_si N2 (a + 4) (10 * i + j) (nI (strH P i j))).1 (a + 4) (10 * x + y) := by
          split
          · rfl
          · rw [si_ne _ _ _ (show a + 4 ≠ a + 5 by omega)]
        rw [e4, si_same]
        by_cases z : 10 * x + y = 10 * i + j
        · rw [if_pos z]
          have : x = i := by omega
          have : y = j := by omega
          subst_vars
          rfl
        · rw [if_neg z]; exact i2 x y (by omega)
      · intro x h
        have e4 : (if strH P i j = 0 then hr_si N2 (a + 4) (10 * i + j) (nI (strH P i j)) else hr_si (hr_si N2 (a + 4) (10 * i + j) (nI (strH P i j))) (a + 5) i (nI (bset (foe P i) j ||| 2 ^ j))).1 (a + 5) x = N2.1 (a + 5) x := by
          split
          · rw [si_ne _ _ _ (show a + 5 ≠ a + 4 by omega)]
          · rw [si_same, if_neg (by omega), si_ne _ _ _ (show a + 5 ≠ a + 4 by omega)]
        rw [e4]
        exact i3 x h
      · have eb : bset (foe P i) (j + 1) = bset (foe P i) j ||| (if foe P i j then 2 ^ j else 0) := rfl
        by_cases z : strH P i j = 0
        · rw [if_pos z, si_ne _ _ _ (show a + 5 ≠ a + 4 by omega), i4, eb, show foe P i j = false from decide_eq_false (by omega), if_neg (by simp), Nat.or_zero]
        · rw [if_neg z, si_same, if_pos rfl, eb, show foe P i j = true from decide_eq_true (by omega), if_pos rfl]
    · rintro f2 N2 ⟨i1, i2, i3, i4⟩
      show ∃ s', f_X4_findStrengths_19 a k2 (f2 + 1) (nI i) (nI (pH P)) N2 = f_X4_findStrengths_2 a f (nI (i + 1)) s' ∧ _
      rw [f_X4_findStrengths_19.eq_2, (hP.rng i1 (by omega)).2.1.1, if_pos (Int32.le_refl _), q_lit 1, gO 1, q_add, ek]
      refine ⟨N2, rfl, i1, fun x y h h2 => i2 x y (by omega), fun x h => ?_⟩
      by_cases z : x = i
      · rw [z, i4]; rfl
      · exact i3 x (by omega)
  · rintro f N ⟨hr, h1, h2⟩
    show ∃ M', f_X4_findStrengths_2 a (f + 1) (nI (pH P)) N = _ ∧ _
    rw [f_X4_findStrengths_2.eq_2, (hP.rng hr (by omega)).2.1.1, if_pos (Int32.le_refl _)]
    exact ⟨N, rfl, hr, h1, h2⟩
/-- the holders that a rule adds -/
theorem w_addHolders (hP : pW M a P) {c n off top : Nat} (hc : a + 3 < c) (hK : hr_K c = 12) (hn : c < hr_n) (hN : hr_N c = n) (hn30 : n ≤ 30) (hot : off + top < n) (ht27 : top ≤ 27) {s x y : Int} (hs : 0 ≤ s ∧ s ≤ 4) (hx : 0 ≤ x ∧ x ≤ 54) (hy : -1 ≤ y ∧ y ≤ 54) {g : Nat → Nat} (hg : ∀ i, i < n → M.1 c i = nI (g i)) : ∃ M', f_X4_addHolders a c (nI off) (nI top) (zI s) (zI x) (zI y) M = some ((), M') ∧ rng c c M M' ∧ ∀ i, i < n → M'.1 c i = nI (g i ||| (if off ≤ i ∧ i ≤ off + top then bset (fun h => tch s x y (mea P h s x) ((i - off : Nat) : Int)) (pH P) else 0)) := by
  have h10 := hP.1.2.1
  unfold f_X4_addHolders
  rw [if_pos hP.1.1, if_pos ⟨hK, hn⟩, show (0 : Int32) = nI 0 from rfl]
  refine hr_for (σ := PM) (fun f h N => f_X4_addHolders_3 a c (nI off) (nI top) (zI s) (zI x) (zI y) f (nI h) N) (pH P) (fun h N => rng c c M N ∧ ∀ i, i < n → N.1 c i = nI (g i ||| (if off ≤ i ∧ i ≤ off + top then bset (fun h => tch s x y (mea P h s x) ((i - off : Nat) : Int)) h else 0))) (fun r => ∃ M', r = some ((), M') ∧ rng c c M M' ∧ ∀ i, i < n → M'.1 c i = nI (g i ||| (if off ≤ i ∧ i ≤ off + top then bset (fun h => tch s x y (mea P h s x) ((i - off : Nat) : Int)) (pH P) else 0))) ?_ ?_ FU 0 M (Nat.zero_le _) (FU_ok (by omega)) ⟨rng.rf _ _ _, fun i hi => by
    rw [hg i hi]
    congr 1
    split
    · exact (Nat.or_zero _).symm
    · exact (Nat.or_zero _).symm⟩
  · rintro f h N hh ⟨hr, hv⟩
    right
    have hP2 : pW N a P := hP.rng hr hc
    have m27 := mea_le hP.1.2 h s x
    show ∃ s', f_X4_addHolders_3 a c (nI off) (nI top) (zI s) (zI x) (zI y) (f + 1) (nI h) N = f_X4_addHolders_3 a c (nI off) (nI top) (zI s) (zI x) (zI y) f (nI (h + 1)) s' ∧ _
    rw [f_X4_addHolders_3.eq_2, hP2.2.1.1, if_neg (fun y => by have := (q_le (by omega) (by omega)).mp y; omega), w_measure hP2 hh hs hx, q_bd_some, show (0 : Int32) = nI 0 from rfl]
    generalize hk : (fun x7 M => f_X4_addHolders_3 a c (nI off) (nI top) (zI s) (zI x) (zI y) f x7 M) = k3
    have ek : ∀ n N, k3 (nI n) N = f_X4_addHolders_3 a c (nI off) (nI top) (zI s) (zI x) (zI y) f (nI n) N := fun n N => by rw [← hk]
    refine hr_for (σ := PM) (fun f2 t N2 => f_X4_addHolders_27 a c (nI off) (nI top) (zI s) (zI x) (zI y) k3 f2 (nI h) (nI (mea P h s x)) (nI t) N2) (top + 1) (fun t N2 => rng c c M N2 ∧ ∀ i, i < n → N2.1 c i = nI ((g i ||| (if off ≤ i ∧ i ≤ off + top then bset (fun h => tch s x y (mea P h s x) ((i - off : Nat) : Int)) h else 0)) ||| (if (off ≤ i ∧ i < off + t) ∧ tch s x y (mea P h s x) ((i - off : Nat) : Int) = true then 2 ^ h else 0))) (fun r => ∃ s', r = f_X4_addHolders_3 a c (nI off) (nI top) (zI s) (zI x) (zI y) f (nI (h + 1)) s' ∧ rng c c M s' ∧ ∀ i, i < n → s'.1 c i = nI (g i ||| (if off ≤ i ∧ i ≤ off + top then bset (fun h => tch s x y (mea P h s x) ((i - off : Nat) : Int)) (h + 1) else 0))) ?_ ?_ FU 0 N (Nat.zero_le _) (FU_ok (by omega)) ⟨hr, fun i hi => by rw [hv i hi, if_neg (show ¬ ((off ≤ i ∧ i < off + 0) ∧ tch s x y (mea P h s x) ((i - off : Nat) : Int) = true) by omega), Nat.or_zero]⟩
    · rintro f2 t N2 ht ⟨hr2, hv2⟩
      right
      show ∃ s', f_X4_addHolders_27 a c (nI off) (nI top) (zI s) (zI x) (zI y) k3 (f2 + 1) (nI h) (nI (mea P h s x)) (nI t) N2 = f_X4_addHolders_27 a c (nI off) (nI top) (zI s) (zI x) (zI y) k3 f2 (nI h) (nI (mea P h s x)) (nI (t + 1)) s' ∧ _
      rw [f_X4_addHolders_27.eq_2, if_neg (fun y => by have := (q_lt (by omega) (by omega)).mp y; omega), s_touches N2 hs hx hy m27 (by omega), q_bd_some, q_lit 1, gO 1, q_add, q_add, hN]
      cases hb : tch s x y (mea P h s x) (t : Int) with
      | false =>
        rw [if_pos (show bI false = 0 from rfl)]
        refine ⟨N2, rfl, hr2, fun i hi => ?_⟩
        rw [hv2 i hi]
        congr 2
        by_cases z : i = off + t
        · rw [if_neg (by omega), if_neg]
          intro w
          rw [show i - off = t by omega, hb] at w
          cases w.2
        · by_cases w : (off ≤ i ∧ i < off + t) ∧ tch s x y (mea P h s x) ((i - off : Nat) : Int) = true
          · rw [if_pos w, if_pos ⟨by omega, w.2⟩]
          · rw [if_neg w, if_neg (fun v => w ⟨by omega, v.2⟩)]
      | true =>
        rw [if_neg (show ¬ bI true = 0 by decide), if_pos (q_in (by omega) (by omega)), if_pos (q_in (by omega) (by omega)), q_cl (by omega), hv2 (off + t) (by omega), q_jl (by omega), q_or]
        refine ⟨_, rfl, hr2.si (Nat.le_refl _) (Nat.le_refl _) _ _, fun i hi => ?_⟩
        rw [si_same]
        by_cases z : i = off + t
        · subst z
          rw [if_pos rfl, if_neg (show ¬ ((off ≤ off + t ∧ off + t < off + t) ∧ tch s x y (mea P h s x) ((off + t - off : Nat) : Int) = true) by omega), Nat.or_zero, if_pos (show (off ≤ off + t ∧ off + t < off + (t + 1)) ∧ tch s x y (mea P h s x) ((off + t - off : Nat) : Int) = true from ⟨by omega, by rw [show off + t - off = t by omega]; exact hb⟩)]
        · rw [if_neg z, hv2 i hi]
          congr 2
          by_cases w : (off ≤ i ∧ i < off + t) ∧ tch s x y (mea P h s x) ((i - off : Nat) : Int) = true
          · rw [if_pos w, if_pos ⟨by omega, w.2⟩]
          · rw [if_neg w, if_neg (fun v => w ⟨by omega, v.2⟩)]
    · rintro f2 N2 ⟨hr2, hv2⟩
      show ∃ s', f_X4_addHolders_27 a c (nI off) (nI top) (zI s) (zI x) (zI y) k3 (f2 + 1) (nI h) (nI (mea P h s x)) (nI (top + 1)) N2 = f_X4_addHolders_3 a c (nI off) (nI top) (zI s) (zI x) (zI y) f (nI (h + 1)) s' ∧ _
      rw [f_X4_addHolders_27.eq_2, if_pos ((q_lt (by omega) (by omega)).mpr (by omega)), q_lit 1, gO 1, q_add, ek]
      refine ⟨N2, rfl, hr2, fun i hi => ?_⟩
      have eb : bset (fun h => tch s x y (mea P h s x) ((i - off : Nat) : Int)) (h + 1) = bset (fun h => tch s x y (mea P h s x) ((i - off : Nat) : Int)) h ||| (if tch s x y (mea P h s x) ((i - off : Nat) : Int) then 2 ^ h else 0) := rfl
      rw [hv2 i hi, eb]
      congr 1
      by_cases w : off ≤ i ∧ i ≤ off + top
      · rw [if_pos w, if_pos w, Nat.or_assoc]
        congr 2
        by_cases v : tch s x y (mea P h s x) ((i - off : Nat) : Int) = true
        · rw [if_pos v, if_pos ⟨by omega, v⟩]
        · rw [if_neg v, if_neg (fun u => v u.2)]
      · rw [if_neg w, if_neg w, if_neg (fun u => w ⟨u.1.1, by omega⟩), Nat.or_zero]
  · rintro f N ⟨hr, hv⟩
    show ∃ M', f_X4_addHolders_3 a c (nI off) (nI top) (zI s) (zI x) (zI y) (f + 1) (nI (pH P)) N = _ ∧ _
    rw [f_X4_addHolders_3.eq_2, (hP.rng hr hc).2.1.1, if_pos (Int32.le_refl _)]
    exact ⟨N, rfl, hr, hv⟩
end PALC
