/-! ROWS AND LOOMS, by the model -/
theorem lc0 {x : Nat} (h : x < 2147483648) : (lg_cmp (lN x) 0 = 0) = (x = 0) := propext (by
  rw [lg_cmp_eq]
  exact lN_eq (a := x) (b := 0) (by omega) (by omega))
/-- the model's crowd -/
def tK (M : PM) (P : Pal) (n : Nat) (hs : Nat → Nat) : Prop := (n ≤ 10 ∧ M.1 275 41 = nI n) ∧ ∀ k, k < n → M.1 296 k = nI (hs k) ∧ hs k < pH P
/-- a set's rest, and one of the set -/
def rsS (n s k : Nat) : Nat := bd (2 ^ n - 1) s ||| 2 ^ k
theorem rsS_bit {n s k i : Nat} : (rsS n s k).testBit i = ((decide (i < n) && !s.testBit i) || decide (k = i)) := by
  unfold rsS
  rw [Nat.testBit_or, bd_bit, all_bit, Nat.testBit_two_pow]
theorem rsS_rm {n s k : Nat} (hk : s.testBit k = true) : bd (rsS n s k) (2 ^ k) = bd (2 ^ n - 1) s := by
  apply Nat.eq_of_testBit_eq
  intro i
  rw [bd_bit, rsS_bit, bd_bit, all_bit, Nat.testBit_two_pow]
  by_cases e : k = i
  · subst e; rw [hk]; simp
  · rw [decide_eq_false e]; simp
theorem rsS_add {n s k : Nat} (hk : k < n) (hs : s.testBit k = false) : rsS n (s ||| 2 ^ k) k = bd (2 ^ n - 1) s := by
  apply Nat.eq_of_testBit_eq
  intro i
  rw [rsS_bit, bd_bit, all_bit, Nat.testBit_or, Nat.testBit_two_pow]
  by_cases e : k = i
  · subst e; rw [hs, decide_eq_true hk]; simp
  · rw [decide_eq_false e]; simp
theorem or_gt {s k : Nat} (hs : s.testBit k = false) : s < s ||| 2 ^ k := by
  apply Nat.lt_of_le_of_ne Nat.left_le_or
  intro z
  have : (s ||| 2 ^ k).testBit k = s.testBit k := by rw [← z]
  rw [Nat.testBit_or, hs, Nat.testBit_two_pow, decide_eq_true rfl] at this
  cases this
theorem popc_or {s k : Nat} (hs : s < 1024) (hk : k < 10) (h : s.testBit k = false) : popc (s ||| 2 ^ k) = popc s + 1 := by
  have h1 : (s ||| 2 ^ k).testBit k = true := by rw [Nat.testBit_or, Nat.testBit_two_pow, decide_eq_true rfl, Bool.or_true]
  have h2 := popc_rm (or_lt hs (pow_lt hk)) h1
  have e : bd (s ||| 2 ^ k) (2 ^ k) = s := by
    apply Nat.eq_of_testBit_eq
    intro i
    rw [bd_bit, Nat.testBit_or, Nat.testBit_two_pow]
    by_cases e : k = i
    · subst e; rw [h]; simp
    · rw [decide_eq_false e]; simp
  rw [e] at h2
  exact h2.symm
theorem cnt_not {p : Nat → Bool} (n : Nat) : cnt (fun i => !p i) n + cnt p n = n := by
  induction n with
  | zero => rfl
  | succ n ih =>
    show cnt _ n + (if !p n then 1 else 0) + (cnt p n + (if p n then 1 else 0)) = n + 1
    cases p n <;> simp <;> omega
theorem popc_co {n s : Nat} (hn : n ≤ 10) (hs : s < 2 ^ n) : popc (bd (2 ^ n - 1) s) + popc s = n := by
  have h2 : 1 ≤ 2 ^ n := Nat.one_le_two_pow
  rw [popc_n hn hs, popc_n hn (Nat.lt_of_le_of_lt (bd_le _ _) (show 2 ^ n - 1 < 2 ^ n by omega))]
  have e : cnt (fun i => (bd (2 ^ n - 1) s).testBit i) n = cnt (fun i => !s.testBit i) n := by
    apply cnt_congr
    intro k hk
    show (bd (2 ^ n - 1) s).testBit k = _
    rw [bd_bit, all_bit, decide_eq_true hk]
    rfl
  rw [e]
  exact cnt_not (p := fun i => s.testBit i) n
section MOD
variable {M0 : PM} {q : Nat} {P : Pal} {n : Nat} {hs : Nat → Nat}
/-- what stands behind is found of all sets from k on -/
def mkH (M : PM) (E : Nat → Nat → Bool) (n k : Nat) : Prop := ∀ s, k ≤ s → s < 2 ^ n → ∀ j, j < n → s.testBit j = true → M.2.1 297 (10 * s + j) = lN (bg E n (n - popc s) (rsS n s j) j)
theorem s_follows {M : PM} (hH : hM M q P) (h : tK M P n hs) {i k : Nat} (hi : i < n) (hk : k < n) : f_X11_follows (nI i) (nI k) M = some (bI (!eF P hs i k), M) := by
  have h10 := h.1.1
  obtain ⟨e1, l1⟩ := h.2 i hi
  obtain ⟨e2, l2⟩ := h.2 k hk
  unfold f_X11_follows
  simp (disch := omega) only [q_lit, q_m1, q_m2, q_m1000, q_add, q_mul, q_cl, q_le, q_lt, q_eq, q_in, q_bd_some, eq_self, if_true, if_false, q_b0, q_b1, q_b01, q_bt, q_bf, q_ft, q_tf, Nat.mul_zero, Nat.add_zero, Nat.zero_add, or_true, true_or, not_true_eq_false, not_false_eq_true, reduceCtorEq, e1, e2, s_clash hH l1 l2]
  rw [show foe P (hs i) (hs k) = eF P hs i k from rfl]
  cases eF P hs i k <;> rfl
theorem hM.sl {M : PM} (h : hM M q P) (a k : Nat) (v : Int64) : hM (hr_sl M a k v) q P := h
theorem tK.sl {M : PM} (h : tK M P n hs) (a k : Nat) (v : Int64) : tK (hr_sl M a k v) P n hs := h
theorem s_behind40 {M : PM} (hH : hM M q P) (h : tK M P n hs) {s l : Nat} (h1 : 1 ≤ s) (h2 : s < 2 ^ n) (hl : l < n) (hb : s.testBit l = true) (hm : mkH M (eF P hs) n (s + 1)) (k11 : Int32 → Int32 → PM → Option (Unit × PM)) (k17 : Int32 → Int32 → Int32 → PM → Option (Unit × PM)) (x1 : Int32) : f_X11_findBehind_40 k11 k17 FU x1 (nI s) (nI l) (lN (if s = 2 ^ n - 1 then 1 else 0)) (nI 0) M = k17 x1 (nI s) (nI (l + 1)) (hr_sl M 297 (10 * s + l) (lN (bg (eF P hs) n (n - popc s) (rsS n s l) l))) := by
  have h10 := h.1.1
  have h3 : 2 ^ n ≤ 2 ^ 10 := Nat.pow_le_pow_right (by decide) h10
  have hco := popc_co h10 h2
  let g : Nat → Nat := fun k => if (bd (2 ^ n - 1) s).testBit k && !eF P hs l k then bg (eF P hs) n (n - popc s - 1) (bd (2 ^ n - 1) s) k else 0
  have eg : bg (eF P hs) n (n - popc s) (rsS n s l) l = (if s = 2 ^ n - 1 then 1 else 0) + sumN g n := by
    by_cases e : s = 2 ^ n - 1
    · rw [if_pos e, e, popc_all h10, Nat.sub_self]
      have : sumN g n = 0 := by
        rw [← sumN_0 n]
        refine sumN_congr (fun k hk => ?_)
        show (if (bd (2 ^ n - 1) s).testBit k && !eF P hs l k then _ else 0) = 0
        rw [if_neg]
        rw [e, bd_bit]
        cases (2 ^ n - 1).testBit k <;> simp
      rw [this]
      rfl
    · rw [if_neg e, Nat.zero_add]
      have hpos : 0 < n - popc s := by
        apply Nat.pos_of_ne_zero
        intro z
        have hz : popc (bd (2 ^ n - 1) s) = 0 := by omega
        rw [popc_0 (Nat.lt_of_le_of_lt (bd_le _ _) (by omega))] at hz
        apply e
        apply Nat.eq_of_testBit_eq
        intro i
        have : (bd (2 ^ n - 1) s).testBit i = false := by rw [hz, Nat.zero_testBit]
        rw [bd_bit, all_bit] at this
        rw [all_bit]
        by_cases hi : i < n
        · rw [decide_eq_true hi] at this ⊢
          simpa using this
        · rw [decide_eq_false hi]
          cases hq : s.testBit i with
          | false => rfl
          | true => exact absurd (lt2_iff.mp h2 i hq) hi
      rw [show n - popc s = (n - popc s - 1) + 1 by omega]
      show sumN _ n = _
      rw [rsS_rm hb]
  rw [eg]
  clear eg
  generalize (if s = 2 ^ n - 1 then 1 else 0) = a
  refine hr_for (σ := Int64) (fun f k x => f_X11_findBehind_40 k11 k17 f x1 (nI s) (nI l) x (nI k) M) n (fun k x => x = lN (a + sumN g k)) (fun r => r = k17 x1 (nI s) (nI (l + 1)) (hr_sl M 297 (10 * s + l) (lN (a + sumN g n)))) ?_ ?_ FU 0 _ (Nat.zero_le _) (FU_ok (by omega)) rfl
  · rintro f k x hk rfl
    right
    refine ⟨_, ?_, rfl⟩
    have egk : sumN g (k + 1) = sumN g k + (if (bd (2 ^ n - 1) s).testBit k && !eF P hs l k then bg (eF P hs) n (n - popc s - 1) (bd (2 ^ n - 1) s) k else 0) := rfl
    have ebk : (bd (2 ^ n - 1) s).testBit k = !s.testBit k := by rw [bd_bit, all_bit, decide_eq_true hk, Bool.true_and]
    show f_X11_findBehind_40 k11 k17 (f + 1) x1 (nI s) (nI l) _ (nI k) M = _
    have z0 : (0 : Int64) = lN 0 := rfl
    rw [f_X11_findBehind_40.eq_2, egk, ebk, z0]
    simp (disch := omega) only [q_lit, q_m1, q_m2, q_m1000, q_add, q_mul, q_cl, q_le, q_lt, q_eq, q_in, q_bd_some, eq_self, if_true, if_false, q_b0, q_b1, q_b01, q_bt, q_bf, q_ft, q_tf, Nat.mul_zero, Nat.add_zero, Nat.zero_add, or_true, true_or, not_true_eq_false, not_false_eq_true, reduceCtorEq, h.1.2, show ¬ n ≤ k by omega, s_has11, hb]
    cases hbk : s.testBit k with
    | true =>
      rw [if_neg (by simp), lN_add, if_neg (by simp)]
      rfl
    | false =>
      rw [if_pos rfl]
      have hor : s ||| 2 ^ k < 2 ^ n := Nat.or_lt_two_pow h2 (Nat.pow_lt_pow_right (by decide) hk)
      have hgt := or_gt hbk
      have e2 := hm (s ||| 2 ^ k) (by omega) hor k hk (by rw [Nat.testBit_or, Nat.testBit_two_pow, decide_eq_true rfl, Bool.or_true])
      rw [rsS_add hk hbk, popc_or (by omega) (by omega) hbk, show n - (popc s + 1) = n - popc s - 1 by omega] at e2
      simp (disch := omega) only [q_lit, q_m1, q_m2, q_m1000, q_add, q_mul, q_cl, q_le, q_lt, q_eq, q_in, q_bd_some, eq_self, if_true, if_false, q_b0, q_b1, q_b01, q_bt, q_bf, q_ft, q_tf, Nat.mul_zero, Nat.add_zero, Nat.zero_add, or_true, true_or, not_true_eq_false, not_false_eq_true, reduceCtorEq, s_follows hH h hl hk, q_jl, q_or, e2]
      cases hE : eF P hs l k with
      | true =>
        rw [if_pos (by simp), lN_add, if_neg (by simp)]
        rfl
      | false =>
        rw [if_neg (by simp), lN_add, if_pos (by simp), Nat.add_assoc]
  · rintro f x rfl
    show f_X11_findBehind_40 k11 k17 (f + 1) x1 (nI s) (nI l) _ (nI n) M = _
    rw [f_X11_findBehind_40.eq_2]
    simp (disch := omega) only [q_lit, q_m1, q_m2, q_m1000, q_add, q_mul, q_cl, q_le, q_lt, q_eq, q_in, q_bd_some, eq_self, if_true, if_false, q_b0, q_b1, q_b01, q_bt, q_bf, q_ft, q_tf, Nat.mul_zero, Nat.add_zero, Nat.zero_add, or_true, true_or, not_true_eq_false, not_false_eq_true, reduceCtorEq, h.1.2, Nat.le_refl]
    unfold f_X11_findBehind_108
    simp (disch := omega) only [q_lit, q_m1, q_m2, q_m1000, q_add, q_mul, q_cl, q_le, q_lt, q_eq, q_in, q_bd_some, eq_self, if_true, if_false, q_b0, q_b1, q_b01, q_bt, q_bf, q_ft, q_tf, Nat.mul_zero, Nat.add_zero, Nat.zero_add, or_true, true_or, not_true_eq_false, not_false_eq_true, reduceCtorEq, s_has11, hb]
theorem s_behind17 {M : PM} (hH : hM M q P) (h : tK M P n hs) {s : Nat} (h1 : 1 ≤ s) (h2 : s < 2 ^ n) (hm : mkH M (eF P hs) n (s + 1)) (k11 : Int32 → Int32 → PM → Option (Unit × PM)) : ∃ M', f_X11_findBehind_17 k11 FU (nI (2 ^ n - 1)) (nI s) (nI 0) M = k11 (nI (2 ^ n - 1)) (nI s + zI (-1)) M' ∧ mkH M' (eF P hs) n s ∧ M'.1 = M.1 := by
  have h10 := h.1.1
  have h3 : 2 ^ n ≤ 2 ^ 10 := Nat.pow_le_pow_right (by decide) h10
  refine hr_for (σ := PM) (fun f l N => f_X11_findBehind_17 k11 f (nI (2 ^ n - 1)) (nI s) (nI l) N) n (fun l N => (mkH N (eF P hs) n (s + 1) ∧ ∀ j, j < l → s.testBit j = true → N.2.1 297 (10 * s + j) = lN (bg (eF P hs) n (n - popc s) (rsS n s j) j)) ∧ N.1 = M.1) (fun r => ∃ M', r = k11 (nI (2 ^ n - 1)) (nI s + zI (-1)) M' ∧ mkH M' (eF P hs) n s ∧ M'.1 = M.1) ?_ ?_ FU 0 M (Nat.zero_le _) (FU_ok (by omega)) ⟨⟨hm, fun j hj => by omega⟩, rfl⟩
  · rintro f l N hl ⟨⟨hm, hj⟩, hf⟩
    right
    have hHN : hM N q P := by unfold hM mP at *; rw [hf]; exact hH
    have hN : tK N P n hs := by unfold tK at *; rw [hf]; exact h
    -- a cell that is written
    have wr : ∀ v : Int64, (s.testBit l = true → v = lN (bg (eF P hs) n (n - popc s) (rsS n s l) l)) → (mkH (hr_sl N 297 (10 * s + l) v) (eF P hs) n (s + 1) ∧ ∀ j, j < l + 1 → s.testBit j = true → (hr_sl N 297 (10 * s + l) v).2.1 297 (10 * s + j) = lN (bg (eF P hs) n (n - popc s) (rsS n s j) j)) ∧ (hr_sl N 297 (10 * s + l) v).1 = M.1 := by
      intro v hv
      refine ⟨⟨?_, ?_⟩, hf⟩
      · intro t ht ht2 j hj2 hb
        rw [q_sl2, if_pos rfl, if_neg (by omega)]
        exact hm t ht ht2 j hj2 hb
      · intro j hj2 hb
        rw [q_sl2, if_pos rfl]
        by_cases e : j = l
        · subst e; rw [if_pos rfl]; exact hv hb
        · rw [if_neg (by omega)]; exact hj j (by omega) hb
    have st : ∀ a : Nat, a = (if s = 2 ^ n - 1 then 1 else 0) → ∃ s', f_X11_findBehind_40 k11 (fun x1 x2 x3 M => f_X11_findBehind_17 k11 f x1 x2 x3 M) FU (nI (2 ^ n - 1)) (nI s) (nI l) (lN a) (nI 0) N = f_X11_findBehind_17 k11 f (nI (2 ^ n - 1)) (nI s) (nI (l + 1)) s' ∧ (mkH s' (eF P hs) n (s + 1) ∧ ∀ j, j < l + 1 → s.testBit j = true → s'.2.1 297 (10 * s + j) = lN (bg (eF P hs) n (n - popc s) (rsS n s j) j)) ∧ s'.1 = M.1 := by
      rintro a rfl
      cases hb : s.testBit l with
      | true =>
        rw [s_behind40 hHN hN h1 h2 hl hb hm]
        exact ⟨_, rfl, wr _ (fun _ => rfl)⟩
      | false =>
        refine ⟨hr_sl N 297 (10 * s + l) 0, ?_, wr _ (fun z => by rw [hb] at z; cases z)⟩
        show f_X11_findBehind_40 k11 _ (3999 + 1) _ _ _ _ (nI 0) N = _
        rw [f_X11_findBehind_40.eq_2]
        unfold f_X11_findBehind_108
        by_cases hn0 : n ≤ 0
        · omega
        · simp (disch := omega) only [q_lit, q_m1, q_m2, q_m1000, q_add, q_mul, q_cl, q_le, q_lt, q_eq, q_in, q_bd_some, eq_self, if_true, if_false, q_b0, q_b1, q_b01, q_bt, q_bf, q_ft, q_tf, Nat.mul_zero, Nat.add_zero, Nat.zero_add, or_true, true_or, not_true_eq_false, not_false_eq_true, reduceCtorEq, hN.1.2, hn0, s_has11, hb]
    show ∃ s', f_X11_findBehind_17 k11 (f + 1) (nI (2 ^ n - 1)) (nI s) (nI l) N = f_X11_findBehind_17 k11 f (nI (2 ^ n - 1)) (nI s) (nI (l + 1)) s' ∧ _
    rw [f_X11_findBehind_17.eq_2]
    simp (disch := omega) only [q_lit, q_m1, q_m2, q_m1000, q_add, q_mul, q_cl, q_le, q_lt, q_eq, q_in, q_bd_some, eq_self, if_true, if_false, q_b0, q_b1, q_b01, q_bt, q_bf, q_ft, q_tf, Nat.mul_zero, Nat.add_zero, Nat.zero_add, or_true, true_or, not_true_eq_false, not_false_eq_true, reduceCtorEq, hN.1.2, show ¬ n ≤ l by omega]
    by_cases e : s = 2 ^ n - 1
    · rw [if_pos e]
      exact st 1 (by rw [if_pos e])
    · rw [if_neg e]
      exact st 0 (by rw [if_neg e])
  · rintro f N ⟨⟨hm, hj⟩, hf⟩
    have hN : tK N P n hs := by unfold tK at *; rw [hf]; exact h
    show ∃ M', f_X11_findBehind_17 k11 (f + 1) (nI (2 ^ n - 1)) (nI s) (nI n) N = _ ∧ _
    rw [f_X11_findBehind_17.eq_2]
    simp (disch := omega) only [q_lit, q_m1, q_m2, q_m1000, q_add, q_mul, q_cl, q_le, q_lt, q_eq, q_in, q_bd_some, eq_self, if_true, if_false, q_b0, q_b1, q_b01, q_bt, q_bf, q_ft, q_tf, Nat.mul_zero, Nat.add_zero, Nat.zero_add, or_true, true_or, not_true_eq_false, not_false_eq_true, reduceCtorEq, hN.1.2, Nat.le_refl]
    refine ⟨N, rfl, ?_, hf⟩
    intro t ht ht2 j hj2 hb
    by_cases e : t = s
    · subst e; exact hj j hj2 hb
    · exact hm t (by omega) ht2 j hj2 hb
theorem s_findBehind {M : PM} (hH : hM M q P) (h : tK M P n hs) : ∃ M', f_X11_findBehind M = some ((), M') ∧ mkH M' (eF P hs) n 1 ∧ M'.1 = M.1 := by
  have h10 := h.1.1
  have h2 : 1 ≤ 2 ^ n := Nat.one_le_two_pow
  have h3 : 2 ^ n ≤ 2 ^ 10 := Nat.pow_le_pow_right (by decide) h10
  unfold f_X11_findBehind
  rw [h.1.2, q_lit 1, gO, q_jl (by omega), q_sub h2]
  refine hr_for (σ := PM) (fun f j N => f_X11_findBehind_11 f (nI (2 ^ n - 1)) (nI (2 ^ n - 1 - j)) N) (2 ^ n - 1) (fun j N => mkH N (eF P hs) n (2 ^ n - j) ∧ N.1 = M.1) (fun r => ∃ M', r = some ((), M') ∧ mkH M' (eF P hs) n 1 ∧ M'.1 = M.1) ?_ ?_ FU 0 M (Nat.zero_le _) (FU_ok (by omega)) ⟨fun s hs1 hs2 => by omega, rfl⟩
  · rintro f j N hj ⟨hm, hf⟩
    right
    have hHN : hM N q P := by unfold hM mP at *; rw [hf]; exact hH
    have hN : tK N P n hs := by unfold tK at *; rw [hf]; exact h
    obtain ⟨N', g1, g2, g3⟩ := s_behind17 hHN hN (s := 2 ^ n - 1 - j) (by omega) (by omega) (by rw [show 2 ^ n - 1 - j + 1 = 2 ^ n - j by omega]; exact hm) (fun x1 x2 M => f_X11_findBehind_11 f x1 x2 M)
    show ∃ s', f_X11_findBehind_11 (f + 1) (nI (2 ^ n - 1)) (nI (2 ^ n - 1 - j)) N = f_X11_findBehind_11 f (nI (2 ^ n - 1)) (nI (2 ^ n - 1 - (j + 1))) s' ∧ _
    rw [f_X11_findBehind_11.eq_2, if_neg (show ¬ nI (2 ^ n - 1 - j) ≤ 0 from fun z => by have := (q_le (a := 2 ^ n - 1 - j) (b := 0) (by omega) (by omega)).mp z; omega), show (0 : Int32) = nI 0 from rfl, g1]
    have en : nI (2 ^ n - 1 - j) + zI (-1) = nI (2 ^ n - 1 - (j + 1)) := by
      rw [q_nzadd, q_nz]
      congr 1
      omega
    rw [en]
    exact ⟨N', rfl, by rw [show 2 ^ n - (j + 1) = 2 ^ n - 1 - j by omega]; exact g2, g3.trans hf⟩
  · rintro f N ⟨hm, hf⟩
    show ∃ M', f_X11_findBehind_11 (f + 1) (nI (2 ^ n - 1)) (nI (2 ^ n - 1 - (2 ^ n - 1))) N = _ ∧ _
    rw [f_X11_findBehind_11.eq_2, Nat.sub_self, if_pos (show nI 0 ≤ 0 by decide)]
    exact ⟨N, rfl, by rw [show 2 ^ n - (2 ^ n - 1) = 1 by omega] at hm; exact hm, hf⟩
theorem s_allRows {M : PM} (hH : hM M q P) (h : tK M P n hs) : ∃ M', f_X11_allRows M = some (lN (orS (eF P hs) n), M') ∧ mkH M' (eF P hs) n 1 ∧ M'.1 = M.1 := by
  have h10 := h.1.1
  have h2 : 1 ≤ 2 ^ n := Nat.one_le_two_pow
  have h3 : 2 ^ n ≤ 2 ^ 10 := Nat.pow_le_pow_right (by decide) h10
  unfold f_X11_allRows
  obtain ⟨M1, g1, g2, g3⟩ := s_findBehind hH h
  have h1 : tK M1 P n hs := by unfold tK at *; rw [g3]; exact h
  rw [g1, q_bd_some, h1.1.2]
  have part : ∀ a : Nat, a = (if n = 0 then 1 else 0) → f_X11_allRows_19 FU (lN a) (nI 0) M1 = some (lN (orS (eF P hs) n), M1) := by
    rintro a rfl
    unfold orS
    refine hr_for (σ := Int64) (fun f k x => f_X11_allRows_19 f x (nI k) M1) n (fun k x => x = lN ((if n = 0 then 1 else 0) + sumN (bg (eF P hs) n (n - 1) (2 ^ n - 1)) k)) (fun r => r = some (lN ((if n = 0 then 1 else 0) + sumN (bg (eF P hs) n (n - 1) (2 ^ n - 1)) n), M1)) ?_ ?_ FU 0 _ (Nat.zero_le _) (FU_ok (by omega)) rfl
    · rintro f k x hk rfl
      right
      refine ⟨_, ?_, rfl⟩
      have hp : 2 ^ k < 2 ^ n := Nat.pow_lt_pow_right (by decide) hk
      have hp1 : 1 ≤ 2 ^ k := Nat.one_le_two_pow
      have e2 := g2 (2 ^ k) hp1 hp k hk (by rw [Nat.testBit_two_pow, decide_eq_true rfl])
      have e3 : rsS n (2 ^ k) k = 2 ^ n - 1 := by
        apply Nat.eq_of_testBit_eq
        intro i
        rw [rsS_bit, all_bit, Nat.testBit_two_pow]
        by_cases e : k = i
        · subst e; rw [decide_eq_true hk]; simp
        · rw [decide_eq_false e]; simp
      have e4 : popc (2 ^ k) = 1 := by
        have := popc_or (s := 0) (k := k) (by omega) (by omega) (Nat.zero_testBit k)
        rw [Nat.zero_or] at this
        rw [this, (popc_0 (by omega)).mpr rfl]
      rw [e3, e4] at e2
      show f_X11_allRows_19 (f + 1) _ (nI k) M1 = _
      rw [f_X11_allRows_19.eq_2]
      simp (disch := omega) only [q_lit, q_m1, q_m2, q_m1000, q_add, q_mul, q_cl, q_le, q_lt, q_eq, q_in, q_bd_some, eq_self, if_true, if_false, q_b0, q_b1, q_b01, q_bt, q_bf, q_ft, q_tf, Nat.mul_zero, Nat.add_zero, Nat.zero_add, or_true, true_or, not_true_eq_false, not_false_eq_true, reduceCtorEq, h1.1.2, show ¬ n ≤ k by omega, q_jl, e2, lN_add]
      rw [Nat.add_assoc]
      rfl
    · rintro f x rfl
      show f_X11_allRows_19 (f + 1) _ (nI n) M1 = _
      rw [f_X11_allRows_19.eq_2]
      simp (disch := omega) only [q_lit, q_m1, q_m2, q_m1000, q_add, q_mul, q_cl, q_le, q_lt, q_eq, q_in, q_bd_some, eq_self, if_true, if_false, q_b0, q_b1, q_b01, q_bt, q_bf, q_ft, q_tf, Nat.mul_zero, Nat.add_zero, Nat.zero_add, or_true, true_or, not_true_eq_false, not_false_eq_true, reduceCtorEq, h1.1.2, Nat.le_refl]
  refine ⟨M1, ?_, g2, g3⟩
  by_cases hn0 : n = 0
  · rw [if_pos (show nI n = 0 by rw [hn0]; rfl)]
    exact part 1 (by rw [if_pos hn0])
  · rw [if_neg (show ¬ nI n = 0 from fun z => hn0 ((q_eq (b := 0) (by omega) (by omega)).mp z))]
    exact part 0 (by rw [if_neg hn0])
end MOD
