/-! CROWDS: sets, their least, quiet ones and quarrels -/
theorem low_ex : ∀ (n s : Nat), s ≤ n → s ≠ 0 → ∃ l, s.testBit l = true ∧ (∀ i, i < l → s.testBit i = false) ∧ ∀ i, (s &&& (s - 1)).testBit i = (s.testBit i && decide (i ≠ l)) := by
  intro n
  induction n with
  | zero => intro s h h0; omega
  | succ n ih =>
    intro s h h0
    rcases Nat.mod_two_eq_zero_or_one s with e | e
    · obtain ⟨l, h1, h2, h3⟩ := ih (s / 2) (by omega) (by omega)
      refine ⟨l + 1, by rw [Nat.testBit_succ]; exact h1, ?_, ?_⟩
      · intro i hi
        cases i with
        | zero => rw [Nat.testBit_zero, e]; rfl
        | succ i => rw [Nat.testBit_succ]; exact h2 i (by omega)
      · intro i
        cases i with
        | zero =>
          rw [Nat.testBit_and, Nat.testBit_zero, e]
          rfl
        | succ i =>
          have := h3 i
          rw [Nat.testBit_and] at this
          rw [Nat.testBit_and, Nat.testBit_succ, Nat.testBit_succ, show (s - 1) / 2 = s / 2 - 1 by omega, this]
          congr 1
          simp
    · refine ⟨0, by rw [Nat.testBit_zero, e]; rfl, fun i hi => by omega, ?_⟩
      intro i
      cases i with
      | zero =>
        rw [Nat.testBit_and, Nat.testBit_zero, Nat.testBit_zero, e, show (s - 1) % 2 = 0 by omega]
        rfl
      | succ i =>
        rw [Nat.testBit_and, Nat.testBit_succ, Nat.testBit_succ, show (s - 1) / 2 = s / 2 by omega]
        simp
/-- the next lower set within a set -/
theorem next_sub : ∀ (n w o x : Nat), w ≤ n → sub2 w o → sub2 x o → x < w → x ≤ (w - 1) &&& o := by
  intro n
  induction n with
  | zero => intro w o x h _ _ hx; omega
  | succ n ih =>
    intro w o x h hw hx hlt
    rcases Nat.mod_two_eq_zero_or_one w with e | e
    · have hs : ∀ {a b : Nat}, sub2 a b → sub2 (a / 2) (b / 2) := fun {a b} h i hi => by
        rw [← Nat.testBit_succ] at hi ⊢
        exact h (i + 1) hi
      have h1 := ih (w / 2) (o / 2) (x / 2) (by omega) (hs hw) (hs hx) (by omega)
      have e2 : ((w - 1) &&& o) / 2 = (w / 2 - 1) &&& (o / 2) := by
        rw [Nat.and_div_two, show (w - 1) / 2 = w / 2 - 1 by omega]
      have e3 : x % 2 ≤ ((w - 1) &&& o) % 2 := by
        rcases Nat.mod_two_eq_zero_or_one x with f | f
        · omega
        · have h0 : x.testBit 0 = true := by rw [Nat.testBit_zero, f]; rfl
          have h1 := hx 0 h0
          have h2 : ((w - 1) &&& o).testBit 0 = true := by
            rw [Nat.testBit_and, h1, Nat.testBit_zero, show (w - 1) % 2 = 1 by omega]
            rfl
          rw [Nat.testBit_zero, decide_eq_true_eq] at h2
          omega
      omega
    · have e2 : (w - 1) &&& o = w - 1 := by
        apply Nat.eq_of_testBit_eq
        intro i
        rw [Nat.testBit_and]
        cases hi : (w - 1).testBit i with
        | false => rfl
        | true =>
          rw [Bool.true_and]
          apply hw
          cases i with
          | zero =>
            rw [Nat.testBit_zero, show (w - 1) % 2 = 0 by omega] at hi
            cases hi
          | succ i =>
            rw [Nat.testBit_succ, show (w - 1) / 2 = w / 2 by omega, ← Nat.testBit_succ] at hi
            exact hi
      omega
theorem and_sub (a b : Nat) : sub2 (a &&& b) b := fun i h => by
  rw [Nat.testBit_and, Bool.and_eq_true] at h
  exact h.2
theorem and_subl (a b : Nat) : sub2 (a &&& b) a := fun i h => by
  rw [Nat.testBit_and, Bool.and_eq_true] at h
  exact h.1
theorem bd_sub (a b : Nat) : sub2 (bd a b) a := fun i h => by
  rw [bd_bit, Bool.and_eq_true] at h
  exact h.1
theorem sub2.le {a b : Nat} (h : sub2 a b) : a ≤ b := Nat.le_of_testBit (fun i hi => h i hi)
def qt (E : Nat → Nat → Bool) (n s : Nat) : Bool := !exb (fun i => s.testBit i && exb (fun j => s.testBit j && E i j) n) n
def qr (E : Nat → Nat → Bool) (n s : Nat) : Bool := !exb (fun i => s.testBit i && exb (fun j => s.testBit j && (decide (i ≠ j) && !E i j)) n) n
theorem qt_iff {E : Nat → Nat → Bool} {n s : Nat} : qt E n s = true ↔ ∀ i j, i < n → j < n → s.testBit i = true → s.testBit j = true → E i j = false := by
  unfold qt
  rw [Bool.not_eq_true', exb_no]
  constructor
  · intro h i j hi hj h1 h2
    have := h i hi
    rw [h1, Bool.true_and, exb_no] at this
    have := this j hj
    rw [h2, Bool.true_and] at this
    exact this
  · intro h i hi
    cases h1 : s.testBit i with
    | false => rfl
    | true =>
      rw [Bool.true_and, exb_no]
      intro j hj
      cases h2 : s.testBit j with
      | false => rfl
      | true => rw [Bool.true_and]; exact h i j hi hj h1 h2
theorem qr_iff {E : Nat → Nat → Bool} {n s : Nat} : qr E n s = true ↔ ∀ i j, i < n → j < n → s.testBit i = true → s.testBit j = true → i ≠ j → E i j = true := by
  unfold qr
  rw [Bool.not_eq_true', exb_no]
  constructor
  · intro h i j hi hj h1 h2 hn
    have := h i hi
    rw [h1, Bool.true_and, exb_no] at this
    have := this j hj
    rw [h2, Bool.true_and, decide_eq_true hn, Bool.true_and] at this
    simpa using this
  · intro h i hi
    cases h1 : s.testBit i with
    | false => rfl
    | true =>
      rw [Bool.true_and, exb_no]
      intro j hj
      cases h2 : s.testBit j with
      | false => rfl
      | true =>
        rw [Bool.true_and]
        by_cases hn : i = j
        · rw [decide_eq_false (fun z => z hn)]; rfl
        · rw [h i j hi hj h1 h2 hn]; simp
/-- who minds whom, by hues -/
def eF (P : Pal) (hs : Nat → Nat) (i j : Nat) : Bool := foe P (hs i) (hs j)
theorem eF_comm (P : Pal) (hs : Nat → Nat) (i j : Nat) : eF P hs i j = eF P hs j i := foe_comm P _ _
theorem foe_self (P : Pal) (a : Nat) : foe P a a = false := by
  unfold foe strH
  rw [if_pos rfl]
  rfl
theorem eF_self (P : Pal) (hs : Nat → Nat) (i : Nat) : eF P hs i i = false := foe_self P _
theorem qt_step {P : Pal} {hs : Nat → Nat} {n s l : Nat} (hn : s < 2 ^ n) (h1 : s.testBit l = true) (h3 : ∀ i, (s &&& (s - 1)).testBit i = (s.testBit i && decide (i ≠ l))) :
    qt (eF P hs) n s = (qt (eF P hs) n (s &&& (s - 1)) && decide (bset (eF P hs l) n &&& s = 0)) := by
  have hl : l < n := lt2_iff.mp hn l h1
  apply bool_iff
  rw [Bool.and_eq_true, decide_eq_true_eq, qt_iff, qt_iff]
  constructor
  · intro h
    constructor
    · intro i j hi hj b1 b2
      rw [h3, Bool.and_eq_true] at b1 b2
      exact h i j hi hj b1.1 b2.1
    · apply Nat.eq_of_testBit_eq
      intro j
      rw [Nat.testBit_and, bset_bit, Nat.zero_testBit]
      by_cases hj : j < n
      · cases hb : s.testBit j with
        | false => simp
        | true => rw [h l j hl hj h1 hb]; simp
      · rw [decide_eq_false hj]; rfl
  · rintro ⟨ha, hb⟩ i j hi hj b1 b2
    have hz : ∀ j, j < n → s.testBit j = true → eF P hs l j = false := by
      intro j hj b
      have : (bset (eF P hs l) n &&& s).testBit j = false := by rw [hb, Nat.zero_testBit]
      rw [Nat.testBit_and, bset_bit, decide_eq_true hj, b] at this
      simpa using this
    by_cases e1 : i = l
    · subst e1; exact hz j hj b2
    · by_cases e2 : j = l
      · subst e2; rw [eF_comm]; exact hz i hi b1
      · exact ha i j hi hj (by rw [h3, b1, decide_eq_true e1]; rfl) (by rw [h3, b2, decide_eq_true e2]; rfl)
theorem qr_step {P : Pal} {hs : Nat → Nat} {n s k : Nat} (hk : k < n) (hn : s < 2 ^ n) : bd (bd s (2 ^ k)) (bset (eF P hs k) n) = 0 ↔ ∀ j, j < n → s.testBit j = true → k ≠ j → eF P hs k j = true := by
  constructor
  · intro h j hj b hn
    have : (bd (bd s (2 ^ k)) (bset (eF P hs k) n)).testBit j = false := by rw [h, Nat.zero_testBit]
    rw [bd_bit, bd_bit, bset_bit, Nat.testBit_two_pow, b, decide_eq_true hj, decide_eq_false hn] at this
    simpa using this
  · intro h
    apply Nat.eq_of_testBit_eq
    intro j
    rw [bd_bit, bd_bit, bset_bit, Nat.testBit_two_pow, Nat.zero_testBit]
    cases b : s.testBit j with
    | false => simp
    | true =>
      have hj := lt2_iff.mp hn j b
      by_cases e : k = j
      · rw [decide_eq_true e]; simp
      · rw [h j hj b e, decide_eq_true hj]; simp
section CLS
theorem s_leastOf (M : PM) {s : Nat} (hs : s < 2147483648) : f_X10_leastOf (nI s) M = some (ocI (fst1 (fun i => s.testBit i) 10), M) := by
  unfold f_X10_leastOf
  refine hr_for (σ := Unit) (fun f i _ => f_X10_leastOf_2 (nI s) f (nI i) M) 10 (fun i _ => fst1 (fun i => s.testBit i) i = none) (fun r => r = some (ocI (fst1 (fun i => s.testBit i) 10), M)) ?_ ?_ FU 0 () (Nat.zero_le _) (FU_ok (by omega)) rfl
  · intro f i _ hi hno
    show f_X10_leastOf_2 (nI s) (f + 1) (nI i) M = _ ∨ ∃ _ : Unit, f_X10_leastOf_2 (nI s) (f + 1) (nI i) M = f_X10_leastOf_2 (nI s) f (nI (i + 1)) M ∧ _
    rw [f_X10_leastOf_2.eq_2]
    simp (disch := omega) only [q_lit, q_m1, q_m2, q_m1000, q_add, q_mul, q_cl, q_le, q_lt, q_eq, q_in, q_bd_some, eq_self, if_true, if_false, q_b0, q_b1, q_b01, q_bt, q_bf, q_ft, q_tf, Nat.mul_zero, Nat.add_zero, Nat.zero_add, or_true, true_or, not_true_eq_false, not_false_eq_true, reduceCtorEq, show ¬ 10 ≤ i by omega, s_holdsBit]
    cases hb : s.testBit i with
    | false =>
      right
      rw [if_pos rfl]
      exact ⟨(), rfl, fst1_no hno hb⟩
    | true =>
      left
      rw [if_neg (by simp), fst1_hit hno hb hi]
      rfl
  · intro f _ hno
    show f_X10_leastOf_2 (nI s) (f + 1) (nI 10) M = _
    rw [f_X10_leastOf_2.eq_2]
    simp (disch := omega) only [q_lit, q_m1, q_m2, q_m1000, q_add, q_mul, q_cl, q_le, q_lt, q_eq, q_in, q_bd_some, eq_self, if_true, if_false, q_b0, q_b1, q_b01, q_bt, q_bf, q_ft, q_tf, Nat.mul_zero, Nat.add_zero, Nat.zero_add, or_true, true_or, not_true_eq_false, not_false_eq_true, reduceCtorEq, Nat.le_refl]
    rw [hno]
    rfl
theorem least_at {s l : Nat} (hl : l < 10) (h1 : s.testBit l = true) (h2 : ∀ i, i < l → s.testBit i = false) : fst1 (fun i => s.testBit i) 10 = some l :=
  fst1_hit (fst1_nos (n := 0) rfl (Nat.zero_le _) (fun c _ hc => h2 c hc)) h1 hl
/-- the class's crowd -/
def cK (M : PM) (P : Pal) (n : Nat) (hs nu : Nat → Nat) : Prop := (n ≤ 10 ∧ M.1 240 0 = nI n) ∧ ∀ k, k < n → (M.1 241 k = nI (hs k) ∧ hs k < pH P) ∧ M.1 242 k = nI (nu k) ∧ M.1 243 k = nI (bset (eF P hs k) n)
variable {a b : Nat} {P : Pal} {R : Rol} {M0 : PM}
theorem s_findFoes19 (hP : rP M0 a P) (ha : a + 9 ≤ 240) {n : Nat} (h10 : n ≤ 10) {hs nu : Nat → Nat} (h0 : M0.1 240 0 = nI n) (hh : ∀ k, k < n → (M0.1 241 k = nI (hs k) ∧ hs k < pH P) ∧ M0.1 242 k = nI (nu k)) (k2 : Int32 → PM → Option (Unit × PM)) {i : Nat} (hi : i < n) {M : PM} (hf : hr_fr hW_X1_findFoes M0 M) (hz : M.1 243 i = nI 0) :
    ∃ M', f_X1_findFoes_19 a k2 FU (nI i) (nI 0) M = k2 (nI (i + 1)) M' ∧ M'.1 243 i = nI (bset (eF P hs i) n) ∧ (∀ k, k ≠ i → M'.1 243 k = M.1 243 k) ∧ hr_fr hW_X1_findFoes M0 M' := by
  have hp10 : pH P ≤ 10 := hP.1.2.1
  have h6 : pR P ≤ 6 := hP.1.2.2.1
  refine hr_for (σ := PM) (fun f j N => f_X1_findFoes_19 a k2 f (nI i) (nI j) N) n (fun j N => N.1 243 i = nI (bset (eF P hs i) j) ∧ (∀ k, k ≠ i → N.1 243 k = M.1 243 k) ∧ hr_fr hW_X1_findFoes M0 N) (fun x => ∃ M', x = k2 (nI (i + 1)) M' ∧ M'.1 243 i = nI (bset (eF P hs i) n) ∧ (∀ k, k ≠ i → M'.1 243 k = M.1 243 k) ∧ hr_fr hW_X1_findFoes M0 M') ?_ ?_ FU 0 M (Nat.zero_le _) (FU_ok (by omega)) ⟨hz, fun _ _ => rfl, hf⟩
  · rintro f j N hj ⟨h1, h2, hf⟩
    right
    have hPN := rP_ag hP (hf.agr (n := 240) rfl) (Nat.zero_le _) (by omega)
    have e0 : N.1 240 0 = nI n := (hf.at 240 0 rfl).trans h0
    have ei : N.1 241 i = nI (hs i) := (hf.at 241 i rfl).trans (hh i hi).1.1
    have ej : N.1 241 j = nI (hs j) := (hf.at 241 j rfl).trans (hh j hj).1.1
    have hl := strH_le P (hs i) (hs j)
    have eb : bset (eF P hs i) (j + 1) = bset (eF P hs i) j ||| (if eF P hs i j then 2 ^ j else 0) := rfl
    show ∃ s', f_X1_findFoes_19 a k2 (f + 1) (nI i) (nI j) N = f_X1_findFoes_19 a k2 f (nI i) (nI (j + 1)) s' ∧ _
    rw [f_X1_findFoes_19.eq_2]
    simp (disch := omega) only [q_lit, q_m1, q_m2, q_m1000, q_add, q_mul, q_cl, q_le, q_lt, q_eq, q_in, q_bd_some, eq_self, if_true, if_false, q_b0, q_b1, q_b01, q_bt, q_bf, q_ft, q_tf, Nat.mul_zero, Nat.add_zero, Nat.zero_add, or_true, true_or, not_true_eq_false, not_false_eq_true, reduceCtorEq, e0, ei, ej, show ¬ n ≤ j by omega, s_strengthOf hPN (hh i hi).1.2 (hh j hj).1.2]
    by_cases hc : strH P (hs i) (hs j) ≤ 0
    · rw [if_pos hc]
      refine ⟨N, rfl, ?_, h2, hf⟩
      rw [eb, show eF P hs i j = false from decide_eq_false (by omega), if_neg (by simp), Nat.or_zero]
      exact h1
    · rw [if_neg hc, h1]
      simp (disch := omega) only [q_jl, q_or]
      refine ⟨_, rfl, ?_, ?_, hr_fr.si rfl hf⟩
      · rw [si_same, if_pos rfl, eb, show eF P hs i j = true from decide_eq_true (by omega), if_pos rfl]
      · intro k hk
        rw [si_same, if_neg hk]
        exact h2 k hk
  · rintro f N ⟨h1, h2, hf⟩
    have e0 : N.1 240 0 = nI n := (hf.at 240 0 rfl).trans h0
    show ∃ M', f_X1_findFoes_19 a k2 (f + 1) (nI i) (nI n) N = _ ∧ _
    rw [f_X1_findFoes_19.eq_2]
    simp (disch := omega) only [q_lit, q_m1, q_m2, q_m1000, q_add, q_mul, q_cl, q_le, q_lt, q_eq, q_in, q_bd_some, eq_self, if_true, if_false, q_b0, q_b1, q_b01, q_bt, q_bf, q_ft, q_tf, Nat.mul_zero, Nat.add_zero, Nat.zero_add, or_true, true_or, not_true_eq_false, not_false_eq_true, reduceCtorEq, e0, Nat.le_refl]
    exact ⟨N, rfl, h1, h2, hf⟩
theorem s_findFoes (hP : rP M0 a P) (ha : a + 9 ≤ 240) {n : Nat} (h10 : n ≤ 10) {hs nu : Nat → Nat} (h0 : M0.1 240 0 = nI n) (hh : ∀ k, k < n → (M0.1 241 k = nI (hs k) ∧ hs k < pH P) ∧ M0.1 242 k = nI (nu k)) : ∃ M', f_X1_findFoes a M0 = some ((), M') ∧ cK M' P n hs nu ∧ hr_fr hW_X1_findFoes M0 M' := by
  unfold f_X1_findFoes
  rw [if_pos hP.1.1]
  refine hr_for (σ := PM) (fun f i N => f_X1_findFoes_2 a f (nI i) N) n (fun i N => (∀ k, k < i → N.1 243 k = nI (bset (eF P hs k) n)) ∧ hr_fr hW_X1_findFoes M0 N) (fun x => ∃ M', x = some ((), M') ∧ cK M' P n hs nu ∧ hr_fr hW_X1_findFoes M0 M') ?_ ?_ FU 0 M0 (Nat.zero_le _) (FU_ok (by omega)) ⟨fun k hk => by omega, hr_fr.rf _ _⟩
  · rintro f i N hi ⟨h1, hf⟩
    right
    have e0 : N.1 240 0 = nI n := (hf.at 240 0 rfl).trans h0
    have hf1 : hr_fr hW_X1_findFoes M0 (hr_si N 243 i (nI 0)) := hr_fr.si rfl hf
    obtain ⟨N', g1, g2, g3, g4⟩ := s_findFoes19 hP ha h10 h0 hh (fun x2 M => f_X1_findFoes_2 a f x2 M) hi hf1 (by rw [si_same, if_pos rfl])
    show ∃ s', f_X1_findFoes_2 a (f + 1) (nI i) N = f_X1_findFoes_2 a f (nI (i + 1)) s' ∧ _
    rw [f_X1_findFoes_2.eq_2]
    simp (disch := omega) only [q_lit, q_m1, q_m2, q_m1000, q_add, q_mul, q_cl, q_le, q_lt, q_eq, q_in, q_bd_some, eq_self, if_true, if_false, q_b0, q_b1, q_b01, q_bt, q_bf, q_ft, q_tf, Nat.mul_zero, Nat.add_zero, Nat.zero_add, or_true, true_or, not_true_eq_false, not_false_eq_true, reduceCtorEq, e0, show ¬ n ≤ i by omega]
    rw [g1]
    refine ⟨N', rfl, ?_, g4⟩
    intro k hk
    by_cases e : k = i
    · rw [e]; exact g2
    · rw [g3 k e, si_same, if_neg e]
      exact h1 k (by omega)
  · rintro f N ⟨h1, hf⟩
    have e0 : N.1 240 0 = nI n := (hf.at 240 0 rfl).trans h0
    show ∃ M', f_X1_findFoes_2 a (f + 1) (nI n) N = _ ∧ _
    rw [f_X1_findFoes_2.eq_2]
    simp (disch := omega) only [q_lit, q_m1, q_m2, q_m1000, q_add, q_mul, q_cl, q_le, q_lt, q_eq, q_in, q_bd_some, eq_self, if_true, if_false, q_b0, q_b1, q_b01, q_bt, q_bf, q_ft, q_tf, Nat.mul_zero, Nat.add_zero, Nat.zero_add, or_true, true_or, not_true_eq_false, not_false_eq_true, reduceCtorEq, e0, Nat.le_refl]
    refine ⟨N, rfl, ⟨⟨h10, e0⟩, fun k hk => ⟨⟨(hf.at 241 k rfl).trans (hh k hk).1.1, (hh k hk).1.2⟩, (hf.at 242 k rfl).trans (hh k hk).2, h1 k hk⟩⟩, hf⟩
end CLS
