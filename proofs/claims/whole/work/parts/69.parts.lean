/-! FEWEST PARTS, on both sides -/
/-- a set goes into so many quiet parts -/
def pc (E : Nat → Nat → Bool) (n S k : Nat) : Prop := ∃ f : Nat → Nat, (∀ i, i < n → S.testBit i = true → f i < k) ∧ ∀ i j, i < n → j < n → S.testBit i = true → S.testBit j = true → E i j = true → f i ≠ f j
def isX (E : Nat → Nat → Bool) (n S m : Nat) : Prop := pc E n S m ∧ ∀ k, pc E n S k → m ≤ k
theorem isX.uniq {E : Nat → Nat → Bool} {n S m m' : Nat} (h : isX E n S m) (h' : isX E n S m') : m = m' := Nat.le_antisymm (h.2 _ h'.1) (h'.2 _ h.1)
noncomputable def chi (E : Nat → Nat → Bool) (n S : Nat) : Nat := Classical.epsilon (fun m => isX E n S m)
theorem isX.chi {E : Nat → Nat → Bool} {n S m : Nat} (h : isX E n S m) : chi E n S = m := (Classical.epsilon_spec (p := fun m => isX E n S m) ⟨m, h⟩).uniq h
theorem pc_id {E : Nat → Nat → Bool} (hE : ∀ i, E i i = false) {n m : Nat} (S : Nat) (h : n ≤ m) : pc E n S m := ⟨fun i => i, fun i hi _ => by show i < m; omega, fun i j _ _ _ _ he hij => by rw [show i = j from hij, hE] at he; cases he⟩
theorem pc_0 (E : Nat → Nat → Bool) (n : Nat) : isX E n 0 0 := ⟨⟨fun _ => 0, fun i _ h => (by rw [Nat.zero_testBit] at h; cases h), fun i j _ _ h => (by rw [Nat.zero_testBit] at h; cases h)⟩, fun k _ => Nat.zero_le _⟩
theorem pc_add {E : Nat → Nat → Bool} {n S X k : Nat} (h : pc E n (bd S X) k) (hX : qt E n X = true) : pc E n S (k + 1) := by
  obtain ⟨f, h1, h2⟩ := h
  rw [qt_iff] at hX
  refine ⟨fun i => if X.testBit i then k else f i, ?_, ?_⟩
  · intro i hi hb
    show (if X.testBit i then k else f i) < k + 1
    cases hx : X.testBit i with
    | true => simp
    | false =>
      have := h1 i hi (by rw [bd_bit, hb, hx]; rfl)
      simp; omega
  · intro i j hi hj b1 b2 he
    show (if X.testBit i then k else f i) ≠ (if X.testBit j then k else f j)
    cases hx : X.testBit i with
    | true =>
      cases hy : X.testBit j with
      | true => rw [hX i j hi hj hx hy] at he; cases he
      | false =>
        have := h1 j hj (by rw [bd_bit, b2, hy]; rfl)
        simp; omega
    | false =>
      have a1 := h1 i hi (by rw [bd_bit, b1, hx]; rfl)
      cases hy : X.testBit j with
      | true => simp; omega
      | false =>
        simp
        exact h2 i j hi hj (by rw [bd_bit, b1, hx]; rfl) (by rw [bd_bit, b2, hy]; rfl) he
theorem pc_drop {E : Nat → Nat → Bool} {n S k l : Nat} (h : pc E n S k) (hl : l < n) (hb : S.testBit l = true) : ∃ X, sub2 X S ∧ X.testBit l = true ∧ qt E n X = true ∧ 1 ≤ k ∧ pc E n (bd S X) (k - 1) := by
  obtain ⟨f, h1, h2⟩ := h
  have hk := h1 l hl hb
  let X := bset (fun i => S.testBit i && decide (f i = f l)) n
  have hX : ∀ i, X.testBit i = (decide (i < n) && (S.testBit i && decide (f i = f l))) := fun i => bset_bit _ n i
  refine ⟨X, ?_, ?_, ?_, by omega, ?_⟩
  · intro i hi
    rw [hX] at hi
    simp only [Bool.and_eq_true] at hi
    exact hi.2.1
  · rw [hX, hb, decide_eq_true hl, decide_eq_true rfl]; rfl
  · rw [qt_iff]
    intro i j hi hj b1 b2
    rw [hX] at b1 b2
    simp only [Bool.and_eq_true, decide_eq_true_eq] at b1 b2
    cases he : E i j with
    | false => rfl
    | true => exact absurd (b1.2.2.trans b2.2.2.symm) (h2 i j hi hj b1.2.1 b2.2.1 he)
  · refine ⟨fun i => if f i = k - 1 then f l else f i, ?_, ?_⟩
    · intro i hi hbi
      rw [bd_bit, hX, decide_eq_true hi] at hbi
      simp only [Bool.true_and, Bool.and_eq_true, Bool.not_eq_true', Bool.and_eq_false_iff, decide_eq_false_iff_not] at hbi
      have hf : ¬ f i = f l := by
        rcases hbi.2 with h | h
        · rw [hbi.1] at h; cases h
        · exact h
      have := h1 i hi hbi.1
      show (if f i = k - 1 then f l else f i) < k - 1
      split <;> omega
    · intro i j hi hj b1 b2 he
      rw [bd_bit, hX, decide_eq_true hi] at b1
      rw [bd_bit, hX, decide_eq_true hj] at b2
      simp only [Bool.true_and, Bool.and_eq_true, Bool.not_eq_true', Bool.and_eq_false_iff, decide_eq_false_iff_not] at b1 b2
      have f1 : ¬ f i = f l := by
        rcases b1.2 with h | h
        · rw [b1.1] at h; cases h
        · exact h
      have f2 : ¬ f j = f l := by
        rcases b2.2 with h | h
        · rw [b2.1] at h; cases h
        · exact h
      have := h2 i j hi hj b1.1 b2.1 he
      show (if f i = k - 1 then f l else f i) ≠ (if f j = k - 1 then f l else f j)
      split <;> split <;> omega
section CLS
variable {P : Pal} {n : Nat} {hs nu : Nat → Nat}
/-- parts are found of all sets below -/
def mkX (M : PM) (c : Nat) (E : Nat → Nat → Bool) (n k : Nat) : Prop := ∀ s, s < k → isX E n s (chi E n s) ∧ M.1 c s = nI (chi E n s)
theorem chi_le {E : Nat → Nat → Bool} (hE : ∀ i, E i i = false) {n S : Nat} (h : isX E n S (chi E n S)) : chi E n S ≤ n := h.2 _ (pc_id hE S (Nat.le_refl _))
theorem s_fewestPartsOf {M : PM} (h : cK M P n hs nu) (hq : mkQ M P n hs (2 ^ n)) {s : Nat} (h1 : 1 ≤ s) (h2 : s < 2 ^ n) (hx : mkX M 246 (eF P hs) n s) : isX (eF P hs) n s (chi (eF P hs) n s) ∧ f_X1_fewestPartsOf (nI s) M = some (nI (chi (eF P hs) n s), M) := by
  have h10 := h.1.1
  have h3 : 2 ^ n ≤ 2 ^ 10 := Nat.pow_le_pow_right (by decide) h10
  obtain ⟨l, l1, l2, l3⟩ := low_ex s s (Nat.le_refl _) (by omega)
  have hl : l < n := lt2_iff.mp h2 l l1
  have ho : (s &&& (s - 1)) < s := Nat.lt_of_le_of_lt (Nat.and_le_right) (by omega)
  have el : bd s (s &&& (s - 1)) = 2 ^ l := by
    apply Nat.eq_of_testBit_eq
    intro i
    rw [bd_bit, l3, Nat.testBit_two_pow]
    by_cases e : l = i
    · subst e; rw [l1]; simp
    · rw [decide_eq_false e, decide_eq_true (show i ≠ l from fun z => e z.symm)]
      cases s.testBit i <;> rfl
  have hE : ∀ i, eF P hs i i = false := eF_self P hs
  suffices hsuf : ∃ m, isX (eF P hs) n s m ∧ f_X1_fewestPartsOf (nI s) M = some (nI m, M) by
    obtain ⟨m, g1, g2⟩ := hsuf
    rw [g1.chi]
    exact ⟨g1, g2⟩
  unfold f_X1_fewestPartsOf
  rw [h.1.2, q_lit 1, gO, q_sub h1, q_m1, q_and, q_bd, el]
  generalize ho' : s &&& (s - 1) = o at *
  refine hr_for (σ := Nat × Nat) (fun f i x => f_X1_fewestPartsOf_24 (nI s) f (nI o) (nI (2 ^ l)) (nI x.1) (nI x.2) (nI i) M) (o + 1) (fun i x => i + x.2 ≤ o ∧ sub2 x.2 o ∧ x.1 ≤ n ∧ pc (eF P hs) n s x.1 ∧ ∀ X, sub2 X o → x.2 < X → qt (eF P hs) n (X ||| 2 ^ l) = true → x.1 ≤ 1 + chi (eF P hs) n (bd o X)) (fun r => ∃ m, isX (eF P hs) n s m ∧ r = some (nI m, M)) ?_ ?_ FU 0 (n, o) (Nat.zero_le _) (FU_ok (by omega)) ⟨by show 0 + o ≤ o; omega, fun i hi => hi, Nat.le_refl _, pc_id hE s (Nat.le_refl _), fun X hX hlt => by have := hX.le; have : o < X := hlt; omega⟩
  · rintro f i ⟨m, w⟩ hi ⟨a1, a2, a3, a4, a5⟩
    dsimp only at a1 a2 a3 a4 a5
    have hwl : w ||| 2 ^ l < 2 ^ n := Nat.or_lt_two_pow (by omega) (Nat.pow_lt_pow_right (by decide) hl)
    have hbl := bd_le o w
    have g1 := hq (w ||| 2 ^ l) hwl
    obtain ⟨x1, x2⟩ := hx (bd o w) (by omega)
    have x3 := chi_le hE x1
    have ewith : bd o w = bd s (w ||| 2 ^ l) := by
      apply Nat.eq_of_testBit_eq
      intro i
      rw [bd_bit, bd_bit, l3, Nat.testBit_or, Nat.testBit_two_pow]
      by_cases e : l = i
      · subst e; simp
      · rw [decide_eq_false e, decide_eq_true (show i ≠ l from fun z => e z.symm)]
        simp
    -- what follows a set that is tried
    have next : ∀ m', m' ≤ m → pc (eF P hs) n s m' → (qt (eF P hs) n (w ||| 2 ^ l) = true → m' ≤ 1 + chi (eF P hs) n (bd o w)) → (∃ m, isX (eF P hs) n s m ∧ f_X1_fewestPartsOf_62 (nI s) (fun x2 x3 x4 x5 x6 M => f_X1_fewestPartsOf_24 (nI s) f x2 x3 x4 x5 x6 M) (nI o) (nI (2 ^ l)) (nI m') (nI w) (nI i) M = some (nI m, M)) ∨ ∃ s' : Nat × Nat, f_X1_fewestPartsOf_62 (nI s) (fun x2 x3 x4 x5 x6 M => f_X1_fewestPartsOf_24 (nI s) f x2 x3 x4 x5 x6 M) (nI o) (nI (2 ^ l)) (nI m') (nI w) (nI i) M = f_X1_fewestPartsOf_24 (nI s) f (nI o) (nI (2 ^ l)) (nI s'.1) (nI s'.2) (nI (i + 1)) M ∧ i + 1 + s'.2 ≤ o ∧ sub2 s'.2 o ∧ s'.1 ≤ n ∧ pc (eF P hs) n s s'.1 ∧ ∀ X, sub2 X o → s'.2 < X → qt (eF P hs) n (X ||| 2 ^ l) = true → s'.1 ≤ 1 + chi (eF P hs) n (bd o X) := by
      intro m' hm hp hw2
      unfold f_X1_fewestPartsOf_62
      by_cases hw0 : w = 0
      · left
        subst hw0
        rw [if_pos (show nI 0 = 0 from rfl)]
        refine ⟨m', ⟨hp, ?_⟩, rfl⟩
        intro k hk
        obtain ⟨X, y1, y2, y3, y4, y5⟩ := pc_drop hk hl l1
        have z1 : sub2 (bd X (2 ^ l)) o := by
          intro i hi
          rw [bd_bit, Nat.testBit_two_pow, Bool.and_eq_true] at hi
          rw [l3, y1 i hi.1]
          have := hi.2
          simp only [Bool.not_eq_true', decide_eq_false_iff_not] at this
          rw [decide_eq_true (show i ≠ l from fun z => this z.symm)]
          rfl
        have z2 : bd X (2 ^ l) ||| 2 ^ l = X := by
          apply Nat.eq_of_testBit_eq
          intro i
          rw [Nat.testBit_or, bd_bit, Nat.testBit_two_pow]
          by_cases e : l = i
          · subst e; rw [y2]; simp
          · rw [decide_eq_false e]; simp
        have z3 : bd o (bd X (2 ^ l)) = bd s X := by
          apply Nat.eq_of_testBit_eq
          intro i
          rw [bd_bit, bd_bit, bd_bit, l3, Nat.testBit_two_pow]
          by_cases e : l = i
          · subst e; rw [y2]; simp
          · rw [decide_eq_false e, decide_eq_true (show i ≠ l from fun z => e z.symm)]; simp
        have z4 : bd o (bd X (2 ^ l)) < s := Nat.lt_of_le_of_lt (bd_le _ _) ho
        have z5 := (hx _ z4).1.2 (k - 1) (by rw [z3]; exact y5)
        rcases Nat.eq_zero_or_pos (bd X (2 ^ l)) with z6 | z6
        · have := hw2 (by rw [← z2, z6] at y3; exact y3)
          rw [z6] at z5
          omega
        · have := a5 _ z1 z6 (by rw [z2]; exact y3)
          omega
      · right
        have hn1 : ((w - 1) &&& o) < w := Nat.lt_of_le_of_lt (Nat.and_le_left) (by omega)
        rw [if_neg (show ¬ nI w = 0 from fun z => hw0 ((q_eq (by omega) (by omega)).mp z)), q_lit 1, gO, q_sub (show 1 ≤ w by omega), q_and, q_add]
        refine ⟨(m', (w - 1) &&& o), rfl, by show i + 1 + ((w - 1) &&& o) ≤ o; omega, and_sub _ _, by show m' ≤ n; omega, hp, ?_⟩
        intro X hX hlt hqX
        show m' ≤ _
        by_cases e : X = w
        · subst e; exact hw2 hqX
        · have hge : w ≤ X := by
            apply Nat.le_of_not_lt
            intro z
            have := next_sub w w o X (Nat.le_refl _) a2 hX z
            have : (w - 1) &&& o < X := hlt
            omega
          exact Nat.le_trans hm (a5 X hX (by omega) hqX)
    dsimp only
    rw [f_X1_fewestPartsOf_24.eq_2]
    simp (disch := omega) only [q_lit, q_m1, q_m2, q_m1000, q_add, q_mul, q_cl, q_le, q_lt, q_eq, q_in, q_bd_some, eq_self, if_true, if_false, q_b0, q_b1, q_b01, q_bt, q_bf, q_ft, q_tf, Nat.mul_zero, Nat.add_zero, Nat.zero_add, or_true, true_or, not_true_eq_false, not_false_eq_true, reduceCtorEq, show ¬ o < i by omega, q_or, g1, q_bd, x2, q_jn]
    cases hqq : qt (eF P hs) n (w ||| 2 ^ l) with
    | false =>
      rw [if_pos rfl]
      exact next m (Nat.le_refl _) a4 (fun z => by rw [hqq] at z; cases z)
    | true =>
      rw [if_neg (by simp)]
      refine next (min m (1 + chi (eF P hs) n (bd o w))) (Nat.min_le_left _ _) ?_ (fun _ => Nat.min_le_right _ _)
      by_cases hmin : m ≤ 1 + chi (eF P hs) n (bd o w)
      · rw [Nat.min_eq_left hmin]; exact a4
      · rw [Nat.min_eq_right (by omega), Nat.add_comm]
        exact pc_add (by rw [← ewith]; exact x1.1) hqq
  · rintro f ⟨m, w⟩ ⟨a1, -⟩
    dsimp only at a1
    omega
theorem s_fewestParts {M0 : PM} (h : cK M0 P n hs nu) : hw (f_X1_fewestParts M0) (fun v _ => v = nI (chi (eF P hs) n (2 ^ n - 1))) := by
  have h10 := h.1.1
  have h2 : 1 ≤ 2 ^ n := Nat.one_le_two_pow
  have h3 : 2 ^ n ≤ 2 ^ 10 := Nat.pow_le_pow_right (by decide) h10
  unfold f_X1_fewestParts
  obtain ⟨M1, g1, g2, g3⟩ := s_findQuiet h
  have hK : cK M1 P n hs nu := h.fr g3 rfl (fun _ => rfl) (fun _ => rfl) (fun _ => rfl)
  rw [g1, q_bd_some, if_pos (show inB 0 1024 = true from q_in (i := 0) (by omega) (by omega))]
  have fr1 : ∀ s v {M : PM}, hr_fr [(246, 0)] M1 M → hr_fr [(246, 0)] M1 (hr_si M 246 s v) := fun s v M hf => hr_fr.si rfl hf
  have add : ∀ {M : PM} {s : Nat}, mkX M 246 (eF P hs) n s → isX (eF P hs) n s (chi (eF P hs) n s) → mkX (hr_si M 246 s (nI (chi (eF P hs) n s))) 246 (eF P hs) n (s + 1) := by
    intro M s hm hi t ht
    rw [si_same]
    by_cases e : t = s
    · rw [if_pos e, e]; exact ⟨hi, rfl⟩
    · rw [if_neg e]; exact hm t (by omega)
  refine hr_for (σ := PM) (fun f s M => f_X1_fewestParts_13 f (nI s) M) (2 ^ n) (fun s M => (1 ≤ s ∧ mkX M 246 (eF P hs) n s) ∧ hr_fr [(246, 0)] M1 M) (fun r => hw r (fun v _ => v = nI (chi (eF P hs) n (2 ^ n - 1)))) ?_ ?_ FU 1 (hr_si M1 246 0 (nI 0)) h2 (FU_ok (by omega)) ⟨⟨Nat.le_refl _, ?_⟩, fr1 _ _ (hr_fr.rf _ _)⟩
  · rintro f s M hs2 ⟨⟨hs1, hm⟩, hf⟩
    right
    have hKM : cK M P n hs nu := hK.fr hf rfl (fun _ => rfl) (fun _ => rfl) (fun _ => rfl)
    have hqM : mkQ M P n hs (2 ^ n) := fun t ht => (hf.at 247 t rfl).trans (g2 t ht)
    obtain ⟨x1, x2⟩ := s_fewestPartsOf hKM hqM hs1 hs2 hm
    show ∃ s', f_X1_fewestParts_13 (f + 1) (nI s) M = f_X1_fewestParts_13 f (nI (s + 1)) s' ∧ _
    rw [f_X1_fewestParts_13.eq_2]
    simp (disch := omega) only [q_lit, q_m1, q_m2, q_m1000, q_add, q_mul, q_cl, q_le, q_lt, q_eq, q_in, q_bd_some, eq_self, if_true, if_false, q_b0, q_b1, q_b01, q_bt, q_bf, q_ft, q_tf, Nat.mul_zero, Nat.add_zero, Nat.zero_add, or_true, true_or, not_true_eq_false, not_false_eq_true, reduceCtorEq, s_everyone hKM, show ¬ 2 ^ n - 1 < s by omega, x2]
    exact ⟨_, rfl, ⟨by omega, add hm x1⟩, fr1 _ _ hf⟩
  · rintro f M ⟨⟨hs1, hm⟩, hf⟩
    have hKM : cK M P n hs nu := hK.fr hf rfl (fun _ => rfl) (fun _ => rfl) (fun _ => rfl)
    show hw (f_X1_fewestParts_13 (f + 1) (nI (2 ^ n)) M) _
    rw [f_X1_fewestParts_13.eq_2]
    simp (disch := omega) only [q_lit, q_m1, q_m2, q_m1000, q_add, q_mul, q_cl, q_le, q_lt, q_eq, q_in, q_bd_some, eq_self, if_true, if_false, q_b0, q_b1, q_b01, q_bt, q_bf, q_ft, q_tf, Nat.mul_zero, Nat.add_zero, Nat.zero_add, or_true, true_or, not_true_eq_false, not_false_eq_true, reduceCtorEq, s_everyone hKM, show 2 ^ n - 1 < 2 ^ n by omega]
    exact hw.ok (hm _ (by omega)).2
  · intro t ht
    rw [show t = 0 by omega, si_same, if_pos rfl, (pc_0 (eF P hs) n).chi]
    exact ⟨pc_0 _ _, rfl⟩
end CLS
