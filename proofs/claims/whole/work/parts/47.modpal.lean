/-! the model's palette in hand -/
theorem s_in0 (M : PM) (x : Int32) {n : Nat} (hn : n < 2147483648) : f_X11_in x (nI 0) (zI ((n : Int) - 1)) M = some (bI (ix x n).isSome, M) := by
  unfold f_X11_in
  cases h : ix x n with
  | none =>
    rcases ix_none h (by omega) with h0 | ⟨j, h1, rfl, h2⟩
    · rw [if_pos (show x < nI 0 from h0)]; rfl
    · rw [if_neg (show ¬ nI j < nI 0 from nI_pos h1), if_pos ((q_znlt (by omega) h1).mpr (by omega))]; rfl
  | some k =>
    obtain ⟨rfl, h1, h2⟩ := ix_some h
    rw [if_neg (show ¬ nI k < nI 0 from nI_pos h2), if_neg (fun z => by have := (q_znlt (by omega) h2).mp z; omega)]; rfl
theorem s_inc (M : PM) (x : Int32) {c : Nat} (hn : c < 2147483647) : f_X11_in x (nI 0) (nI c) M = some (bI (ix x (c + 1)).isSome, M) := by
  rw [q_nz c, show (c : Int) = ((c + 1 : Nat) : Int) - 1 by omega]
  exact s_in0 M x (by omega)
theorem s_inab (M : PM) (x : Int32) {a c : Nat} (ha : a < 2147483648) (hc : c < 2147483648) : f_X11_in x (nI a) (nI c) M = some (bI (decide (¬ x < 0 ∧ a ≤ x.toNatClampNeg ∧ x.toNatClampNeg ≤ c)), M) := by
  unfold f_X11_in
  rcases q_any x with h0 | ⟨n, h1, rfl⟩
  · rw [if_pos (q_neg_lt h0 ha), decide_eq_false (fun z => z.1 h0)]; rfl
  · simp (disch := omega) only [q_lit, q_m1, q_m2, q_m1000, q_add, q_mul, q_cl, q_le, q_lt, q_eq, q_in, q_bd_some, eq_self, if_true, if_false, q_b0, q_b1, q_b01, q_bt, q_bf, q_ft, q_tf, Nat.mul_zero, Nat.add_zero, Nat.zero_add, or_true, true_or, not_true_eq_false, not_false_eq_true, reduceCtorEq, nI_pos h1]
    by_cases h2 : n < a
    · rw [if_pos h2, decide_eq_false (by omega)]; rfl
    · rw [if_neg h2]
      by_cases h3 : c < n
      · rw [if_pos h3, decide_eq_false (by omega)]; rfl
      · rw [if_neg h3, decide_eq_true (show ¬ n < 0 ∧ a ≤ n ∧ n ≤ c by omega)]; rfl
/-- the palette k of the model's own, as told now -/
def mP (M : PM) (k : Nat) (P : Pal) : Prop := (k < 2 ∧ pOK P) ∧ (M.1 281 (70 * k) = nI (pH P) ∧ M.1 281 (70 * k + 1) = nI (pR P)) ∧ (∀ i, i < 3 * pH P → M.1 281 (70 * k + (2 + i)) = nI (pP P i)) ∧ (∀ i, i < 3 * pR P → M.1 281 (70 * k + (32 + i)) = zI (pU P i)) ∧ ∀ i, i < 20 → M.1 281 (70 * k + (50 + i)) = nI (pL P i)
theorem mT.pal {M : PM} {T : Tol} (h : mT M 0 T) (ok : tOK T) {k : Nat} (hk : k < 2) : mP M k (tP T k) := by
  obtain ⟨⟨h1, h2⟩, h3, h4, h5⟩ := h.2.2.2.1 k hk
  simp only [Nat.mul_zero, Nat.zero_add, Nat.add_assoc] at h1 h2 h3 h4 h5
  exact ⟨⟨hk, ok.2.2.2.1 k hk⟩, ⟨h1, h2⟩, h3, h4, h5⟩
theorem mP.at {M M' : PM} {k : Nat} {P : Pal} (h : mP M k P) (g : M'.1 281 = M.1 281) : mP M' k P := by
  unfold mP at h ⊢
  rw [g]
  exact h
/-- it is in hand -/
def hM (M : PM) (k : Nat) (P : Pal) : Prop := mP M k P ∧ (M.1 275 24 = nI k ∧ M.1 275 25 = nI (pH P)) ∧ ∀ x y, x < pH P → y < pH P → M.1 288 (10 * x + y) = nI (strH P x y)
theorem hM.at {M M' : PM} {k : Nat} {P : Pal} (h : hM M k P) (g : M'.1 281 = M.1 281) (g1 : M'.1 275 24 = M.1 275 24) (g2 : M'.1 275 25 = M.1 275 25) (g3 : M'.1 288 = M.1 288) : hM M' k P := by
  refine ⟨h.1.at g, ⟨g1.trans h.2.1.1, g2.trans h.2.1.2⟩, ?_⟩
  rw [g3]
  exact h.2.2
theorem hr_fr.row {W : List (Nat × Nat)} {M M' : PM} (h : hr_fr W M M') (a : Nat) (hw : ∀ k, hr_in W a k = false) : M'.1 a = M.1 a := funext (fun k => (h.1 a k (hw k)).1)
theorem hr_fr.rowL {W : List (Nat × Nat)} {M M' : PM} (h : hr_fr W M M') (a : Nat) (hw : ∀ k, hr_in W a k = false) : M'.2.1 a = M.2.1 a := funext (fun k => (h.1 a k (hw k)).2)
theorem hr_fr.at {W : List (Nat × Nat)} {M M' : PM} (h : hr_fr W M M') (a k : Nat) (hw : hr_in W a k = false) : M'.1 a k = M.1 a k := (h.1 a k hw).1
section MOD
variable {M : PM} {k : Nat} {P : Pal}
theorem s_of (hP : mP M k P) (h24 : M.1 275 24 = nI k) {i : Nat} (hi : i < 70) : f_X11_of (nI i) M = some (M.1 281 (70 * k + i), M) := by
  have hk := hP.1.1
  unfold f_X11_of
  rw [h24]
  simp (disch := omega) only [q_lit, q_m1, q_m2, q_m1000, q_add, q_mul, q_cl, q_le, q_lt, q_eq, q_in, q_bd_some, eq_self, if_true, if_false, q_b0, q_b1, q_b01, q_bt, q_bf, q_ft, q_tf, Nat.mul_zero, Nat.add_zero, Nat.zero_add, or_true, true_or, not_true_eq_false, not_false_eq_true, reduceCtorEq]
theorem s_part11 (hP : mP M k P) (h24 : M.1 275 24 = nI k) {h p : Nat} (hh : h < pH P) (hp : p < 3) : f_X11_part (nI h) (nI p) M = some (nI (pP P (3 * h + p)), M) := by
  have hn : pH P ≤ 10 := hP.1.2.1
  unfold f_X11_part
  simp (disch := omega) only [q_lit, q_m1, q_m2, q_m1000, q_add, q_mul, q_cl, q_le, q_lt, q_eq, q_in, q_bd_some, eq_self, if_true, if_false, q_b0, q_b1, q_b01, q_bt, q_bf, q_ft, q_tf, Nat.mul_zero, Nat.add_zero, Nat.zero_add, or_true, true_or, not_true_eq_false, not_false_eq_true, reduceCtorEq, s_of hP h24]
  rw [show 2 + 3 * h + p = 2 + (3 * h + p) by omega, hP.2.2.1 (3 * h + p) (by omega)]
theorem s_ruleOf (hP : mP M k P) (h24 : M.1 275 24 = nI k) {j w : Nat} (hj : j < pR P) (hw : w < 3) : f_X11_ruleOf (nI j) (nI w) M = some (zI (pU P (3 * j + w)), M) := by
  have hn : pR P ≤ 6 := hP.1.2.2.1
  unfold f_X11_ruleOf
  simp (disch := omega) only [q_lit, q_m1, q_m2, q_m1000, q_add, q_mul, q_cl, q_le, q_lt, q_eq, q_in, q_bd_some, eq_self, if_true, if_false, q_b0, q_b1, q_b01, q_bt, q_bf, q_ft, q_tf, Nat.mul_zero, Nat.add_zero, Nat.zero_add, or_true, true_or, not_true_eq_false, not_false_eq_true, reduceCtorEq, s_of hP h24]
  rw [show 32 + 3 * j + w = 32 + (3 * j + w) by omega, hP.2.2.2.1 (3 * j + w) (by omega)]
/-- memory with three numbers laid at a place -/
def lay3 (M : PM) (a : Nat) (x y z : Nat) : PM := hr_si (hr_si (hr_si M 289 a (nI x)) 289 (a + 1) (nI y)) 289 (a + 2) (nI z)
theorem lay3_ne (M : PM) (a x y z : Nat) {c : Nat} (h : c ≠ 289) : (lay3 M a x y z).1 c = M.1 c := by
  funext j
  simp [lay3, q_si1, h]
theorem lay3_2 (M : PM) (a x y z : Nat) : (lay3 M a x y z).2 = M.2 := rfl
theorem s_layHue (hP : mP M k P) (h24 : M.1 275 24 = nI k) {h a : Nat} (hh : h < pH P) (ha : a = 0 ∨ a = 3) : f_X11_layHue (nI a) (nI h) M = some ((), lay3 M a (pP P (3 * h)) (pP P (3 * h + 1)) (pP P (3 * h + 2))) := by
  have st : ∀ (f : Nat) (M' : PM) (p : Nat), p < 3 → M'.1 281 = M.1 281 → M'.1 275 = M.1 275 → f_X11_layHue_2 (nI a) (nI h) (f + 1) (nI p) M' = f_X11_layHue_2 (nI a) (nI h) f (nI (p + 1)) (hr_si M' 289 (a + p) (nI (pP P (3 * h + p)))) := by
    intro f M' p hp e1 e2
    rw [f_X11_layHue_2.eq_2]
    simp (disch := omega) only [q_lit, q_m1, q_m2, q_m1000, q_add, q_mul, q_cl, q_le, q_lt, q_eq, q_in, q_bd_some, eq_self, if_true, if_false, q_b0, q_b1, q_b01, q_bt, q_bf, q_ft, q_tf, Nat.mul_zero, Nat.add_zero, Nat.zero_add, or_true, true_or, not_true_eq_false, not_false_eq_true, reduceCtorEq, show ¬ 3 ≤ p by omega, s_part11 (hP.at e1) (by rw [e2]; exact h24) hh hp]
  unfold f_X11_layHue
  show f_X11_layHue_2 (nI a) (nI h) (3996 + 1 + 1 + 1 + 1) (nI 0) M = _
  rw [st _ M 0 (by omega) rfl rfl, st _ _ 1 (by omega) (by funext j; simp [q_si1]) (by funext j; simp [q_si1]), st _ _ 2 (by omega) (by funext j; simp [q_si1]) (by funext j; simp [q_si1]), f_X11_layHue_2.eq_2]
  simp (disch := omega) only [q_lit, q_m1, q_m2, q_m1000, q_add, q_mul, q_cl, q_le, q_lt, q_eq, q_in, q_bd_some, eq_self, if_true, if_false, q_b0, q_b1, q_b01, q_bt, q_bf, q_ft, q_tf, Nat.mul_zero, Nat.add_zero, Nat.zero_add, or_true, true_or, not_true_eq_false, not_false_eq_true, reduceCtorEq, Nat.le_refl, lay3]
theorem s_layColour (M : PM) {c : Nat} (hc : c < 1000) : f_X11_layColour (nI 3) (nI c) M = some ((), lay3 M 3 (c / 100) (c / 10 % 10) (c % 10)) := by
  unfold f_X11_layColour
  simp (disch := omega) only [q_lit, q_m1, q_m2, q_m1000, q_add, q_mul, q_cl, q_le, q_lt, q_eq, q_in, q_bd_some, eq_self, if_true, if_false, q_b0, q_b1, q_b01, q_bt, q_bf, q_ft, q_tf, Nat.mul_zero, Nat.add_zero, Nat.zero_add, or_true, true_or, not_true_eq_false, not_false_eq_true, reduceCtorEq, q_div, q_rem, lay3]
/-- what lies in both -/
def laid (M : PM) (m t : Nat → Nat) : Prop := ∀ p, p < 3 → M.1 289 p = nI (m p) ∧ M.1 289 (3 + p) = nI (t p)
def meaF (m : Nat → Nat) (s x : Int) : Nat := if s = 0 then m 0 + m 1 + m 2 else m x.toNat
theorem s_size (M : PM) {z : Int} (h : -2147483648 < z ∧ z < 2147483648) : f_X11_size (zI z) M = some (nI z.natAbs, M) := by
  unfold f_X11_size
  rw [q_lit 0, show (OfNat.ofNat 0 : Nat) = 0 from rfl, q_nz, q_nz]
  by_cases hz : 0 ≤ z
  · rw [if_pos ((q_zle (by omega) (by omega)).mpr (by omega))]
    congr 3
    omega
  · rw [if_neg (fun q => hz (by have := (q_zle (by omega) (by omega)).mp q; omega))]
    congr 2
    rw [show -(zI z) = zI (-z) from (Int32.ofInt_neg z).symm]
    congr 1
    omega
theorem s_holds {m t : Nat → Nat} (hL : laid M m t) (hm : ∀ p, p < 3 → m p ≤ 9 ∧ t p ≤ 9) {s x y : Int} (hr : ruOK s x y) : f_X11_holds (zI s) (zI x) (zI y) M = some (bI (tch s x y (meaF m s x) (meaF t s x)), M) := by
  obtain ⟨h1, h2, h3, h4, h5⟩ := hr
  have g0 := hL 0 (by omega)
  have g1 := hL 1 (by omega)
  have g2 := hL 2 (by omega)
  have b0 := hm 0 (by omega)
  have b1 := hm 1 (by omega)
  have b2 := hm 2 (by omega)
  have e : s = 0 ∨ s = 1 ∨ s = 2 ∨ s = 3 ∨ s = 4 := by omega
  unfold f_X11_holds
  rcases e with rfl | rfl | rfl | rfl | rfl
  · have ea : f_X11_allParts M = some (nI (m 0 + m 1 + m 2 + (t 0 + t 1 + t 2)), M) := by
      have st : ∀ (f : Nat) (acc p v : Nat), p < 6 → M.1 289 p = nI v → f_X11_allParts_4 (f + 1) (nI acc) (nI p) M = f_X11_allParts_4 f (nI (acc + v)) (nI (p + 1)) M := by
        intro f acc p v hp hv
        rw [f_X11_allParts_4.eq_2]
        simp (disch := omega) only [q_lit, q_m1, q_m2, q_m1000, q_add, q_mul, q_cl, q_le, q_lt, q_eq, q_in, q_bd_some, eq_self, if_true, if_false, q_b0, q_b1, q_b01, q_bt, q_bf, q_ft, q_tf, Nat.mul_zero, Nat.add_zero, Nat.zero_add, or_true, true_or, not_true_eq_false, not_false_eq_true, reduceCtorEq, show ¬ 6 ≤ p by omega, hv]
      unfold f_X11_allParts
      show f_X11_allParts_4 (3993 + 1 + 1 + 1 + 1 + 1 + 1 + 1) (nI 0) (nI 0) M = _
      rw [st _ _ 0 _ (by omega) g0.1, st _ _ 1 _ (by omega) g1.1, st _ _ 2 _ (by omega) g2.1, st _ _ 3 _ (by omega) g0.2, st _ _ 4 _ (by omega) g1.2, st _ _ 5 _ (by omega) g2.2, f_X11_allParts_4.eq_2]
      simp (disch := omega) only [q_lit, q_m1, q_m2, q_m1000, q_add, q_mul, q_cl, q_le, q_lt, q_eq, q_in, q_bd_some, eq_self, if_true, if_false, q_b0, q_b1, q_b01, q_bt, q_bf, q_ft, q_tf, Nat.mul_zero, Nat.add_zero, Nat.zero_add, or_true, true_or, not_true_eq_false, not_false_eq_true, reduceCtorEq, Nat.le_refl]
      congr 3
      omega
    obtain ⟨x, rfl⟩ : ∃ n : Nat, x = n := ⟨x.toNat, by omega⟩
    rw [if_pos (show zI 0 = 0 from rfl), ea, q_bd_some]
    unfold f_X11_in meaF tch
    simp (disch := omega) only [q_lit, q_m1, q_m2, q_m1000, q_add, q_mul, q_cl, q_le, q_lt, q_eq, q_in, q_bd_some, eq_self, if_true, if_false, q_b0, q_b1, q_b01, q_bt, q_bf, q_ft, q_tf, Nat.mul_zero, Nat.add_zero, Nat.zero_add, or_true, true_or, not_true_eq_false, not_false_eq_true, reduceCtorEq, q_nzlt, q_znlt]
    by_cases c1 : ((m 0 + m 1 + m 2 + (t 0 + t 1 + t 2) : Nat) : Int) < x
    · rw [if_pos c1, decide_eq_false (by omega)]
      simp (disch := omega) only [q_lit, q_m1, q_m2, q_m1000, q_add, q_mul, q_cl, q_le, q_lt, q_eq, q_in, q_bd_some, eq_self, if_true, if_false, q_b0, q_b1, q_b01, q_bt, q_bf, q_ft, q_tf, Nat.mul_zero, Nat.add_zero, Nat.zero_add, or_true, true_or, not_true_eq_false, not_false_eq_true, reduceCtorEq]
    · rw [if_neg c1]
      by_cases c2 : y < ((m 0 + m 1 + m 2 + (t 0 + t 1 + t 2) : Nat) : Int)
      · rw [if_pos c2, decide_eq_false (by omega)]
        simp (disch := omega) only [q_lit, q_m1, q_m2, q_m1000, q_add, q_mul, q_cl, q_le, q_lt, q_eq, q_in, q_bd_some, eq_self, if_true, if_false, q_b0, q_b1, q_b01, q_bt, q_bf, q_ft, q_tf, Nat.mul_zero, Nat.add_zero, Nat.zero_add, or_true, true_or, not_true_eq_false, not_false_eq_true, reduceCtorEq]
      · rw [if_neg c2, decide_eq_true (by omega)]
        simp (disch := omega) only [q_lit, q_m1, q_m2, q_m1000, q_add, q_mul, q_cl, q_le, q_lt, q_eq, q_in, q_bd_some, eq_self, if_true, if_false, q_b0, q_b1, q_b01, q_bt, q_bf, q_ft, q_tf, Nat.mul_zero, Nat.add_zero, Nat.zero_add, or_true, true_or, not_true_eq_false, not_false_eq_true, reduceCtorEq]
  · have hx : x ≤ 2 := h4 (Or.inl rfl)
    obtain ⟨x, rfl⟩ : ∃ n : Nat, x = n := ⟨x.toNat, by omega⟩
    have gx := hL x (by omega)
    have bx := hm x (by omega)
    rw [if_neg (show ¬ zI 1 = 0 by decide), if_pos (show zI 1 = 1 from rfl), ← q_nz]
    unfold meaF tch
    simp (disch := omega) only [q_lit, q_m1, q_m2, q_m1000, q_add, q_mul, q_cl, q_le, q_lt, q_eq, q_in, q_bd_some, eq_self, if_true, if_false, q_b0, q_b1, q_b01, q_bt, q_bf, q_ft, q_tf, Nat.mul_zero, Nat.add_zero, Nat.zero_add, or_true, true_or, not_true_eq_false, not_false_eq_true, reduceCtorEq, gx.1, gx.2]
    rw [q_nsub]
    simp (disch := omega) only [q_lit, q_m1, q_m2, q_m1000, q_add, q_mul, q_cl, q_le, q_lt, q_eq, q_in, q_bd_some, eq_self, if_true, if_false, q_b0, q_b1, q_b01, q_bt, q_bf, q_ft, q_tf, Nat.mul_zero, Nat.add_zero, Nat.zero_add, or_true, true_or, not_true_eq_false, not_false_eq_true, reduceCtorEq, s_size, q_nzlt, Int.toNat_natCast]
    rw [if_neg (show ¬ (1 : Int) = 0 by decide), if_neg (show ¬ (1 : Int) = 0 by decide), if_neg (show ¬ (1 : Int) = 0 by decide)]
    by_cases c1 : (((m x : Int) - t x).natAbs : Int) < y
    · rw [if_pos c1, decide_eq_false (by omega)]; rfl
    · rw [if_neg c1, decide_eq_true (by omega)]; rfl
  · have hx : x ≤ 2 := h4 (Or.inr (Or.inl rfl))
    obtain ⟨x, rfl⟩ : ∃ n : Nat, x = n := ⟨x.toNat, by omega⟩
    have gx := hL x (by omega)
    have bx := hm x (by omega)
    rw [if_neg (show ¬ zI 2 = 0 by decide), if_neg (show ¬ zI 2 = 1 by decide), if_pos (show zI 2 = 2 from rfl), ← q_nz]
    unfold meaF tch
    simp (disch := omega) only [q_lit, q_m1, q_m2, q_m1000, q_add, q_mul, q_cl, q_le, q_lt, q_eq, q_in, q_bd_some, eq_self, if_true, if_false, q_b0, q_b1, q_b01, q_bt, q_bf, q_ft, q_tf, Nat.mul_zero, Nat.add_zero, Nat.zero_add, or_true, true_or, not_true_eq_false, not_false_eq_true, reduceCtorEq, gx.1, gx.2, Int.toNat_natCast]
    rw [if_neg (show ¬ (2 : Int) = 0 by decide), if_neg (show ¬ (2 : Int) = 1 by decide), if_neg (show ¬ (2 : Int) = 0 by decide), if_neg (show ¬ (2 : Int) = 0 by decide)]
    by_cases c1 : m x = t x
    · rw [if_pos c1]
      by_cases c2 : m x ≤ 0
      · rw [if_pos c2, decide_eq_false (by omega)]; rfl
      · rw [if_neg c2, decide_eq_true (by omega)]; rfl
    · rw [if_neg c1, decide_eq_false (by omega)]; rfl
  · rw [if_neg (show ¬ zI 3 = 0 by decide), if_neg (show ¬ zI 3 = 1 by decide), if_neg (show ¬ zI 3 = 2 by decide), if_pos (show zI 3 = 3 from rfl)]
    rfl
  · have hx : x ≤ 2 := h4 (Or.inr (Or.inr rfl))
    obtain ⟨x, rfl⟩ : ∃ n : Nat, x = n := ⟨x.toNat, by omega⟩
    have gx := hL x (by omega)
    have bx := hm x (by omega)
    rw [if_neg (show ¬ zI 4 = 0 by decide), if_neg (show ¬ zI 4 = 1 by decide), if_neg (show ¬ zI 4 = 2 by decide), if_neg (show ¬ zI 4 = 3 by decide), if_pos (show zI 4 = 4 from rfl), ← q_nz]
    unfold meaF tch
    simp (disch := omega) only [q_lit, q_m1, q_m2, q_m1000, q_add, q_mul, q_cl, q_le, q_lt, q_eq, q_in, q_bd_some, eq_self, if_true, if_false, q_b0, q_b1, q_b01, q_bt, q_bf, q_ft, q_tf, Nat.mul_zero, Nat.add_zero, Nat.zero_add, or_true, true_or, not_true_eq_false, not_false_eq_true, reduceCtorEq, gx.1, gx.2, q_nzlt, Int.toNat_natCast]
    rw [if_neg (show ¬ (4 : Int) = 0 by decide), if_neg (show ¬ (4 : Int) = 1 by decide), if_neg (show ¬ (4 : Int) = 2 by decide), if_neg (show ¬ (4 : Int) = 0 by decide), if_neg (show ¬ (4 : Int) = 0 by decide)]
    by_cases c1 : ((m x + t x : Nat) : Int) < y
    · rw [if_pos c1, decide_eq_false (by omega)]; rfl
    · rw [if_neg c1, decide_eq_true (by omega)]; rfl
theorem s_str93 (a1 a2 : Int32) (k8 : Int32 → Int32 → Int32 → PM → Option (Int32 × PM)) (n i : Nat) (c b : Bool) {s : Int} (hs : 0 ≤ s ∧ s ≤ 4) (M : PM) : f_X11_strengthOf_93 a1 a2 k8 (nI n) (bI c) (nI i) (zI s) (bI b) M = k8 (nI (n + if b && !decide (s = 4) then 1 else 0)) (bI (c || (b && decide (s = 4)))) (nI (i + 1)) M := by
  unfold f_X11_strengthOf_93 f_X11_strengthOf_116
  by_cases h4 : s = 4
  · subst h4
    cases c <;> cases b <;> simp (disch := omega) only [q_lit, q_m1, q_m2, q_m1000, q_add, q_mul, q_cl, q_le, q_lt, q_eq, q_in, q_bd_some, eq_self, if_true, if_false, q_b0, q_b1, q_b01, q_bt, q_bf, q_ft, q_tf, Nat.mul_zero, Nat.add_zero, Nat.zero_add, or_true, true_or, not_true_eq_false, not_false_eq_true, reduceCtorEq] <;> rfl
  · have e : ¬ zI s = nI 4 := fun z => h4 (by have := (q_zneq (by omega) (by omega)).mp z; omega)
    have ed : decide (s = 4) = false := decide_eq_false h4
    rw [ed]
    cases c <;> cases b <;> simp (disch := omega) only [q_lit, q_m1, q_m2, q_m1000, q_add, q_mul, q_cl, q_le, q_lt, q_eq, q_in, q_bd_some, eq_self, if_true, if_false, q_b0, q_b1, q_b01, q_bt, q_bf, q_ft, q_tf, Nat.mul_zero, Nat.add_zero, Nat.zero_add, or_true, true_or, not_true_eq_false, not_false_eq_true, reduceCtorEq, e] <;> rfl
def rhoM (P : Pal) (m t : Nat → Nat) (a b : Int) (j : Nat) : Bool := if pU P (3 * j) = 3 then decide ((a = pU P (3 * j + 1) ∧ b = pU P (3 * j + 2)) ∨ (a = pU P (3 * j + 2) ∧ b = pU P (3 * j + 1))) else tch (pU P (3 * j)) (pU P (3 * j + 1)) (pU P (3 * j + 2)) (meaF m (pU P (3 * j)) (pU P (3 * j + 1))) (meaF t (pU P (3 * j)) (pU P (3 * j + 1)))
theorem s_strength11 (hP : mP M k P) (h24 : M.1 275 24 = nI k) {m t : Nat → Nat} (hL : laid M m t) (hm : ∀ p, p < 3 → m p ≤ 9 ∧ t p ≤ 9) {a b : Int} (ha : -1 ≤ a ∧ a ≤ 9) (hb : -1 ≤ b ∧ b ≤ 9) : f_X11_strengthOf (zI a) (zI b) M = some (nI (str0 P (rhoM P m t a b)), M) := by
  have hR : pR P ≤ 6 := hP.1.2.2.1
  have e1 : f_X11_of (nI 1) M = some (nI (pR P), M) := by rw [s_of hP h24 (by omega), hP.2.1.2]
  unfold f_X11_strengthOf
  refine hr_for (σ := Int32 × Int32) (fun f i s => f_X11_strengthOf_8 (zI a) (zI b) f s.1 s.2 (nI i) M) (pR P) (fun i s => s = (nI (cnt (fun j => rhoM P m t a b j && !isC P j) i), bI (exb (fun j => rhoM P m t a b j && isC P j) i))) (fun q => q = some (nI (str0 P (rhoM P m t a b)), M)) ?_ ?_ FU 0 (0, 0) (Nat.zero_le _) (FU_ok (by omega)) rfl
  · rintro f i s hi rfl
    right
    refine ⟨(nI (cnt (fun j => rhoM P m t a b j && !isC P j) (i + 1)), bI (exb (fun j => rhoM P m t a b j && isC P j) (i + 1))), ?_, rfl⟩
    show f_X11_strengthOf_8 (zI a) (zI b) (f + 1) _ _ (nI i) M = f_X11_strengthOf_8 (zI a) (zI b) f _ _ (nI (i + 1)) M
    have hq := pU_ok hP.1.2 hi
    have hl := cnt_le (fun j => rhoM P m t a b j && !isC P j) i
    rw [f_X11_strengthOf_8.eq_2]
    simp (disch := omega) only [q_lit, q_m1, q_m2, q_m1000, q_add, q_mul, q_cl, q_le, q_lt, q_eq, q_in, q_bd_some, eq_self, if_true, if_false, q_b0, q_b1, q_b01, q_bt, q_bf, q_ft, q_tf, Nat.mul_zero, Nat.add_zero, Nat.zero_add, or_true, true_or, not_true_eq_false, not_false_eq_true, reduceCtorEq, e1, show ¬ pR P ≤ i by omega, s_ruleOf hP h24 hi, s_holds hL hm hq]
    have hs := hq.1
    have hz3 : (zI (pU P (3 * i)) = nI 3) = (pU P (3 * i) = 3) := by
      rw [eq_iff_iff, q_zneq (by omega) (by omega)]
      omega
    have ee : ∀ u v : Int, -1 ≤ u ∧ u ≤ 54 → -1 ≤ v ∧ v ≤ 54 → (zI u = zI v) = (u = v) := fun u v hu hv => by rw [eq_iff_iff, q_zeq (by omega) (by omega)]
    have h12 : (-1 ≤ pU P (3 * i + 1) ∧ pU P (3 * i + 1) ≤ 54) ∧ -1 ≤ pU P (3 * i + 2) ∧ pU P (3 * i + 2) ≤ 54 := ⟨by have := hq.2.1; omega, hq.2.2.1⟩
    simp only [hz3, ee a (pU P (3 * i + 1)) (by omega) h12.1, ee b (pU P (3 * i + 2)) (by omega) h12.2]
    show _ = f_X11_strengthOf_8 (zI a) (zI b) f (nI (cnt _ i + if rhoM P m t a b i && !isC P i then 1 else 0)) (bI (exb _ i || (rhoM P m t a b i && isC P i))) (nI (i + 1)) M
    by_cases h3 : pU P (3 * i) = 3
    · rw [if_pos h3]
      have f63 : ∀ (k8 : Int32 → Int32 → Int32 → PM → Option (Int32 × PM)) (x3 x4 x5 x6 : Int32), f_X11_strengthOf_63 (zI a) (zI b) k8 x3 x4 x5 x6 (zI (pU P (3 * i + 1))) (zI (pU P (3 * i + 2))) M = f_X11_strengthOf_93 (zI a) (zI b) k8 x3 x4 x5 x6 (bI (decide (a = pU P (3 * i + 2) ∧ b = pU P (3 * i + 1)))) M := by
        intro k8 x3 x4 x5 x6
        unfold f_X11_strengthOf_63
        simp only [ee a (pU P (3 * i + 2)) (by omega) h12.2, ee b (pU P (3 * i + 1)) (by omega) h12.1]
        by_cases c1 : a = pU P (3 * i + 2)
        · rw [if_pos c1]
          by_cases c2 : b = pU P (3 * i + 1)
          · rw [if_pos c2, decide_eq_true ⟨c1, c2⟩]; rfl
          · rw [if_neg c2, decide_eq_false (fun z => c2 z.2)]; rfl
        · rw [if_neg c1, decide_eq_false (fun z => c1 z.1)]; rfl
      have er : rhoM P m t a b i = decide ((a = pU P (3 * i + 1) ∧ b = pU P (3 * i + 2)) ∨ (a = pU P (3 * i + 2) ∧ b = pU P (3 * i + 1))) := if_pos h3
      have eC : isC P i = decide (pU P (3 * i) = 4) := rfl
      rw [f63]
      by_cases c1 : a = pU P (3 * i + 1)
      · rw [if_pos c1]
        by_cases c2 : b = pU P (3 * i + 2)
        · rw [if_pos c2, show nI 1 = bI true from rfl, s_str93 _ _ _ _ _ _ _ hs M, er, decide_eq_true (Or.inl ⟨c1, c2⟩), eC]
        · rw [if_neg c2, s_str93 _ _ _ _ _ _ _ hs M, er, eC, show (decide ((a = pU P (3 * i + 1) ∧ b = pU P (3 * i + 2)) ∨ (a = pU P (3 * i + 2) ∧ b = pU P (3 * i + 1)))) = decide (a = pU P (3 * i + 2) ∧ b = pU P (3 * i + 1)) from by simp [c2]]
      · rw [if_neg c1, s_str93 _ _ _ _ _ _ _ hs M, er, eC, show (decide ((a = pU P (3 * i + 1) ∧ b = pU P (3 * i + 2)) ∨ (a = pU P (3 * i + 2) ∧ b = pU P (3 * i + 1)))) = decide (a = pU P (3 * i + 2) ∧ b = pU P (3 * i + 1)) from by simp [c1]]
    · have er : rhoM P m t a b i = tch (pU P (3 * i)) (pU P (3 * i + 1)) (pU P (3 * i + 2)) (meaF m (pU P (3 * i)) (pU P (3 * i + 1))) (meaF t (pU P (3 * i)) (pU P (3 * i + 1))) := if_neg h3
      rw [if_neg h3, ← er, s_str93 _ _ _ _ _ _ _ hs M]
      rfl
  · rintro f s rfl
    show f_X11_strengthOf_8 (zI a) (zI b) (f + 1) _ _ (nI (pR P)) M = _
    rw [f_X11_strengthOf_8.eq_2]
    simp (disch := omega) only [q_lit, q_m1, q_m2, q_m1000, q_add, q_mul, q_cl, q_le, q_lt, q_eq, q_in, q_bd_some, eq_self, if_true, if_false, q_b0, q_b1, q_b01, q_bt, q_bf, q_ft, q_tf, Nat.mul_zero, Nat.add_zero, Nat.zero_add, or_true, true_or, not_true_eq_false, not_false_eq_true, reduceCtorEq, e1, Nat.le_refl]
    unfold str0
    cases exb (fun j => rhoM P m t a b j && isC P j) (pR P)
    · rw [if_pos rfl, if_neg (by simp)]
    · rw [if_neg (by simp), if_pos rfl]
end MOD
