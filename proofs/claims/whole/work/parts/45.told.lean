/-! ALL THAT IS TOLD, by numbers: the tape, its length, the fault and its place, how many of each sort, palettes, rolls (a sort's, from 0 on) -/
abbrev Rol : Type := Nat × Nat × Nat × (Nat → Int) × (Nat → Int) × (Nat → Int)
def oN (R : Rol) : Nat := R.1
def oL (R : Rol) : Nat := R.2.1
def oS (R : Rol) : Nat := R.2.2.1
def oC (R : Rol) (i : Nat) : Int := R.2.2.2.1 i
def oA (R : Rol) (i : Nat) : Int := R.2.2.2.2.1 i
def oB (R : Rol) (i : Nat) : Int := R.2.2.2.2.2 i
abbrev Tol : Type := (Nat → Int32) × Nat × Nat × Int × (Nat → Nat) × (Nat → Pal) × (Nat → Nat → Rol)
def tT (T : Tol) (i : Nat) : Int32 := T.1 i
def tN (T : Tol) : Nat := T.2.1
def tF (T : Tol) : Nat := T.2.2.1
def tQ (T : Tol) : Int := T.2.2.2.1
def tz (T : Tol) (s : Nat) : Nat := T.2.2.2.2.1 s
def tP (T : Tol) (k : Nat) : Pal := T.2.2.2.2.2.1 k
def tR (T : Tol) (s k : Nat) : Rol := T.2.2.2.2.2.2 s k
/-- the hues that a roll's first numbers, or its sets, or both numbers tell of -/
def namA (R : Rol) : Nat → Nat
  | 0 => 0
  | n + 1 => namA R n ||| 2 ^ (oA R n).toNat
def namS (R : Rol) : Nat → Nat
  | 0 => 0
  | n + 1 => namS R n ||| (oA R n).toNat
def namB (R : Rol) : Nat → Nat
  | 0 => 0
  | n + 1 => namB R n ||| (2 ^ (oA R n).toNat ||| 2 ^ (oB R n).toNat)
def deedOK (c x y : Int) : Prop := (0 ≤ c ∧ c ≤ 5) ∧ (-1 ≤ x ∧ x ≤ 9) ∧ (-1 ≤ y ∧ y ≤ 9) ∧ (c = 0 → 0 ≤ x ∧ x ≤ 8 ∧ 0 ≤ y ∧ y ≤ 3) ∧ (c = 1 → 0 ≤ x ∧ x ≤ 8) ∧ (c = 2 → 0 ≤ x ∧ x ≤ 5 ∧ 0 ≤ y ∧ y ≤ 9) ∧ (c = 3 → 0 ≤ x ∧ x ≤ 5 ∧ 0 ≤ y ∧ y ≤ 3) ∧ (c = 4 → 0 ≤ x ∧ x ≤ 5)
/-- what a roll of a sort may hold -/
def oOK (s : Nat) (R : Rol) : Prop := match s with
  | 1 => oN R ≤ 9 ∧ oL R ≤ 99 ∧ oS R = namA R (oN R) ∧ ∀ i, i < oN R → (0 ≤ oA R i ∧ oA R i ≤ 9) ∧ 1 ≤ oB R i ∧ oB R i ≤ 9
  | 2 => oN R ≤ 40 ∧ ∀ i, i < oN R → deedOK (oC R i) (oA R i) (oB R i)
  | 3 => oN R ≤ 12 ∧ oS R = namB R (oN R) ∧ ∀ i, i < oN R → (oC R i = 0 ∨ oC R i = 1) ∧ (0 ≤ oA R i ∧ oA R i ≤ 9) ∧ (0 ≤ oB R i ∧ oB R i ≤ 9) ∧ oA R i ≠ oB R i
  | 4 => oN R ≤ 8 ∧ oS R = namS R (oN R) ∧ ∀ i, i < oN R → 1 ≤ oA R i ∧ oA R i ≤ 1023
  | _ => True
def tOK (T : Tol) : Prop := (tN T ≤ 600 ∧ tF T ≤ 4 ∧ -1 ≤ tQ T ∧ tQ T ≤ 600) ∧ (∀ i, i < 600 → fits .byte (.int (tT T i)) = true) ∧ (∀ s, s < 5 → tz T s ≤ 2) ∧ (∀ k, k < 2 → pOK (tP T k)) ∧ ∀ s k, 1 ≤ s → s < 5 → k < tz T s → oOK s (tR T s k)
/-- the class's roll -/
def rR (M : PM) (a : Nat) (R : Rol) : Prop := hr_K a = 5 ∧ (M.1 a 0 = nI (oN R) ∧ M.1 a 1 = nI (oL R) ∧ M.1 a 2 = nI (oS R)) ∧ ∀ i, i < oN R → M.1 (a + 1) i = zI (oC R i) ∧ M.1 (a + 2) i = zI (oA R i) ∧ M.1 (a + 3) i = zI (oB R i)
/-- the class's told, at b -/
def rT (M : PM) (b : Nat) (T : Tol) : Prop := (M.1 b 1 = nI (tN T) ∧ M.1 b 2 = nI (tF T) ∧ M.1 b 3 = zI (tQ T)) ∧ (∀ i, i < 600 → M.1 (b + 1) i = tT T i) ∧ (∀ s, s < 5 → M.1 (b + 2) s = nI (tz T s)) ∧ (∀ k, k < 2 → rP M (b + 5 + 9 * k) (tP T k)) ∧ ∀ s k, 1 ≤ s → s < 5 → k < tz T s → rR M (b + 23 + 4 * (2 * (s - 1) + k)) (tR T s k)
/-- the model's told, of the image m (0: now) -/
def mT (M : PM) (m : Nat) (T : Tol) : Prop := (M.1 277 m = nI (tN T) ∧ M.1 278 m = nI (tF T) ∧ M.1 279 m = zI (tQ T)) ∧ (∀ i, i < 600 → M.1 276 (600 * m + i) = tT T i) ∧ (∀ s, s < 5 → M.1 280 (5 * m + s) = nI (tz T s)) ∧
  (∀ k, k < 2 → (M.1 281 (140 * m + 70 * k) = nI (pH (tP T k)) ∧ M.1 281 (140 * m + 70 * k + 1) = nI (pR (tP T k))) ∧ (∀ i, i < 3 * pH (tP T k) → M.1 281 (140 * m + 70 * k + 2 + i) = nI (pP (tP T k) i)) ∧ (∀ i, i < 3 * pR (tP T k) → M.1 281 (140 * m + 70 * k + 32 + i) = zI (pU (tP T k) i)) ∧ ∀ i, i < 20 → M.1 281 (140 * m + 70 * k + 50 + i) = nI (pL (tP T k) i)) ∧
  (∀ k, k < tz T 1 → (M.1 282 (40 * m + 20 * k) = nI (oN (tR T 1 k)) ∧ M.1 282 (40 * m + 20 * k + 1) = nI (oL (tR T 1 k))) ∧ ∀ i, i < oN (tR T 1 k) → M.1 282 (40 * m + 20 * k + 2 + 2 * i) = zI (oA (tR T 1 k) i) ∧ M.1 282 (40 * m + 20 * k + 3 + 2 * i) = zI (oB (tR T 1 k) i)) ∧
  (∀ k, k < tz T 2 → M.1 283 (242 * m + 121 * k) = nI (oN (tR T 2 k)) ∧ ∀ i, i < oN (tR T 2 k) → M.1 283 (242 * m + 121 * k + 1 + 3 * i) = zI (oC (tR T 2 k) i) ∧ M.1 283 (242 * m + 121 * k + 1 + 3 * i + 1) = zI (oA (tR T 2 k) i) ∧ M.1 283 (242 * m + 121 * k + 1 + 3 * i + 2) = zI (oB (tR T 2 k) i)) ∧
  (∀ k, k < tz T 3 → M.1 284 (74 * m + 37 * k) = nI (oN (tR T 3 k)) ∧ ∀ i, i < oN (tR T 3 k) → M.1 284 (74 * m + 37 * k + 1 + 3 * i) = zI (oC (tR T 3 k) i) ∧ M.1 284 (74 * m + 37 * k + 1 + 3 * i + 1) = zI (oA (tR T 3 k) i) ∧ M.1 284 (74 * m + 37 * k + 1 + 3 * i + 2) = zI (oB (tR T 3 k) i)) ∧
  ∀ k, k < tz T 4 → M.1 285 (18 * m + 9 * k) = nI (oN (tR T 4 k)) ∧ ∀ i, i < oN (tR T 4 k) → M.1 285 (18 * m + 9 * k + 1 + i) = zI (oA (tR T 4 k) i)
/-- a number's place among n, if it is one -/
def ix (x : Int32) (n : Nat) : Option Nat := if x < 0 then none else if x.toNatClampNeg < n then some x.toNatClampNeg else none
theorem ix_some {x : Int32} {n k : Nat} (h : ix x n = some k) : x = nI k ∧ k < n ∧ k < 2147483648 := by
  unfold ix at h
  split at h
  · cases h
  · next h0 =>
    split at h
    · next h1 =>
      cases h
      obtain ⟨j, h2, h3⟩ := nI_of h0
      rw [h3, nI_clamp h2] at h1 ⊢
      exact ⟨rfl, h1, h2⟩
    · cases h
theorem ix_none {x : Int32} {n : Nat} (h : ix x n = none) (hn : n ≤ 2147483648) : x < 0 ∨ ∃ j, j < 2147483648 ∧ x = nI j ∧ n ≤ j := by
  unfold ix at h
  split at h
  · next h0 => exact Or.inl h0
  · next h0 =>
    split at h
    · cases h
    · next h1 =>
      obtain ⟨j, h2, h3⟩ := nI_of h0
      rw [h3, nI_clamp h2] at h1
      exact Or.inr ⟨j, h2, h3, by omega⟩
theorem ix_n {k n : Nat} (hk : k < n) (hn : n ≤ 2147483648) : ix (nI k) n = some k := by
  unfold ix
  rw [if_neg (nI_pos (by omega)), nI_clamp (by omega), if_pos hk]
theorem ix_big {k n : Nat} (hk : n ≤ k) (h2 : k < 2147483648) : ix (nI k) n = none := by
  unfold ix
  rw [if_neg (nI_pos (by omega)), nI_clamp (by omega), if_neg (by omega)]
theorem ix_neg {x : Int32} (h : x < 0) (n : Nat) : ix x n = none := if_pos h
theorem kk_3 : ∀ k, k < 2 → hr_K (4 + 2 + 9 * k) = 3 := by decide +kernel
theorem kk_5 : ∀ k, k < 8 → hr_K (5 + 19 + 4 * k) = 5 := by decide +kernel
section TOLD
variable {M : PM} {T : Tol}
theorem s_paletteAt (hT : rT M 1 T) (hz : tz T 0 ≤ 2) (x : Int32) : f_X8_paletteAt x M = some (match ix x (tz T 0) with | none => .null | some k => .ref (6 + 9 * k), M) := by
  have g := hT.2.2.1 0 (by omega)
  unfold f_X8_paletteAt
  cases h : ix x (tz T 0) with
  | none =>
    rcases ix_none h (by omega) with h0 | ⟨j, h1, rfl, h2⟩
    · rw [q_lit 0, show (OfNat.ofNat 0 : Nat) = 0 from rfl] at *
      rw [if_pos h0]
    · simp (disch := omega) only [q_lit, q_m1, q_m2, q_m1000, q_add, q_mul, q_cl, q_le, q_lt, q_eq, q_in, q_bd_some, eq_self, if_true, if_false, q_b0, q_b1, q_b01, q_bt, q_bf, q_ft, q_tf, Nat.mul_zero, Nat.add_zero, Nat.zero_add, or_true, true_or, not_true_eq_false, not_false_eq_true, reduceCtorEq, nI_pos h1, show M.1 3 0 = nI (tz T 0) from g, h2, show ¬ j < 0 by omega]
  | some k =>
    obtain ⟨rfl, h1, h2⟩ := ix_some h
    simp (disch := omega) only [q_lit, q_m1, q_m2, q_m1000, q_add, q_mul, q_cl, q_le, q_lt, q_eq, q_in, q_bd_some, eq_self, if_true, if_false, q_b0, q_b1, q_b01, q_bt, q_bf, q_ft, q_tf, Nat.mul_zero, Nat.add_zero, Nat.zero_add, or_true, true_or, not_true_eq_false, not_false_eq_true, reduceCtorEq, show M.1 3 0 = nI (tz T 0) from g, show ¬ tz T 0 ≤ k by omega, show ¬ k < 0 by omega, kk_3 k (by omega)]
theorem s_rollAt (hT : rT M 1 T) {s : Nat} (h1 : 1 ≤ s) (h5 : s < 5) (hz : tz T s ≤ 2) (x : Int32) : f_X8_rollAt (nI s) x M = some (match ix x (tz T s) with | none => .null | some k => .ref (24 + 4 * (2 * (s - 1) + k)), M) := by
  have g := hT.2.2.1 s h5
  unfold f_X8_rollAt
  cases h : ix x (tz T s) with
  | none =>
    rcases ix_none h (by omega) with h0 | ⟨j, h1, rfl, h2⟩
    · rw [if_pos h0]
    · simp (disch := omega) only [q_lit, q_m1, q_m2, q_m1000, q_add, q_mul, q_cl, q_le, q_lt, q_eq, q_in, q_bd_some, eq_self, if_true, if_false, q_b0, q_b1, q_b01, q_bt, q_bf, q_ft, q_tf, Nat.mul_zero, Nat.add_zero, Nat.zero_add, or_true, true_or, not_true_eq_false, not_false_eq_true, reduceCtorEq, nI_pos h1, show M.1 3 s = nI (tz T s) from g, h2, show ¬ j < 0 by omega]
  | some k =>
    obtain ⟨rfl, h2, h3⟩ := ix_some h
    unfold f_X8_rollIndex
    simp (disch := omega) only [q_lit, q_m1, q_m2, q_m1000, q_add, q_mul, q_cl, q_le, q_lt, q_eq, q_in, q_bd_some, eq_self, if_true, if_false, q_b0, q_b1, q_b01, q_bt, q_bf, q_ft, q_tf, Nat.mul_zero, Nat.add_zero, Nat.zero_add, or_true, true_or, not_true_eq_false, not_false_eq_true, reduceCtorEq, q_sub, show M.1 3 s = nI (tz T s) from g, show ¬ tz T s ≤ k by omega, show ¬ k < 0 by omega, kk_5 (2 * (s - 1) + k) (by omega)]
theorem rT.pal (hT : rT M 1 T) {k : Nat} (hk : k < 2) : rP M (6 + 9 * k) (tP T k) := hT.2.2.2.1 k hk
theorem rT.rol (hT : rT M 1 T) {s k : Nat} (h1 : 1 ≤ s) (h5 : s < 5) (hk : k < tz T s) : rR M (24 + 4 * (2 * (s - 1) + k)) (tR T s k) := hT.2.2.2.2 s k h1 h5 hk
theorem s_X6_has {a : Nat} {R : Rol} (hR : rR M a R) (hn : oN R < 2147483648) (x : Int32) : f_X6_has a x M = some (bI (ix x (oN R)).isSome, M) := by
  unfold f_X6_has
  rw [if_pos hR.1, hR.2.1.1]
  cases h : ix x (oN R) with
  | none =>
    rcases ix_none h (by omega) with h0 | ⟨j, h1, rfl, h2⟩
    · rw [if_pos h0]; rfl
    · simp (disch := omega) only [q_lit, q_m1, q_m2, q_m1000, q_add, q_mul, q_cl, q_le, q_lt, q_eq, q_in, q_bd_some, eq_self, if_true, if_false, q_b0, q_b1, q_b01, q_bt, q_bf, q_ft, q_tf, Nat.mul_zero, Nat.add_zero, Nat.zero_add, or_true, true_or, not_true_eq_false, not_false_eq_true, reduceCtorEq, h2, show ¬ j < 0 by omega]; rfl
  | some k =>
    obtain ⟨rfl, h2, h3⟩ := ix_some h
    simp (disch := omega) only [q_lit, q_m1, q_m2, q_m1000, q_add, q_mul, q_cl, q_le, q_lt, q_eq, q_in, q_bd_some, eq_self, if_true, if_false, q_b0, q_b1, q_b01, q_bt, q_bf, q_ft, q_tf, Nat.mul_zero, Nat.add_zero, Nat.zero_add, or_true, true_or, not_true_eq_false, not_false_eq_true, reduceCtorEq, show ¬ oN R ≤ k by omega, show ¬ k < 0 by omega]; rfl
end TOLD
