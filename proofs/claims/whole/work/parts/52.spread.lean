/-! SPREAD, on both sides -/
theorem cnt_mono {p q : Nat → Bool} {n : Nat} (h : ∀ k, k < n → p k = true → q k = true) : cnt p n ≤ cnt q n := by
  induction n with
  | zero => exact Nat.le_refl _
  | succ n ih =>
    have h1 := ih (fun k hk => h k (by omega))
    have h2 := h n (by omega)
    unfold cnt
    cases hp : p n with
    | false => simp; omega
    | true => rw [h2 hp]; simp; omega
theorem cnt_lt {p q : Nat → Bool} {n i : Nat} (h : ∀ k, k < n → p k = true → q k = true) (hi : i < n) (hp : p i = false) (hq : q i = true) : cnt p n < cnt q n := by
  induction n with
  | zero => omega
  | succ n ih =>
    have h2 := h n (by omega)
    unfold cnt
    by_cases e : i = n
    · subst e
      have h1 := cnt_mono (p := p) (q := q) (n := i) (fun k hk => h k (by omega))
      rw [hp, hq]
      simp; omega
    · have h1 := ih (fun k hk => h k (by omega)) (by omega)
      cases hp : p n with
      | false => simp; omega
      | true => rw [h2 hp]; simp; omega
/-- bits of the one are bits of the other -/
def sub2 (a b : Nat) : Prop := ∀ i, a.testBit i = true → b.testBit i = true
theorem sub2.or (a b : Nat) : sub2 a (a ||| b) := fun i h => by rw [Nat.testBit_or, h]; rfl
theorem sub2.tr {a b c : Nat} (h : sub2 a b) (g : sub2 b c) : sub2 a c := fun i hi => g i (h i hi)
theorem bit_lt {s i : Nat} (hs : s < 1024) (h : s.testBit i = true) : i < 10 := by
  apply Nat.lt_of_not_le
  intro hi
  rw [Nat.testBit_lt_two_pow (Nat.lt_of_lt_of_le hs (Nat.pow_le_pow_right (n := 2) (by decide) hi))] at h
  cases h
theorem popc_lt {a b : Nat} (h : sub2 a b) (hn : a ≠ b) (hb : b < 1024) : popc a < popc b := by
  have hx : ∃ i, a.testBit i = false ∧ b.testBit i = true := by
    apply Classical.byContradiction
    intro hc
    apply hn
    apply Nat.eq_of_testBit_eq
    intro i
    cases ha : a.testBit i with
    | true => rw [h i ha]
    | false =>
      cases hb : b.testBit i with
      | false => rfl
      | true => exact absurd ⟨i, ha, hb⟩ hc
  obtain ⟨i, h1, h2⟩ := hx
  exact cnt_lt (fun k _ hk => h k hk) (bit_lt hb h2) h1 h2
theorem popc_le (a : Nat) : popc a ≤ 10 := cnt_le _ _
theorem or_lt {a b : Nat} (ha : a < 1024) (hb : b < 1024) : a ||| b < 1024 := Nat.or_lt_two_pow (n := 10) ha hb
def sq (P : Pal) (s : Nat) : Nat → Nat
  | 0 => s
  | n + 1 => sq P s n ||| foesA P (sq P s n)
theorem sq_lt {P : Pal} (h10 : pH P ≤ 10) {s : Nat} (hs : s < 1024) (n : Nat) : sq P s n < 1024 := by
  induction n with
  | zero => exact hs
  | succ n ih => exact or_lt ih (bset_lt10 _ h10)
def sqE (P : Pal) (s n : Nat) : Bool := decide (sq P s (n + 1) = sq P s n)
def sqN (P : Pal) (s : Nat) : Nat := (fst1 (sqE P s) 11).getD 0
theorem fst1_some {p : Nat → Bool} {n c : Nat} (h : fst1 p n = some c) : c < n ∧ p c = true ∧ ∀ k, k < c → p k = false := by
  induction n with
  | zero => cases h
  | succ n ih =>
    unfold fst1 at h
    cases h1 : fst1 p n with
    | some d =>
      rw [h1] at h
      injection h with h
      subst h
      obtain ⟨a, b, c⟩ := ih h1
      exact ⟨by omega, b, c⟩
    | none =>
      rw [h1] at h
      dsimp only at h
      split at h
      · next hp =>
        injection h with h
        subst h
        refine ⟨by omega, hp, ?_⟩
        intro k hk
        have : ∀ m, fst1 p m = none → ∀ k, k < m → p k = false := by
          intro m
          induction m with
          | zero => intro _ k hk; omega
          | succ m ihm =>
            intro hm k hk
            unfold fst1 at hm
            cases h2 : fst1 p m with
            | some d => rw [h2] at hm; cases hm
            | none =>
              rw [h2] at hm
              dsimp only at hm
              by_cases e : k = m
              · subst e
                cases hpk : p k with
                | false => rfl
                | true => rw [hpk] at hm; cases hm
              · exact ihm h2 k (by omega)
        exact this _ h1 k hk
      · cases h
theorem fst1_none {p : Nat → Bool} {n : Nat} (h : fst1 p n = none) : ∀ k, k < n → p k = false := by
  induction n with
  | zero => intro k hk; omega
  | succ n ih =>
    intro k hk
    unfold fst1 at h
    cases h2 : fst1 p n with
    | some d => rw [h2] at h; cases h
    | none =>
      rw [h2] at h
      dsimp only at h
      by_cases e : k = n
      · subst e
        cases hpk : p k with
        | false => rfl
        | true => rw [hpk] at h; cases h
      · exact ih h2 k (by omega)
theorem sqN_ok {P : Pal} (h10 : pH P ≤ 10) {s : Nat} (hs : s < 1024) : sqN P s ≤ 10 ∧ sq P s (sqN P s + 1) = sq P s (sqN P s) ∧ ∀ k, k < sqN P s → sq P s (k + 1) ≠ sq P s k := by
  unfold sqN
  cases h : fst1 (sqE P s) 11 with
  | some c =>
    obtain ⟨h1, h2, h3⟩ := fst1_some h
    refine ⟨by show c ≤ 10; omega, by simpa [sqE] using h2, ?_⟩
    intro k hk
    simpa [sqE] using h3 k hk
  | none =>
    exfalso
    have h0 := fst1_none h
    have g : ∀ n, n ≤ 11 → n ≤ popc (sq P s n) := by
      intro n
      induction n with
      | zero => intro _; exact Nat.zero_le _
      | succ n ih =>
        intro hn
        have e := h0 n (by omega)
        have := popc_lt (a := sq P s n) (b := sq P s (n + 1)) (sub2.or _ _) (fun z => by simp [sqE, z] at e) (sq_lt h10 hs _)
        have := ih (by omega)
        omega
    have := g 11 (by omega)
    have := popc_le (sq P s 11)
    omega
def sp_spread (T : Tol) (p x r : Int32) : Int := match ix p (tz T 0) with
  | none => -1
  | some q => match ix x (pH (tP T q)) with
    | none => -1
    | some h => if r = 0 then (popc (sq (tP T q) (2 ^ h) (sqN (tP T q) (2 ^ h))) : Nat) else (sqN (tP T q) (2 ^ h) : Nat)
theorem pow_lt {h : Nat} (hh : h < 10) : 2 ^ h < 1024 := Nat.pow_lt_pow_right (a := 2) (n := 10) (by decide) hh
section CLS
variable {M : PM} {T : Tol}
theorem s_hasix {a : Nat} {P : Pal} (hP : rP M a P) (x : Int32) : f_X4_has a x M = some (bI (ix x (pH P)).isSome, M) := by
  rw [s_has hP]
  congr 3
  unfold ix
  by_cases h : x < 0
  · rw [if_pos h, decide_eq_false (by simp [h])]; rfl
  · rw [if_neg h]
    by_cases h2 : x.toNatClampNeg < pH P
    · rw [if_pos h2, decide_eq_true ⟨h, h2⟩]; rfl
    · rw [if_neg h2, decide_eq_false (by simp [h2])]; rfl
theorem c_spread (hT : rT M 1 T) (hz : tz T 0 ≤ 2) (p x r : Int32) : f_X10_spread p x r M = some (zI (sp_spread T p x r), M) := by
  unfold f_X10_spread sp_spread
  rw [s_paletteAt hT hz, q_bd_some]
  cases h : ix p (tz T 0) with
  | none => rfl
  | some q =>
    obtain ⟨rfl, h1, -⟩ := ix_some h
    have hP := hT.pal (show q < 2 by omega)
    dsimp only
    rw [if_pos hP.1.1, s_hasix hP, q_bd_some]
    generalize tP T q = P at hP ⊢
    have h10 : pH P ≤ 10 := hP.1.2.1
    cases h2 : ix x (pH P) with
    | none => rfl
    | some h =>
      obtain ⟨rfl, h3, -⟩ := ix_some h2
      obtain ⟨g1, g2, g3⟩ := sqN_ok h10 (pow_lt (show h < 10 by omega))
      have hs := sq_lt h10 (pow_lt (show h < 10 by omega))
      have last : ∀ n, n = sqN P (2 ^ h) → f_X10_spread_79 (nI q) (nI h) r (nI (sq P (2 ^ h) n)) (nI n) M = some (zI (if r = 0 then (popc (sq P (2 ^ h) (sqN P (2 ^ h))) : Nat) else (sqN P (2 ^ h) : Nat)), M) := by
        rintro n rfl
        unfold f_X10_spread_79
        by_cases hr : r = 0
        · rw [if_pos hr, if_pos hr, s_bitCount (hs _), q_bd_some, q_nz]
        · rw [if_neg hr, if_neg hr, q_nz]
      dsimp only
      rw [if_neg (show ¬ bI (some h).isSome = 0 from (by decide : ¬ nI 1 = 0)), q_lit 1, show (OfNat.ofNat 1 : Nat) = 1 from rfl, q_jl (by omega)]
      refine hr_for (σ := Unit) (fun f n _ => f_X10_spread_37 (nI q) (nI h) r f (6 + 9 * q) (nI (sq P (2 ^ h) n)) (nI n) (nI n) M) (sqN P (2 ^ h)) (fun _ _ => True) (fun z => z = _) ?_ ?_ FU 0 () (Nat.zero_le _) (FU_ok (by omega)) trivial
      · intro f n _ hn _
        right
        refine ⟨(), ?_, trivial⟩
        have := hs n
        have := hs (n + 1)
        have e := g3 n hn
        show f_X10_spread_37 (nI q) (nI h) r (f + 1) (6 + 9 * q) (nI (sq P (2 ^ h) n)) (nI n) (nI n) M = _
        rw [f_X10_spread_37.eq_2]
        simp (disch := omega) only [q_lit, q_m1, q_m2, q_m1000, q_add, q_mul, q_cl, q_le, q_lt, q_eq, q_in, q_bd_some, eq_self, if_true, if_false, q_b0, q_b1, q_b01, q_bt, q_bf, q_ft, q_tf, Nat.mul_zero, Nat.add_zero, Nat.zero_add, or_true, true_or, not_true_eq_false, not_false_eq_true, reduceCtorEq, show ¬ 10 ≤ n by omega, s_foesOfAny hP, q_or]
        rw [if_neg (show ¬ nI (sq P (2 ^ h) n ||| foesA P (sq P (2 ^ h) n)) = nI (sq P (2 ^ h) n) from fun z => e ((q_eq (by omega) (by omega)).mp z))]
        rfl
      · intro f _ _
        show f_X10_spread_37 (nI q) (nI h) r (f + 1) (6 + 9 * q) (nI (sq P (2 ^ h) (sqN P (2 ^ h)))) (nI (sqN P (2 ^ h))) (nI (sqN P (2 ^ h))) M = _
        have := hs (sqN P (2 ^ h))
        have := hs (sqN P (2 ^ h) + 1)
        rw [f_X10_spread_37.eq_2]
        by_cases h9 : 10 ≤ sqN P (2 ^ h)
        · simp (disch := omega) only [q_lit, q_m1, q_m2, q_m1000, q_add, q_mul, q_cl, q_le, q_lt, q_eq, q_in, q_bd_some, eq_self, if_true, if_false, q_b0, q_b1, q_b01, q_bt, q_bf, q_ft, q_tf, Nat.mul_zero, Nat.add_zero, Nat.zero_add, or_true, true_or, not_true_eq_false, not_false_eq_true, reduceCtorEq, h9]
          exact last _ rfl
        · simp (disch := omega) only [q_lit, q_m1, q_m2, q_m1000, q_add, q_mul, q_cl, q_le, q_lt, q_eq, q_in, q_bd_some, eq_self, if_true, if_false, q_b0, q_b1, q_b01, q_bt, q_bf, q_ft, q_tf, Nat.mul_zero, Nat.add_zero, Nat.zero_add, or_true, true_or, not_true_eq_false, not_false_eq_true, reduceCtorEq, h9, s_foesOfAny hP, q_or]
          have e : nI (sq P (2 ^ h) (sqN P (2 ^ h)) ||| foesA P (sq P (2 ^ h) (sqN P (2 ^ h)))) = nI (sq P (2 ^ h) (sqN P (2 ^ h))) := congrArg nI g2
          rw [if_pos e]
          exact last _ rfl
end CLS
section MOD
variable {M : PM} {k : Nat} {P : Pal} {T : Tol}
theorem s_ones (M : PM) {s : Nat} (hs : s < 2147483648) : f_X11_ones (nI s) M = some (nI (popc s), M) := by
  unfold f_X11_ones
  refine hr_for (σ := Int32) (fun f i x => f_X11_ones_4 (nI s) f x (nI i) M) 10 (fun i x => x = nI (cnt (fun i => s.testBit i) i)) (fun r => r = some (nI (popc s), M)) ?_ ?_ FU 0 0 (Nat.zero_le _) (FU_ok (by omega)) rfl
  · rintro f i x hi rfl
    right
    refine ⟨_, ?_, rfl⟩
    show f_X11_ones_4 (nI s) (f + 1) _ (nI i) M = _
    rw [f_X11_ones_4.eq_2]
    simp (disch := omega) only [q_lit, q_m1, q_m2, q_m1000, q_add, q_mul, q_cl, q_le, q_lt, q_eq, q_in, q_bd_some, eq_self, if_true, if_false, q_b0, q_b1, q_b01, q_bt, q_bf, q_ft, q_tf, Nat.mul_zero, Nat.add_zero, Nat.zero_add, or_true, true_or, not_true_eq_false, not_false_eq_true, reduceCtorEq, show ¬ 10 ≤ i by omega, s_has11]
    show _ = f_X11_ones_4 (nI s) f (nI (cnt _ i + (if s.testBit i then 1 else 0))) (nI (i + 1)) M
    cases s.testBit i <;> rfl
  · rintro f x rfl
    show f_X11_ones_4 (nI s) (f + 1) _ (nI 10) M = _
    rw [f_X11_ones_4.eq_2]
    simp (disch := omega) only [q_lit, q_m1, q_m2, q_m1000, q_add, q_mul, q_cl, q_le, q_lt, q_eq, q_in, q_bd_some, eq_self, if_true, if_false, q_b0, q_b1, q_b01, q_bt, q_bf, q_ft, q_tf, Nat.mul_zero, Nat.add_zero, Nat.zero_add, or_true, true_or, not_true_eq_false, not_false_eq_true, reduceCtorEq, Nat.le_refl, popc]
/-- what a colour's set reaches, couple by couple -/
def gW (P : Pal) (s : Nat) : Nat → Nat
  | 0 => 0
  | c + 1 => gW P s c ||| (if (decide (c / 10 < pH P) && decide (c % 10 < pH P)) && (s.testBit (c / 10) && foe P (c / 10) (c % 10)) then 2 ^ (c % 10) else 0)
theorem gW_bit (P : Pal) (s n y : Nat) : (gW P s n).testBit y = exb (fun c => ((decide (c / 10 < pH P) && decide (c % 10 < pH P)) && (s.testBit (c / 10) && foe P (c / 10) (c % 10))) && decide (c % 10 = y)) n := by
  induction n with
  | zero => exact Nat.zero_testBit y
  | succ n ih =>
    unfold gW exb
    rw [Nat.testBit_or, ih]
    congr 1
    split
    · next h => rw [h, Nat.testBit_two_pow]; rfl
    · next h =>
      rw [Nat.zero_testBit]
      simp only [Bool.not_eq_true] at h
      rw [h]
      rfl
theorem gW_100 {P : Pal} (h10 : pH P ≤ 10) (s : Nat) : gW P s 100 = foesA P s := by
  apply Nat.eq_of_testBit_eq
  intro y
  rw [gW_bit, foesA, bset_bit]
  apply Bool.eq_iff_iff.mpr
  rw [exb_iff, Bool.and_eq_true, exb_iff]
  simp only [Bool.and_eq_true, decide_eq_true_eq]
  constructor
  · rintro ⟨c, h1, ⟨⟨h2, h3⟩, h4, h5⟩, rfl⟩
    exact ⟨h3, c / 10, h2, h4, h5⟩
  · rintro ⟨h1, h, h2, h3, h4⟩
    have e1 : (10 * h + y) / 10 = h := by omega
    have e2 : (10 * h + y) % 10 = y := by omega
    exact ⟨10 * h + y, by omega, by rw [e1, e2]; exact ⟨⟨⟨h2, h1⟩, h3, h4⟩, rfl⟩⟩
theorem gW_lt {P : Pal} (s n : Nat) : gW P s n < 1024 := by
  induction n with
  | zero => show 0 < 1024; omega
  | succ n ih =>
    unfold gW
    apply or_lt ih
    split
    · exact pow_lt (by omega)
    · omega
theorem m_spread46 (hH : hM M k P) (a1 a2 a3 : Int32) (k34 : Int32 → Int32 → Int32 → PM → Option (Int32 × PM)) {s : Nat} (hs : s < 1024) (n : Nat) : f_X11_spread_46 a1 a2 a3 k34 FU (nI s) (nI n) (nI s) (nI 0) M = if s ||| foesA P s = s then k34 (nI s) (nI n) 0 M else k34 (nI (s ||| foesA P s)) (nI (n + 1)) 1 M := by
  have h10 : pH P ≤ 10 := hH.1.1.2.1
  refine hr_for (σ := Int32) (fun f c x => f_X11_spread_46 a1 a2 a3 k34 f (nI s) (nI n) x (nI c) M) 100 (fun c x => x = nI (s ||| gW P s c)) (fun r => r = if s ||| foesA P s = s then k34 (nI s) (nI n) 0 M else k34 (nI (s ||| foesA P s)) (nI (n + 1)) 1 M) ?_ ?_ FU 0 (nI s) (Nat.zero_le _) (FU_ok (by omega)) (by show nI s = nI (s ||| 0); rw [Nat.or_zero])
  · rintro f c x hc rfl
    right
    refine ⟨_, ?_, rfl⟩
    show f_X11_spread_46 a1 a2 a3 k34 (f + 1) (nI s) (nI n) _ (nI c) M = _
    have no : ∀ z, f_X11_spread_112 a1 a2 a3 k34 (fun x4 x5 x7 x8 M => f_X11_spread_46 a1 a2 a3 k34 f x4 x5 x7 x8 M) (nI s) (nI n) (nI z) (nI c) (nI 0) M = f_X11_spread_46 a1 a2 a3 k34 f (nI s) (nI n) (nI z) (nI (c + 1)) M := by
      intro z
      unfold f_X11_spread_112
      rw [if_pos (show nI 0 = 0 from rfl), q_lit 0, show (OfNat.ofNat 0 : Nat) = 0 from rfl, q_or, Nat.or_zero, q_lit 1, q_add]
    rw [f_X11_spread_46.eq_2, hH.2.1.2, gW]
    by_cases h1 : c / 10 < pH P
    · by_cases h2 : c % 10 < pH P
      · cases h3 : s.testBit (c / 10) with
        | false =>
          simp (disch := omega) only [q_lit, q_m1, q_m2, q_m1000, q_add, q_mul, q_cl, q_le, q_lt, q_eq, q_in, q_bd_some, eq_self, if_true, if_false, q_b0, q_b1, q_b01, q_bt, q_bf, q_ft, q_tf, Nat.mul_zero, Nat.add_zero, Nat.zero_add, or_true, true_or, not_true_eq_false, not_false_eq_true, reduceCtorEq, show ¬ 100 ≤ c by omega, show ¬ pH P ≤ c / 10 by omega, show ¬ pH P ≤ c % 10 by omega, q_div, q_rem, s_has11, h3, no, Bool.false_and, Bool.and_false, Nat.or_zero]
        | true =>
          cases h4 : foe P (c / 10) (c % 10) with
          | false =>
            simp (disch := omega) only [q_lit, q_m1, q_m2, q_m1000, q_add, q_mul, q_cl, q_le, q_lt, q_eq, q_in, q_bd_some, eq_self, if_true, if_false, q_b0, q_b1, q_b01, q_bt, q_bf, q_ft, q_tf, Nat.mul_zero, Nat.add_zero, Nat.zero_add, or_true, true_or, not_true_eq_false, not_false_eq_true, reduceCtorEq, show ¬ 100 ≤ c by omega, show ¬ pH P ≤ c / 10 by omega, show ¬ pH P ≤ c % 10 by omega, q_div, q_rem, s_has11, h3, s_clash hH, h4, no, Bool.false_and, Bool.and_false, Nat.or_zero]
          | true =>
            simp (disch := omega) only [q_lit, q_m1, q_m2, q_m1000, q_add, q_mul, q_cl, q_le, q_lt, q_eq, q_in, q_bd_some, eq_self, if_true, if_false, q_b0, q_b1, q_b01, q_bt, q_bf, q_ft, q_tf, Nat.mul_zero, Nat.add_zero, Nat.zero_add, or_true, true_or, not_true_eq_false, not_false_eq_true, reduceCtorEq, show ¬ 100 ≤ c by omega, show ¬ pH P ≤ c / 10 by omega, show ¬ pH P ≤ c % 10 by omega, q_div, q_rem, s_has11, h3, s_clash hH, h4, f_X11_spread_112, q_jl, q_or, h1, h2, decide_true, Bool.and_self, Nat.or_assoc]
      · simp (disch := omega) only [q_lit, q_m1, q_m2, q_m1000, q_add, q_mul, q_cl, q_le, q_lt, q_eq, q_in, q_bd_some, eq_self, if_true, if_false, q_b0, q_b1, q_b01, q_bt, q_bf, q_ft, q_tf, Nat.mul_zero, Nat.add_zero, Nat.zero_add, or_true, true_or, not_true_eq_false, not_false_eq_true, reduceCtorEq, show ¬ 100 ≤ c by omega, show ¬ pH P ≤ c / 10 by omega, show pH P ≤ c % 10 by omega, q_div, q_rem, no, h2, decide_false, Bool.false_and, Bool.and_false, Nat.or_zero]
    · simp (disch := omega) only [q_lit, q_m1, q_m2, q_m1000, q_add, q_mul, q_cl, q_le, q_lt, q_eq, q_in, q_bd_some, eq_self, if_true, if_false, q_b0, q_b1, q_b01, q_bt, q_bf, q_ft, q_tf, Nat.mul_zero, Nat.add_zero, Nat.zero_add, or_true, true_or, not_true_eq_false, not_false_eq_true, reduceCtorEq, show ¬ 100 ≤ c by omega, show pH P ≤ c / 10 by omega, q_div, q_rem, no, h1, decide_false, Bool.false_and, Bool.and_false, Nat.or_zero]
  · rintro f x rfl
    show f_X11_spread_46 a1 a2 a3 k34 (f + 1) (nI s) (nI n) _ (nI 100) M = _
    have := or_lt hs (gW_lt (P := P) s 100)
    rw [f_X11_spread_46.eq_2, if_pos (show (100 : Int32) ≤ nI 100 by decide)]
    rw [gW_100 h10] at this ⊢
    by_cases e : s ||| foesA P s = s
    · rw [if_pos e, e, if_pos rfl]
      unfold f_X11_spread_153
      rw [if_pos rfl, q_lit 0, show (OfNat.ofNat 0 : Nat) = 0 from rfl, q_add]
      rfl
    · rw [if_neg e, if_neg (fun z => e ((q_eq (by omega) (by omega)).mp z))]
      unfold f_X11_spread_153
      rw [if_neg (by decide), q_lit 1, show (OfNat.ofNat 1 : Nat) = 1 from rfl, q_add]
theorem m_spread (hT : mT M 0 T) (ok : tOK T) (p x r : Int32) : hw (f_X11_spread p x r M) (fun v _ => v = zI (sp_spread T p x r)) := by
  unfold f_X11_spread sp_spread
  refine hw.bd ((m_hand (hT.si (k := 0) (v := 0)) ok p).mono (fun v M' h => ?_))
  replace h := h.1
  cases hp : ix p (tz T 0) with
  | none =>
    rw [hp] at h
    rw [h.1]
    exact hw.ok rfl
  | some q =>
    rw [hp] at h
    obtain ⟨rfl, hH⟩ := h
    dsimp only
    generalize tP T q = P at hH ⊢
    have h10 : pH P ≤ 10 := hH.1.1.2.1
    rw [if_neg (show ¬ nI 1 = 0 by decide), s_isHue hH, q_bd_some]
    cases h3 : ix x (pH P) with
    | none => exact hw.ok rfl
    | some h =>
      obtain ⟨rfl, h4, -⟩ := ix_some h3
      obtain ⟨g1, g2, g3⟩ := sqN_ok h10 (pow_lt (show h < 10 by omega))
      have hs := sq_lt h10 (pow_lt (show h < 10 by omega))
      dsimp only
      rw [if_neg (show ¬ bI (some h).isSome = 0 from (by decide : ¬ nI 1 = 0)), q_lit 1, show (OfNat.ofNat 1 : Nat) = 1 from rfl, q_jl (by omega)]
      refine hr_for (σ := Int32 × Int32 × Int32) (fun f n s => f_X11_spread_34 p (nI h) r f s.1 s.2.1 s.2.2 M') (sqN P (2 ^ h) + 1) (fun n s => s = if n ≤ sqN P (2 ^ h) then (nI (sq P (2 ^ h) n), nI n, nI 1) else (nI (sq P (2 ^ h) (sqN P (2 ^ h))), nI (sqN P (2 ^ h)), nI 0)) (fun z => hw z _) ?_ ?_ FU 0 (nI (2 ^ h), nI 0, nI 1) (Nat.zero_le _) (FU_ok (by omega)) (by rw [if_pos (Nat.zero_le _)]; rfl)
      · rintro f n s hn rfl
        right
        refine ⟨_, ?_, rfl⟩
        rw [if_pos (show n ≤ sqN P (2 ^ h) by omega)]
        dsimp only
        rw [f_X11_spread_34.eq_2, if_neg (show ¬ nI 1 = 0 by decide), show (0 : Int32) = nI 0 from rfl, m_spread46 hH _ _ _ _ (hs n) n]
        by_cases e : n = sqN P (2 ^ h)
        · subst e
          rw [if_pos (show sq P (2 ^ h) (sqN P (2 ^ h)) ||| foesA P (sq P (2 ^ h) (sqN P (2 ^ h))) = _ from g2), if_neg (show ¬ sqN P (2 ^ h) + 1 ≤ sqN P (2 ^ h) by omega)]
          rfl
        · rw [if_neg (show ¬ sq P (2 ^ h) n ||| foesA P (sq P (2 ^ h) n) = sq P (2 ^ h) n from g3 n (by omega)), if_pos (show n + 1 ≤ sqN P (2 ^ h) by omega)]
          rfl
      · rintro f s rfl
        rw [if_neg (show ¬ sqN P (2 ^ h) + 1 ≤ sqN P (2 ^ h) by omega)]
        dsimp only
        rw [f_X11_spread_34.eq_2, if_pos (show nI 0 = 0 from rfl)]
        by_cases hr : r = 0
        · rw [if_pos hr, if_pos hr, s_ones _ (by have := hs (sqN P (2 ^ h)); omega), q_bd_some]
          exact hw.ok (q_nz _)
        · rw [if_neg hr, if_neg hr]
          exact hw.ok (q_nz _)
end MOD
