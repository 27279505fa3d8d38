/-! PALETTES, by numbers: hues, rules, parts (3 of a hue), rules (3 of each), likes (10 of a neighbour) -/
abbrev Pal : Type := Nat × Nat × (Nat → Nat) × (Nat → Int) × (Nat → Nat)
def pH (P : Pal) : Nat := P.1
def pR (P : Pal) : Nat := P.2.1
def pP (P : Pal) (i : Nat) : Nat := P.2.2.1 i
def pU (P : Pal) (i : Nat) : Int := P.2.2.2.1 i
def pL (P : Pal) (i : Nat) : Nat := P.2.2.2.2 i
def ruOK (s x y : Int) : Prop := (0 ≤ s ∧ s ≤ 4) ∧ (0 ≤ x ∧ x ≤ 54) ∧ (-1 ≤ y ∧ y ≤ 54) ∧ (s = 1 ∨ s = 2 ∨ s = 4 → x ≤ 2) ∧ (s = 3 → x ≤ 9 ∧ 0 ≤ y ∧ y ≤ 9)
def pOK (P : Pal) : Prop := pH P ≤ 10 ∧ pR P ≤ 6 ∧ (∀ i, pP P i ≤ 9) ∧ (∀ k, k < pR P → ruOK (pU P (3 * k)) (pU P (3 * k + 1)) (pU P (3 * k + 2))) ∧ (∀ i, pL P i ≤ 9)
/-- whether a rule of a sort holds of what it looks at -/
def tch (s x y m t : Int) : Bool := if s = 0 then decide (x ≤ m + t ∧ m + t ≤ y) else if s = 1 then decide (y ≤ (m - t).natAbs) else if s = 2 then decide (m = t ∧ 0 < m) else if s = 4 then decide (y ≤ m + t) else false
def tot (P : Pal) (h : Nat) : Nat := pP P (3 * h) + pP P (3 * h + 1) + pP P (3 * h + 2)
/-- what a rule looks at in a hue, in a colour -/
def mea (P : Pal) (h : Nat) (s x : Int) : Nat := if s = 0 then tot P h else if x < 3 then pP P (3 * h + x.toNat) else 0
def meaC (r y b : Nat) (s x : Int) : Nat := if s = 0 then r + y + b else if x = 0 then r else if x = 1 then y else b
def hold1 (P : Pal) (s x y : Int) (a b : Nat) : Bool := tch s x y (mea P a s x) (mea P b s x)
def rho (P : Pal) (a b k : Nat) : Bool := if pU P (3 * k) = 3 then decide ((pU P (3 * k + 1) = a ∧ pU P (3 * k + 2) = b) ∨ (pU P (3 * k + 1) = b ∧ pU P (3 * k + 2) = a)) else hold1 P (pU P (3 * k)) (pU P (3 * k + 1)) (pU P (3 * k + 2)) a b
def rhoC (P : Pal) (h r y b k : Nat) : Bool := decide (pU P (3 * k) ≠ 3) && tch (pU P (3 * k)) (pU P (3 * k + 1)) (pU P (3 * k + 2)) (mea P h (pU P (3 * k)) (pU P (3 * k + 1))) (meaC r y b (pU P (3 * k)) (pU P (3 * k + 1)))
def isC (P : Pal) (k : Nat) : Bool := decide (pU P (3 * k) = 4)
/-- strength by the rules that hold: none where a cure does -/
def str0 (P : Pal) (p : Nat → Bool) : Nat := if exb (fun k => p k && isC P k) (pR P) then 0 else cnt (fun k => p k && !isC P k) (pR P)
def strH (P : Pal) (a b : Nat) : Nat := if a = b then 0 else str0 P (rho P a b)
def strC (P : Pal) (h r y b : Nat) : Nat := str0 P (rhoC P h r y b)
theorem str0_le (P : Pal) (p : Nat → Bool) : str0 P p ≤ pR P := by
  unfold str0
  split
  · exact Nat.zero_le _
  · exact cnt_le _ _
theorem strH_le (P : Pal) (a b : Nat) : strH P a b ≤ pR P := by
  unfold strH
  split
  · exact Nat.zero_le _
  · exact str0_le _ _
/-- bits of a property -/
def bset (p : Nat → Bool) : Nat → Nat
  | 0 => 0
  | n + 1 => bset p n ||| (if p n then 2 ^ n else 0)
theorem bset_bit (p : Nat → Bool) (n i : Nat) : (bset p n).testBit i = (decide (i < n) && p i) := by
  induction n with
  | zero => simp [bset]
  | succ n ih =>
    unfold bset
    rw [Nat.testBit_or, ih]
    by_cases hp : p n
    · rw [if_pos hp, Nat.testBit_two_pow]
      by_cases hi : n = i
      · subst hi; simp [hp]
      · by_cases h1 : i < n
        · simp [hi, h1, show i < n + 1 by omega]
        · simp [hi, h1, show ¬ i < n + 1 by omega]
    · rw [if_neg hp]
      by_cases hi : n = i
      · subst hi; simp [hp]
      · by_cases h1 : i < n
        · simp [h1, show i < n + 1 by omega]
        · simp [h1, show ¬ i < n + 1 by omega]
theorem bset_lt (p : Nat → Bool) (n : Nat) : bset p n < 2 ^ n := by
  apply Nat.lt_pow_two_of_testBit
  intro i hi
  rw [bset_bit, decide_eq_false (by omega)]
  rfl
theorem bset_lt10 (p : Nat → Bool) {n : Nat} (h : n ≤ 10) : bset p n < 1024 := Nat.lt_of_lt_of_le (bset_lt p n) (Nat.pow_le_pow_right (by decide) h)
theorem bset_0 {p : Nat → Bool} {n : Nat} : bset p n = 0 ↔ ∀ i, i < n → p i = false := by
  constructor
  · intro h i hi
    have := bset_bit p n i
    rw [h, Nat.zero_testBit, decide_eq_true hi] at this
    simpa using this.symm
  · intro h
    apply Nat.eq_of_testBit_eq
    intro i
    rw [bset_bit, Nat.zero_testBit]
    by_cases hi : i < n
    · simp [hi, h i hi]
    · simp [hi]
theorem bset_congr {f g : Nat → Bool} {n : Nat} (h : ∀ k, k < n → f k = g k) : bset f n = bset g n := by
  induction n with
  | zero => rfl
  | succ n ih =>
    unfold bset
    rw [ih (fun k hk => h k (by omega)), h n (by omega)]
/-- how many of the first ten bits -/
def popc (s : Nat) : Nat := cnt (fun i => s.testBit i) 10
theorem cnt_le2 (p : Nat → Bool) {n m : Nat} (h : n ≤ m) (hz : ∀ i, n ≤ i → p i = false) : cnt p m = cnt p n := by
  induction m with
  | zero => rw [show n = 0 by omega]
  | succ m ih =>
    by_cases hn : n = m + 1
    · rw [hn]
    · rw [show cnt p (m + 1) = cnt p m + (if p m then 1 else 0) from rfl, hz m (by omega), ih (by omega)]
      rfl
theorem popc_bset (p : Nat → Bool) {n : Nat} (h : n ≤ 10) : popc (bset p n) = cnt p n := by
  unfold popc
  rw [cnt_le2 (fun i => (bset p n).testBit i) h (fun i hi => by rw [bset_bit, decide_eq_false (by omega)]; rfl)]
  exact cnt_congr (fun k hk => by rw [bset_bit, decide_eq_true hk]; rfl)
def foe (P : Pal) (a b : Nat) : Bool := decide (0 < strH P a b)
def foes (P : Pal) (a : Nat) : Nat := bset (foe P a) (pH P)
theorem cnt_0 {p : Nat → Bool} {n : Nat} : cnt p n = 0 ↔ ∀ k, k < n → p k = false := by
  induction n with
  | zero => simp [cnt]
  | succ n ih =>
    unfold cnt
    constructor
    · intro h k hk
      by_cases hp : p n
      · rw [if_pos hp] at h; omega
      · rw [if_neg hp] at h
        by_cases hkn : k = n
        · subst hkn; simpa using hp
        · exact ih.mp (by omega) k (by omega)
    · intro h
      rw [ih.mpr (fun k hk => h k (by omega)), h n (by omega)]
      rfl
theorem str0_pos {P : Pal} {p : Nat → Bool} : 0 < str0 P p ↔ (∃ k, k < pR P ∧ p k = true ∧ isC P k = false) ∧ ∀ k, k < pR P → p k = true → isC P k = false := by
  unfold str0
  by_cases h : exb (fun k => p k && isC P k) (pR P) = true
  · rw [if_pos h]
    obtain ⟨k, h1, h2⟩ := exb_iff.mp h
    rw [Bool.and_eq_true] at h2
    constructor
    · intro z; omega
    · intro z
      have := z.2 k h1 h2.1
      rw [h2.2] at this
      cases this
  · rw [if_neg h]
    have h3 := exb_no.mp (by simpa using h)
    constructor
    · intro z
      constructor
      · by_cases hq : ∃ k, k < pR P ∧ p k = true ∧ isC P k = false
        · exact hq
        · exfalso
          have : cnt (fun k => p k && !isC P k) (pR P) = 0 := cnt_0.mpr (fun k hk => by
            cases hp : p k
            · rfl
            · cases hc : isC P k
              · exact absurd ⟨k, hk, hp, hc⟩ hq
              · rfl)
          omega
      · intro k hk hp
        have := h3 k hk
        rw [hp] at this
        simpa using this
    · rintro ⟨⟨k, h4, h5, h6⟩, -⟩
      rcases Nat.eq_zero_or_pos (cnt (fun k => p k && !isC P k) (pR P)) with h0 | h0
      · have := cnt_0.mp h0 k h4
        rw [h5, h6] at this
        cases this
      · exact h0
/-- the hues by which a rule of the part p holds with a tone, of all parts with a total, or a cure does -/
def hbp (P : Pal) (i : Nat) : Nat := bset (fun h => exb (fun k => decide ((pU P (3 * k) = 1 ∨ pU P (3 * k) = 2) ∧ pU P (3 * k + 1) = (i / 10 : Nat)) && tch (pU P (3 * k)) (pU P (3 * k + 1)) (pU P (3 * k + 2)) (mea P h (pU P (3 * k)) (pU P (3 * k + 1))) (i % 10 : Nat)) (pR P)) (pH P)
def hbt (P : Pal) (i : Nat) : Nat := bset (fun h => exb (fun k => decide (pU P (3 * k) = 0) && tch (pU P (3 * k)) (pU P (3 * k + 1)) (pU P (3 * k + 2)) (mea P h (pU P (3 * k)) (pU P (3 * k + 1))) i) (pR P)) (pH P)
def cbp (P : Pal) (i : Nat) : Nat := bset (fun h => exb (fun k => decide (pU P (3 * k) = 4 ∧ pU P (3 * k + 1) = (i / 10 : Nat)) && tch (pU P (3 * k)) (pU P (3 * k + 1)) (pU P (3 * k + 2)) (mea P h (pU P (3 * k)) (pU P (3 * k + 1))) (i % 10 : Nat)) (pR P)) (pH P)
/-- hues that clash with a colour -/
def foesC (P : Pal) (r y b : Nat) : Nat := bset (fun h => decide (0 < strC P h r y b)) (pH P)
def free (P : Pal) (c : Nat) : Bool := decide (foesC P (c / 100) (c / 10 % 10) (c % 10) = 0)
def dsum (c : Nat) : Nat := c / 100 + c / 10 % 10 + c % 10
def dotS (P : Pal) : Nat → Int := fol (fun c b => if (b = -1 ∨ (dsum c : Int) < dsum b.toNat) ∧ free P c = true then (c : Int) else b) (-1)
/-! the class's palette -/
def rP (M : PM) (a : Nat) (P : Pal) : Prop :=
  (hr_K a = 3 ∧ pOK P) ∧ (M.1 a 0 = nI (pH P) ∧ M.1 a 1 = nI (pR P)) ∧ ((∀ i, i < 3 * pH P → M.1 (a + 1) i = nI (pP P i)) ∧ (∀ i, i < 3 * pR P → M.1 (a + 2) i = zI (pU P i)) ∧ ∀ i, i < 20 → M.1 (a + 3) i = nI (pL P i)) ∧
  ((∀ x y, x < pH P → y < pH P → M.1 (a + 4) (10 * x + y) = nI (strH P x y)) ∧ ∀ x, x < pH P → M.1 (a + 5) x = nI (foes P x)) ∧ ((∀ i, i < 30 → M.1 (a + 6) i = nI (hbp P i)) ∧ (∀ i, i < 28 → M.1 (a + 7) i = nI (hbt P i)) ∧ ∀ i, i < 30 → M.1 (a + 8) i = nI (cbp P i)) ∧ (M.1 a 10 = zI (-2) ∨ M.1 a 10 = zI (dotS P 1000))
/-- two memories agree on these cells -/
def agr (lo hi : Nat) (M M' : PM) : Prop := ∀ a, lo ≤ a → a < hi → M'.1 a = M.1 a
theorem rP.agr {M M' : PM} {a : Nat} {P : Pal} (h : rP M a P) (hg : agr a (a + 9) M M') : rP M' a P := by
  have g : ∀ j, j < 9 → M'.1 (a + j) = M.1 (a + j) := fun j hj => hg (a + j) (by omega) (by omega)
  have g0 : M'.1 a = M.1 a := g 0 (by omega)
  unfold rP at h ⊢
  rw [g0, g 1 (by omega), g 2 (by omega), g 3 (by omega), g 4 (by omega), g 5 (by omega), g 6 (by omega), g 7 (by omega), g 8 (by omega)]
  exact h
theorem agr.of {W : List (Nat × Nat)} {M M' : PM} {lo hi : Nat} (h : hr_fr W M M') (hw : ∀ a k, lo ≤ a → a < hi → hr_in W a k = false) : agr lo hi M M' := fun a h1 h2 => funext (fun k => (h.1 a k (hw a k h1 h2)).1)
theorem agr.rf (lo hi : Nat) (M : PM) : agr lo hi M M := fun _ _ _ => rfl
theorem agr.tr {lo hi : Nat} {M M1 M2 : PM} (h1 : agr lo hi M M1) (h2 : agr lo hi M1 M2) : agr lo hi M M2 := fun a h3 h4 => (h2 a h3 h4).trans (h1 a h3 h4)
theorem agr.sub {lo hi lo' hi' : Nat} {M M1 : PM} (h : agr lo hi M M1) (h1 : lo ≤ lo') (h2 : hi' ≤ hi) : agr lo' hi' M M1 := fun a h3 h4 => h a (by omega) (by omega)
