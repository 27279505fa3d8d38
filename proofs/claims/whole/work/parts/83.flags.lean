/-! FLAGS: most couples, and who is coupled with whom -/
/-- the greatest of a number and others -/
def mxN (b : Nat) (f : Nat → Nat) : Nat → Nat
  | 0 => b
  | n + 1 => max (mxN b f n) (f n)
theorem mxN_congr {b b' : Nat} {f g : Nat → Nat} {n : Nat} (hb : b = b') (h : ∀ k, k < n → f k = g k) : mxN b f n = mxN b' g n := by
  subst hb
  induction n with
  | zero => rfl
  | succ n ih =>
    unfold mxN
    rw [ih (fun k hk => h k (by omega)), h n (by omega)]
theorem mxN_le {b c : Nat} {f : Nat → Nat} {n : Nat} (hb : b ≤ c) (h : ∀ k, k < n → f k ≤ c) : mxN b f n ≤ c := by
  induction n with
  | zero => exact hb
  | succ n ih =>
    have h1 := ih (fun k hk => h k (by omega))
    have h2 := h n (by omega)
    unfold mxN
    omega
/-- most couples of a set, by fuel -/
def mc (E : Nat → Nat → Bool) (n : Nat) : Nat → Nat → Nat
  | 0, _ => 0
  | d + 1, s => match fst1 (fun i => s.testBit i) 10 with
    | none => 0
    | some l => mxN (mc E n d (bd s (2 ^ l))) (fun j => if (bd s (2 ^ l)).testBit j && !E l j then 1 + mc E n d (bd (bd s (2 ^ l)) (2 ^ j)) else 0) n
theorem bd_lt {s k : Nat} (h : s.testBit k = true) : bd s (2 ^ k) < s := by
  apply Nat.lt_of_le_of_ne (bd_le _ _)
  intro z
  have : (bd s (2 ^ k)).testBit k = true := by rw [z]; exact h
  rw [bd_bit, Nat.testBit_two_pow, decide_eq_true rfl] at this
  simp at this
theorem mc_fuel (E : Nat → Nat → Bool) (n : Nat) : ∀ d d' s, s ≤ d → s ≤ d' → mc E n d s = mc E n d' s := by
  intro d
  induction d with
  | zero =>
    intro d' s h _
    have h0 : s = 0 := by omega
    subst h0
    cases d' with
    | zero => rfl
    | succ d' =>
      show 0 = mc E n (d' + 1) 0
      unfold mc
      rw [fst1_nos (n := 0) rfl (Nat.zero_le _) (fun c _ _ => Nat.zero_testBit c)]
  | succ d ih =>
    intro d' s h h'
    cases d' with
    | zero =>
      have h0 : s = 0 := by omega
      subst h0
      show mc E n (d + 1) 0 = 0
      unfold mc
      rw [fst1_nos (n := 0) rfl (Nat.zero_le _) (fun c _ _ => Nat.zero_testBit c)]
    | succ d' =>
      unfold mc
      cases hl : fst1 (fun i => s.testBit i) 10 with
      | none => rfl
      | some l =>
        dsimp only
        obtain ⟨-, l2, -⟩ := fst1_some hl
        have hb := bd_lt l2
        refine mxN_congr (ih _ _ (by omega) (by omega)) (fun k _ => ?_)
        have hb2 := bd_le (bd s (2 ^ l)) (2 ^ k)
        rw [ih d' (bd (bd s (2 ^ l)) (2 ^ k)) (by omega) (by omega)]
def mcS (E : Nat → Nat → Bool) (n s : Nat) : Nat := mc E n s s
theorem mcS_0 (E : Nat → Nat → Bool) (n : Nat) : mcS E n 0 = 0 := rfl
theorem mcS_eq {E : Nat → Nat → Bool} {n s l : Nat} (hs : s ≠ 0) (hl : fst1 (fun i => s.testBit i) 10 = some l) : mcS E n s = mxN (mcS E n (bd s (2 ^ l))) (fun j => if (bd s (2 ^ l)).testBit j && !E l j then 1 + mcS E n (bd (bd s (2 ^ l)) (2 ^ j)) else 0) n := by
  obtain ⟨-, l2, -⟩ := fst1_some hl
  have hb := bd_lt l2
  unfold mcS
  obtain ⟨d, rfl⟩ : ∃ d, s = d + 1 := ⟨s - 1, by omega⟩
  show mc E n (d + 1) (d + 1) = _
  rw [mc, hl]
  dsimp only
  refine mxN_congr (mc_fuel E n _ _ _ (by omega) (Nat.le_refl _)) (fun k _ => ?_)
  have hb2 := bd_le (bd (d + 1) (2 ^ l)) (2 ^ k)
  rw [mc_fuel E n d (bd (bd (d + 1) (2 ^ l)) (2 ^ k)) _ (by omega) (Nat.le_refl _)]
theorem mcS_le (E : Nat → Nat → Bool) (n : Nat) : ∀ m s, s ≤ m → mcS E n s ≤ s := by
  intro m
  induction m with
  | zero => intro s h; rw [show s = 0 by omega]; exact Nat.le_refl _
  | succ m ih =>
    intro s h
    by_cases h0 : s = 0
    · rw [h0]; exact Nat.le_refl _
    · cases hl : fst1 (fun i => s.testBit i) 10 with
      | none =>
        unfold mcS
        obtain ⟨d, rfl⟩ : ∃ d, s = d + 1 := ⟨s - 1, by omega⟩
        show mc E n (d + 1) (d + 1) ≤ _
        rw [mc, hl]
        exact Nat.zero_le _
      | some l =>
        obtain ⟨-, l2, -⟩ := fst1_some hl
        have hb := bd_lt l2
        rw [mcS_eq h0 hl]
        refine mxN_le (Nat.le_trans (ih _ (by omega)) (by omega)) (fun k _ => ?_)
        split
        · have hb2 := bd_le (bd s (2 ^ l)) (2 ^ k)
          have := ih (bd (bd s (2 ^ l)) (2 ^ k)) (by omega)
          omega
        · exact Nat.zero_le _
/-- the least ally of one that is left -/
def alS (E : Nat → Nat → Bool) (n left k : Nat) : Option Nat := fst1 (fun j => ((bd left (2 ^ k)).testBit j && !E k j) && decide (1 + mcS E n (bd (bd left (2 ^ k)) (2 ^ j)) = mcS E n left)) n
/-- who is left as one comes to a place -/
def lfS (E : Nat → Nat → Bool) (n : Nat) : Nat → Nat
  | 0 => 2 ^ n - 1
  | k + 1 => if (lfS E n k).testBit k then (match alS E n (lfS E n k) k with
    | none => bd (lfS E n k) (2 ^ k)
    | some j => bd (bd (lfS E n k) (2 ^ k)) (2 ^ j)) else lfS E n k
/-- who is coupled with whom, so far -/
def fAS (E : Nat → Nat → Bool) (n : Nat) : Nat → Nat → Option Nat
  | 0 => fun _ => none
  | k + 1 => if (lfS E n k).testBit k then (match alS E n (lfS E n k) k with
    | none => fAS E n k
    | some j => fun h => if h = j then some k else if h = k then some j else fAS E n k h) else fAS E n k
theorem lf_sub (E : Nat → Nat → Bool) (n k : Nat) : sub2 (lfS E n (k + 1)) (lfS E n k) := by
  intro i hi
  unfold lfS at hi
  split at hi
  · split at hi
    · exact bd_sub _ _ i hi
    · exact bd_sub _ _ i (bd_sub _ _ i hi)
  · exact hi
/-- below the place nobody is left -/
theorem lf_low (E : Nat → Nat → Bool) (n : Nat) : ∀ k i, i < k → (lfS E n k).testBit i = false := by
  intro k
  induction k with
  | zero => intro i hi; omega
  | succ k ih =>
    intro i hi
    by_cases e : i = k
    · subst e
      unfold lfS
      cases hb : (lfS E n i).testBit i with
      | false => rw [if_neg (by simp)]; exact hb
      | true =>
        rw [if_pos rfl]
        cases alS E n (lfS E n i) i with
        | none =>
          dsimp only
          rw [bd_bit, Nat.testBit_two_pow, decide_eq_true rfl]; simp
        | some j =>
          dsimp only
          rw [bd_bit, bd_bit, Nat.testBit_two_pow, decide_eq_true rfl]; simp
    · cases hb : (lfS E n (k + 1)).testBit i with
      | false => rfl
      | true =>
        have := lf_sub E n k i hb
        rw [ih i (by omega)] at this
        cases this
/-- one who isn't left keeps what he has -/
theorem fA_keep {E : Nat → Nat → Bool} {n h : Nat} : ∀ k m, k ≤ m → (lfS E n k).testBit h = false → fAS E n m h = fAS E n k h := by
  intro k m
  induction m with
  | zero => intro hk _; rw [show k = 0 by omega]
  | succ m ih =>
    intro hk hb
    by_cases e : k = m + 1
    · rw [← e]
    · rw [← ih (by omega) hb]
      have hbm : (lfS E n m).testBit h = false := by
        have hh : ∀ d, (lfS E n (k + d)).testBit h = false := by
          intro d
          induction d with
          | zero => exact hb
          | succ d ihd =>
            cases hq : (lfS E n (k + (d + 1))).testBit h with
            | false => rfl
            | true =>
              have := lf_sub E n (k + d) h hq
              rw [ihd] at this
              cases this
        have := hh (m - k)
        rw [show k + (m - k) = m by omega] at this
        exact this
      show fAS E n (m + 1) h = fAS E n m h
      conv => lhs; unfold fAS
      cases hc : (lfS E n m).testBit m with
      | false => rw [if_neg (by simp)]
      | true =>
        rw [if_pos rfl]
        cases hal : alS E n (lfS E n m) m with
        | none => rfl
        | some j =>
          dsimp only
          obtain ⟨-, j2, -⟩ := fst1_some hal
          rw [Bool.and_eq_true, Bool.and_eq_true] at j2
          have hj := bd_sub _ _ _ j2.1.1
          rw [if_neg (fun z => by rw [z, hj] at hbm; cases hbm), if_neg (fun z => by rw [z, hc] at hbm; cases hbm)]
