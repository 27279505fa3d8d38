/-! ORDERS in which none stands beside one it minds -/
theorem sumN_if_le {p : Nat → Bool} {f : Nat → Nat} {b n : Nat} (h : ∀ k, k < n → p k = true → f k ≤ b) : sumN (fun k => if p k then f k else 0) n ≤ cnt p n * b := by
  induction n with
  | zero => exact Nat.zero_le _
  | succ n ih =>
    have h1 := ih (fun k hk => h k (by omega))
    show sumN _ n + (if p n then f n else 0) ≤ (cnt p n + (if p n then 1 else 0)) * b
    cases hp : p n with
    | false => simpa using h1
    | true =>
      have := h n (by omega) hp
      rw [if_pos rfl, if_pos rfl, Nat.add_mul, Nat.one_mul]
      omega
theorem sumN_pos {f : Nat → Nat} {n : Nat} (h : 0 < sumN f n) : ∃ k, k < n ∧ 0 < f k := by
  induction n with
  | zero => exact absurd h (Nat.lt_irrefl 0)
  | succ n ih =>
    have e : sumN f (n + 1) = sumN f n + f n := rfl
    by_cases h0 : 0 < f n
    · exact ⟨n, by omega, h0⟩
    · obtain ⟨k, h1, h2⟩ := ih (by omega)
      exact ⟨k, by omega, h2⟩
theorem popc_n {s n : Nat} (hn : n ≤ 10) (hs : s < 2 ^ n) : popc s = cnt (fun i => s.testBit i) n := cnt_le2 _ hn (fun i hi => by
  cases hb : s.testBit i with
  | false => rfl
  | true => have := lt2_iff.mp hs i hb; omega)
theorem cnt_rm {p : Nat → Bool} {n k : Nat} (hk : k < n) (hp : p k = true) : cnt (fun i => p i && decide (i ≠ k)) n + 1 = cnt p n := by
  induction n with
  | zero => omega
  | succ n ih =>
    show cnt _ n + (if p n && decide (n ≠ k) then 1 else 0) + 1 = cnt p n + (if p n then 1 else 0)
    by_cases e : k = n
    · subst e
      rw [hp, decide_eq_false (fun z => z rfl), cnt_congr (g := p) (fun i hi => by rw [decide_eq_true (show i ≠ k by omega), Bool.and_true])]
      rfl
    · have := ih (by omega)
      rw [decide_eq_true (show n ≠ k from fun z => e z.symm), Bool.and_true]
      omega
theorem popc_rm {s k : Nat} (hs : s < 1024) (hk : s.testBit k = true) : popc (bd s (2 ^ k)) + 1 = popc s := by
  rw [show popc s = cnt (fun i => s.testBit i) 10 from rfl, ← cnt_rm (p := fun i => s.testBit i) (n := 10) (bit_lt hs hk) hk]
  unfold popc
  rw [cnt_congr (g := fun i => s.testBit i && decide (i ≠ k))]
  intro i _
  show (bd s (2 ^ k)).testBit i = (s.testBit i && decide (i ≠ k))
  rw [bd_bit, Nat.testBit_two_pow]
  by_cases e : k = i
  · subst e; simp
  · rw [decide_eq_false e, decide_eq_true (show i ≠ k from fun z => e z.symm)]; rfl
theorem popc_0 {s : Nat} (hs : s < 1024) : popc s = 0 ↔ s = 0 := by
  constructor
  · intro h
    apply Nat.eq_of_testBit_eq
    intro i
    rw [Nat.zero_testBit]
    by_cases hi : i < 10
    · exact cnt_0.mp h i hi
    · cases hb : s.testBit i with
      | false => rfl
      | true => have := bit_lt hs hb; omega
  · rintro rfl
    exact cnt_0.mpr (fun k _ => Nat.zero_testBit k)
/-- orders of a set that k begins, d others being in it -/
def bg (E : Nat → Nat → Bool) (n : Nat) : Nat → Nat → Nat → Nat
  | 0, _, _ => 1
  | d + 1, s, k => sumN (fun j => if (bd s (2 ^ k)).testBit j && !E k j then bg E n d (bd s (2 ^ k)) j else 0) n
def fac : Nat → Nat
  | 0 => 1
  | d + 1 => (d + 1) * fac d
theorem bg_le {E : Nat → Nat → Bool} {n : Nat} (hn : n ≤ 10) : ∀ d s k, s < 2 ^ n → popc s = d + 1 → s.testBit k = true → bg E n d s k ≤ fac d := by
  intro d
  have h3 : 2 ^ n ≤ 2 ^ 10 := Nat.pow_le_pow_right (by decide) hn
  induction d with
  | zero => intro s k _ _ _; exact Nat.le_refl _
  | succ d ih =>
    intro s k hs hp hk
    have h1 := popc_rm (show s < 1024 by omega) hk
    have h2 : bd s (2 ^ k) < 2 ^ n := Nat.lt_of_le_of_lt (bd_le _ _) hs
    refine Nat.le_trans (sumN_if_le (p := fun j => (bd s (2 ^ k)).testBit j && !E k j) (b := fac d) (fun j _ hj => ?_)) ?_
    · rw [Bool.and_eq_true] at hj
      exact ih _ j h2 (by omega) hj.1
    · refine Nat.mul_le_mul_right _ ?_
      refine Nat.le_trans (cnt_mono (q := fun j => (bd s (2 ^ k)).testBit j) (fun j _ hj => ?_)) ?_
      · rw [Bool.and_eq_true] at hj
        exact hj.1
      · rw [← popc_n hn h2]
        omega
theorem fac_9 {d : Nat} (h : d ≤ 9) : fac d ≤ 362880 := by
  have : ∀ d, d < 10 → fac d ≤ 362880 := by decide +kernel
  exact this d (by omega)
/-- in how many orders a whole crowd stands -/
def orS (E : Nat → Nat → Bool) (n : Nat) : Nat := (if n = 0 then 1 else 0) + sumN (bg E n (n - 1) (2 ^ n - 1)) n
theorem popc_all {n : Nat} (hn : n ≤ 10) : popc (2 ^ n - 1) = n := by
  have : ∀ n, n < 11 → popc (2 ^ n - 1) = n := by decide +kernel
  exact this n (by omega)
theorem all_bit {n i : Nat} : (2 ^ n - 1).testBit i = decide (i < n) := Nat.testBit_two_pow_sub_one n i
theorem orS_le (E : Nat → Nat → Bool) {n : Nat} (hn : n ≤ 10) : orS E n ≤ 3628801 := by
  have h2 : 1 ≤ 2 ^ n := Nat.one_le_two_pow
  unfold orS
  have : sumN (bg E n (n - 1) (2 ^ n - 1)) n ≤ n * 362880 := by
    refine sumN_le (fun k hk => ?_)
    refine Nat.le_trans (bg_le hn (n - 1) _ k (by omega) (by rw [popc_all hn]; omega) (by rw [all_bit, decide_eq_true hk])) (fac_9 (by omega))
  have h5 : n * 362880 ≤ 10 * 362880 := Nat.mul_le_mul_right _ hn
  split <;> omega
/-- who begins, of those that are welcome -/
def chS (E : Nat → Nat → Bool) (n left w : Nat) : Option Nat := fst1 (fun k => w.testBit k && decide (0 < bg E n (popc left - 1) left k)) n
/-- who is left, and who is welcome, after so many places -/
def odS (E : Nat → Nat → Bool) (n : Nat) : Nat → Nat × Nat
  | 0 => (2 ^ n - 1, 2 ^ n - 1)
  | i + 1 => match chS E n (odS E n i).1 (odS E n i).2 with
    | none => odS E n i
    | some k => (bd (odS E n i).1 (2 ^ k), bd (bd (odS E n i).1 (2 ^ k)) (bset (E k) n))
/-- who stands at a place -/
def odN (E : Nat → Nat → Bool) (n i : Nat) : Nat := (chS E n (odS E n i).1 (odS E n i).2).getD 0
theorem od_ok {E : Nat → Nat → Bool} {n : Nat} (hn : n ≤ 10) (h0 : 0 < orS E n) : ∀ i, i < n → (odS E n i).1 < 2 ^ n ∧ popc (odS E n i).1 = n - i ∧ sub2 (odS E n i).2 (odS E n i).1 ∧ chS E n (odS E n i).1 (odS E n i).2 = some (odN E n i) ∧ odN E n i < n ∧ (odS E n i).2.testBit (odN E n i) = true ∧ 0 < bg E n (n - i - 1) (odS E n i).1 (odN E n i) := by
  have h2 : 1 ≤ 2 ^ n := Nat.one_le_two_pow
  have h3 : 2 ^ n ≤ 2 ^ 10 := Nat.pow_le_pow_right (by decide) hn
  have fin : ∀ i left w, odS E n i = (left, w) → left < 2 ^ n → popc left = n - i → sub2 w left → (∃ k, k < n ∧ w.testBit k = true ∧ 0 < bg E n (n - i - 1) left k) → (odS E n i).1 < 2 ^ n ∧ popc (odS E n i).1 = n - i ∧ sub2 (odS E n i).2 (odS E n i).1 ∧ chS E n (odS E n i).1 (odS E n i).2 = some (odN E n i) ∧ odN E n i < n ∧ (odS E n i).2.testBit (odN E n i) = true ∧ 0 < bg E n (n - i - 1) (odS E n i).1 (odN E n i) := by
    intro i left w he hl hp hs hex
    unfold odN
    rw [he]
    have hc : ∃ c, chS E n left w = some c := by
      cases hq : chS E n left w with
      | some c => exact ⟨c, rfl⟩
      | none =>
        obtain ⟨k, k1, k2, k3⟩ := hex
        have := fst1_none hq k k1
        rw [hp, k2, decide_eq_true k3] at this
        cases this
    obtain ⟨c, hc⟩ := hc
    obtain ⟨c1, c2, -⟩ := fst1_some hc
    rw [Bool.and_eq_true, decide_eq_true_eq, hp] at c2
    rw [hc]
    exact ⟨hl, hp, hs, rfl, c1, c2.1, c2.2⟩
  intro i
  induction i with
  | zero =>
    intro hi
    refine fin 0 (2 ^ n - 1) (2 ^ n - 1) rfl (by omega) (by rw [popc_all hn]; omega) (fun i h => h) ?_
    unfold orS at h0
    rw [if_neg (by omega), Nat.zero_add] at h0
    obtain ⟨k, k1, k2⟩ := sumN_pos h0
    exact ⟨k, k1, by rw [all_bit, decide_eq_true k1], by rw [Nat.sub_zero]; exact k2⟩
  | succ i ih =>
    intro hi
    obtain ⟨g1, g2, g3, g4, g5, g6, g7⟩ := ih (by omega)
    have e : odS E n (i + 1) = (bd (odS E n i).1 (2 ^ odN E n i), bd (bd (odS E n i).1 (2 ^ odN E n i)) (bset (E (odN E n i)) n)) := by
      show (match chS E n (odS E n i).1 (odS E n i).2 with | none => odS E n i | some k => (bd (odS E n i).1 (2 ^ k), bd (bd (odS E n i).1 (2 ^ k)) (bset (E k) n))) = _
      rw [g4]
    have hb := g3 _ g6
    have hp := popc_rm (show (odS E n i).1 < 1024 by omega) hb
    refine fin (i + 1) _ _ e (Nat.lt_of_le_of_lt (bd_le _ _) g1) (by omega) (bd_sub _ _) ?_
    rw [show n - i - 1 = (n - (i + 1) - 1) + 1 by omega] at g7
    unfold bg at g7
    obtain ⟨k, k1, k2⟩ := sumN_pos g7
    split at k2
    · next hk =>
      rw [Bool.and_eq_true] at hk
      refine ⟨k, k1, ?_, k2⟩
      rw [bd_bit, hk.1, bset_bit, decide_eq_true k1]
      simpa using hk.2
    · omega
