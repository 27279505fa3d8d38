/-! DINNERS: the fewest hues, by numbers -/
/-- hues that a guest can be reached in, from one who begins -/
def rcs (P : Pal) (R : Rol) (s f : Nat) : Nat → Nat
  | 0 => 2 ^ f
  | k + 1 => bset (fun j => (gw R (k + 1) &&& s).testBit j && exb (fun h => (rcs P R s f k).testBit h && !foe P h j) (pH P)) (pH P)
section FEW
variable {P : Pal} {R : Rol}
theorem rcs_lt {s f : Nat} (hf : f < pH P) : ∀ k, rcs P R s f k < 2 ^ pH P
  | 0 => Nat.pow_lt_pow_right (by decide) hf
  | _ + 1 => bset_lt _ _
theorem rcs_way {s f : Nat} (hf : f < pH P) : ∀ k, k < oN R → ((∃ h, h < pH P ∧ (rcs P R s f k).testBit h = true ∧ 0 < dV P R (bC P f) s (oN R - 1 - k) h) ↔ 0 < dV P R (bC P f) s (oN R - 1) f) := by
  intro k
  induction k with
  | zero =>
    intro _
    constructor
    · rintro ⟨h, h1, h2, h3⟩
      have : f = h := by
        unfold rcs at h2
        rw [Nat.testBit_two_pow] at h2
        exact of_decide_eq_true h2
      rw [← this] at h3
      exact h3
    · intro h
      exact ⟨f, hf, by unfold rcs; rw [Nat.testBit_two_pow, decide_eq_true rfl], h⟩
  | succ k ih =>
    intro hk
    rw [← ih (by omega)]
    have ed : oN R - 1 - k = oN R - 1 - (k + 1) + 1 := by omega
    have ek : oN R - 1 - (oN R - 1 - (k + 1)) = k + 1 := by omega
    constructor
    · rintro ⟨j, j1, j2, j3⟩
      unfold rcs at j2
      rw [bset_bit, decide_eq_true j1, Bool.true_and, Bool.and_eq_true] at j2
      obtain ⟨h, h1, h2⟩ := exb_iff.mp j2.2
      rw [Bool.and_eq_true] at h2
      refine ⟨h, h1, h2.1, ?_⟩
      rw [ed]
      exact dV_pos.mpr ⟨j, j1, by simpa using h2.2, by rw [ek]; exact j2.1, j3⟩
    · rintro ⟨h, h1, h2, h3⟩
      rw [ed] at h3
      obtain ⟨j, j1, j2, j3, j4⟩ := dV_pos.mp h3
      rw [ek] at j3
      refine ⟨j, j1, ?_, j4⟩
      unfold rcs
      rw [bset_bit, decide_eq_true j1, Bool.true_and, Bool.and_eq_true]
      exact ⟨j3, exb_iff.mpr ⟨h, h1, by rw [h2, j2]; rfl⟩⟩
/-- whether a set dresses all, from one who begins -/
theorem rcs_end {s f : Nat} (hf : f < pH P) (h1 : 1 ≤ oN R) : bd (rcs P R s f (oN R - 1)) (foes P f) ≠ 0 ↔ 0 < dV P R (bC P f) s (oN R - 1) f := by
  rw [← rcs_way hf (oN R - 1) (by omega)]
  constructor
  · intro hne
    refine Classical.byContradiction (fun z => hne ?_)
    apply Nat.eq_of_testBit_eq
    intro i
    rw [bd_bit, Nat.zero_testBit]
    cases hb : (rcs P R s f (oN R - 1)).testBit i with
    | false => rfl
    | true =>
      have hi := lt2_iff.mp (rcs_lt hf (oN R - 1)) i hb
      unfold foes
      rw [bset_bit, decide_eq_true hi]
      cases hq : foe P f i with
      | true => rfl
      | false =>
        exfalso
        refine z ⟨i, hi, hb, ?_⟩
        rw [Nat.sub_self]
        show 0 < bC P f i
        unfold bC
        rw [foe_comm, hq, if_neg (by simp)]
        omega
  · rintro ⟨h, h2, h3, h4⟩ hz
    have := bd_bit (rcs P R s f (oN R - 1)) (foes P f) h
    rw [hz, Nat.zero_testBit, h3] at this
    unfold foes at this
    rw [bset_bit, decide_eq_true h2] at this
    rw [Nat.sub_self] at h4
    have h5 : 0 < bC P f h := h4
    unfold bC at h5
    rw [foe_comm] at h5
    cases hq : foe P f h with
    | true => rw [hq, if_pos rfl] at h5; omega
    | false => rw [hq] at this; cases this
theorem dT_pos {s f : Nat} : 0 < dT P R s f ↔ (gw R 0 &&& s).testBit f = true ∧ 0 < dV P R (bC P f) s (oN R - 1) f := by
  unfold dT
  cases (gw R 0 &&& s).testBit f with
  | false => rw [if_neg (by simp)]; exact ⟨fun z => absurd z (Nat.lt_irrefl 0), fun z => by cases z.1⟩
  | true => rw [if_pos rfl]; exact ⟨fun z => ⟨rfl, z⟩, fun z => z.2⟩
theorem dW_pos {s : Nat} (h1 : 1 ≤ oN R) : 0 < dW P R s ↔ ∃ f, f < pH P ∧ 0 < dT P R s f := by
  unfold dW
  rw [if_neg (by omega), sum_pos]
/-- where there is a way, each guest has a hue of the set -/
theorem dW_each {s : Nat} (h1 : 1 ≤ oN R) (h0 : 0 < dW P R s) : ∀ k, k < oN R → gw R k &&& s ≠ 0 := by
  obtain ⟨f, f1, f2⟩ := (dW_pos h1).mp h0
  obtain ⟨f3, f4⟩ := dT_pos.mp f2
  intro k hk hz
  cases k with
  | zero => rw [hz, Nat.zero_testBit] at f3; cases f3
  | succ k =>
    obtain ⟨h, g1, g2, -⟩ := (rcs_way f1 (k + 1) hk).mpr f4
    unfold rcs at g2
    rw [hz, bset_bit, Nat.zero_testBit] at g2
    simp at g2
/-- the hues of the first way, up to a guest -/
def fwT (P : Pal) (R : Rol) (f : Nat) : Nat → Nat
  | 0 => 0
  | k + 1 => fwT P R f k ||| 2 ^ dF P R f k
theorem fwT_bit {f : Nat} : ∀ n k, k < n → (fwT P R f n).testBit (dF P R f k) = true := by
  intro n
  induction n with
  | zero => intro k hk; omega
  | succ n ih =>
    intro k hk
    unfold fwT
    rw [Nat.testBit_or, Nat.testBit_two_pow]
    by_cases e : k = n
    · rw [e, decide_eq_true rfl, Bool.or_true]
    · rw [ih k (by omega), Bool.true_or]
theorem fwT_ok (hO : nOK P R) {f : Nat} (hf : f < pH P) (h0 : 0 < dT P R 1023 f) : ∀ n, n ≤ oN R → fwT P R f n < 2 ^ pH P ∧ popc (fwT P R f n) ≤ n := by
  have h3 : 2 ^ pH P ≤ 2 ^ 10 := Nat.pow_le_pow_right (by decide) hO.1.1
  have h10 := hO.1.1
  intro n
  induction n with
  | zero => intro _; exact ⟨Nat.two_pow_pos _, by rw [show fwT P R f 0 = 0 from rfl, (popc_0 (by omega)).mpr rfl]; exact Nat.le_refl _⟩
  | succ n ih =>
    intro hn
    obtain ⟨i1, i2⟩ := ih (by omega)
    have d1 := (dF_ok hO hf h0 n (by omega)).1
    have e : fwT P R f (n + 1) = fwT P R f n ||| 2 ^ dF P R f n := rfl
    rw [e]
    refine ⟨Nat.or_lt_two_pow i1 (Nat.pow_lt_pow_right (by decide) d1), ?_⟩
    cases hb : (fwT P R f n).testBit (dF P R f n) with
    | false =>
      rw [popc_or (by omega) (by omega) hb]
      omega
    | true =>
      have : fwT P R f n ||| 2 ^ dF P R f n = fwT P R f n := by
        apply Nat.eq_of_testBit_eq
        intro i
        rw [Nat.testBit_or, Nat.testBit_two_pow]
        by_cases z : dF P R f n = i
        · rw [← z, hb]; rfl
        · rw [decide_eq_false z, Bool.or_false]
      rw [this]
      omega
/-- so many hues as guests are enough -/
theorem dFew_set (hO : nOK P R) (h0 : 0 < dW P R 1023) : ∃ s, s < 2 ^ pH P ∧ 0 < dW P R s ∧ popc s ≤ oN R := by
  by_cases z : oN R = 0
  · refine ⟨0, Nat.two_pow_pos _, by unfold dW; rw [if_pos z]; omega, ?_⟩
    rw [(popc_0 (by omega)).mpr rfl]
    exact Nat.zero_le _
  · obtain ⟨-, f1, f2, -⟩ := d0_ok (by omega) h0
    have ok := dF_ok hO f1 f2
    obtain ⟨t1, t2⟩ := fwT_ok hO f1 f2 (oN R) (Nat.le_refl _)
    have hb := fwT_bit (P := P) (R := R) (f := d0 P R) (oN R)
    refine ⟨fwT P R (d0 P R) (oN R), t1, (dW_pos (by omega)).mpr ⟨d0 P R, f1, dT_pos.mpr ⟨?_, ?_⟩⟩, t2⟩
    · have := (ok 0 (by omega)).2.1
      have h2 := hb 0 (by omega)
      rw [Nat.testBit_and]
      rw [show dF P R (d0 P R) 0 = d0 P R from rfl] at this h2
      rw [this, h2]
      rfl
    · have down : ∀ d, d < oN R → 0 < dV P R (bC P (d0 P R)) (fwT P R (d0 P R) (oN R)) d (dF P R (d0 P R) (oN R - 1 - d)) := by
        intro d
        induction d with
        | zero =>
          intro hd
          have := (ok (oN R - 1) (by omega)).2.2.1
          rw [Nat.sub_self] at this
          exact this
        | succ d ih =>
          intro hd
          have i1 := ih (by omega)
          obtain ⟨k1, k2, k3, k4⟩ := ok (oN R - 1 - (d + 1)) (by omega)
          have k5 := fst1_some (k4 (by omega))
          have e1 : oN R - 1 - (d + 1) + 1 = oN R - 1 - d := by omega
          rw [e1] at k5
          obtain ⟨m1, m2, -⟩ := k5
          rw [Bool.and_eq_true, Bool.and_eq_true] at m2
          refine dV_pos.mpr ⟨_, m1, by simpa using m2.1.2, ?_, i1⟩
          rw [Nat.testBit_and, m2.1.1, hb _ (by omega)]
          rfl
      have := down (oN R - 1) (by omega)
      rw [Nat.sub_self] at this
      exact this
theorem lsN_congr {b : Nat} {f g : Nat → Nat} {n : Nat} (h : ∀ k, k < n → f k = g k) : lsN b f n = lsN b g n := by
  induction n with
  | zero => rfl
  | succ n ih =>
    show min (lsN b f n) (f n) = min (lsN b g n) (g n)
    rw [ih (fun k hk => h k (by omega)), h n (by omega)]
/-- from far above it is the same -/
theorem dFew_far (hO : nOK P R) (h0 : 0 < dW P R 1023) : lsN 1000000 (fun s => if 0 < dW P R s then popc s else 1000000) (2 ^ pH P) = dFew P R := by
  obtain ⟨s, s1, s2, s3⟩ := dFew_set hO h0
  have h8 : oN R ≤ 8 := hO.2.1.1
  unfold dFew
  have a1 := (lsN_le (b := 1000000) (f := fun s => if 0 < dW P R s then popc s else 1000000) (n := 2 ^ pH P)).2
  have b1 := (lsN_le (b := oN R) (f := fun s => if 0 < dW P R s then popc s else oN R) (n := 2 ^ pH P)).2
  have b0 := (lsN_le (b := oN R) (f := fun s => if 0 < dW P R s then popc s else oN R) (n := 2 ^ pH P)).1
  have a2 := a1 s s1
  rw [if_pos s2] at a2
  apply Nat.le_antisymm
  · rcases lsN_is (b := oN R) (f := fun s => if 0 < dW P R s then popc s else oN R) (n := 2 ^ pH P) with h | ⟨k, k1, k2⟩
    · rw [h]; omega
    · have a3 := a1 k k1
      rw [k2]
      by_cases z : 0 < dW P R k
      · rw [if_pos z] at a3 ⊢; exact a3
      · rw [if_neg z]; omega
  · rcases lsN_is (b := 1000000) (f := fun s => if 0 < dW P R s then popc s else 1000000) (n := 2 ^ pH P) with h | ⟨k, k1, k2⟩
    · rw [h]; omega
    · have b3 := b1 k k1
      rw [k2]
      by_cases z : 0 < dW P R k
      · rw [if_pos z] at b3 ⊢; exact b3
      · rw [if_neg z]; omega
end FEW
