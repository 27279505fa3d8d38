/-! DINNERS: in how many ways the guests can be dressed; the first way; the fewest hues -/
def gw (R : Rol) (k : Nat) : Nat := (oA R k).toNat
/-- of a guest who wears a hue and all behind him, d guests: in how many ways, by what the last one is worth -/
def dV (P : Pal) (R : Rol) (b : Nat → Nat) (s : Nat) : Nat → Nat → Nat
  | 0, h => b h
  | d + 1, h => sumN (fun j => if foe P h j then 0 else if (gw R (oN R - 1 - d) &&& s).testBit j then dV P R b s d j else 0) (pH P)
/-- the last one has the first for a neighbour -/
def bC (P : Pal) (f h : Nat) : Nat := if foe P h f then 0 else 1
def bM (P : Pal) (R : Rol) (f h : Nat) : Nat := if oN R < 3 ∨ foe P h f = false then 1 else 0
/-- ways begun by a hue; all ways -/
def dT (P : Pal) (R : Rol) (s f : Nat) : Nat := if (gw R 0 &&& s).testBit f then dV P R (bC P f) s (oN R - 1) f else 0
def dW (P : Pal) (R : Rol) (s : Nat) : Nat := if oN R = 0 then 1 else sumN (dT P R s) (pH P)
/-- what a guest wears in the first way that a hue begins -/
def dF (P : Pal) (R : Rol) (f : Nat) : Nat → Nat
  | 0 => f
  | k + 1 => (fst1 (fun h => ((gw R (k + 1)).testBit h && !foe P (dF P R f k) h) && decide (0 < dV P R (bC P f) 1023 (oN R - 1 - (k + 1)) h)) (pH P)).getD 0
def d0 (P : Pal) (R : Rol) : Nat := (fst1 (fun f => decide (0 < dT P R 1023 f)) (pH P)).getD 0
def dFew (P : Pal) (R : Rol) : Nat := lsN (oN R) (fun s => if 0 < dW P R s then popc s else oN R) (2 ^ pH P)
def waysS (P : Pal) (R : Rol) : Int64 := lN (dW P R 1023)
def sp_ways (T : Tol) (p g : Int32) : Int64 := match ix p (tz T 0), ix g (tz T 4) with
  | some p, some g => if tog (tP T p) (tR T 4 g) then waysS (tP T p) (tR T 4 g) else -1
  | _, _ => -1
def dinS (P : Pal) (R : Rol) (w : Int32) : Int32 := if dW P R 1023 = 0 then zI (-1) else if w = nI 0 then nI (dFew P R) else if w < nI 10 then zI (-1) else if w.toNatClampNeg - 10 < oN R then nI (dF P R (d0 P R) (w.toNatClampNeg - 10)) else zI (-1)
def sp_dinner (T : Tol) (p g w : Int32) : Int32 := match ix p (tz T 0), ix g (tz T 4) with
  | some p, some g => if tog (tP T p) (tR T 4 g) then dinS (tP T p) (tR T 4 g) w else zI (-1)
  | _, _ => zI (-1)
/-- a dinner and a palette that go together -/
def nOK (P : Pal) (R : Rol) : Prop := pOK P ∧ oOK 4 R ∧ ∀ k, k < oN R → (gw R k < 2 ^ pH P ∧ 1 ≤ gw R k) ∧ zI (oA R k) = nI (gw R k)
theorem nOK.of {P : Pal} {R : Rol} (hP : pOK P) (ho : oOK 4 R) (ht : tog P R = true) : nOK P R := by
  refine ⟨hP, ho, fun k hk => ?_⟩
  have h1 : oS R < 2 ^ pH P := of_decide_eq_true ht
  obtain ⟨g1, g3, g4⟩ := ho
  rw [g3] at h1
  have h2 := namS_lt.mp h1 k hk
  have h3 := g4 k hk
  unfold gw
  refine ⟨⟨h2, by omega⟩, ?_⟩
  rw [q_nz]; congr 1; omega
section DR
variable {P : Pal} {R : Rol}
theorem gw_lt (h : nOK P R) {k : Nat} (hk : k < oN R) : gw R k < 1024 := by
  have := (h.2.2 k hk).1.1
  have h3 : 2 ^ pH P ≤ 2 ^ 10 := Nat.pow_le_pow_right (by decide) h.1.1
  omega
theorem gw_and (h : nOK P R) {k : Nat} (hk : k < oN R) : gw R k &&& 1023 = gw R k := by
  rw [show (1023 : Nat) = 2 ^ 10 - 1 from rfl, Nat.and_two_pow_sub_one_eq_mod, Nat.mod_eq_of_lt (gw_lt h hk)]
theorem dV_le (b : Nat → Nat) (hb : ∀ h, b h ≤ 1) (hn : pH P ≤ 10) (s : Nat) : ∀ d h, dV P R b s d h ≤ 10 ^ d := by
  intro d
  induction d with
  | zero => exact hb
  | succ d ih =>
    intro h
    have h1 : dV P R b s (d + 1) h ≤ pH P * 10 ^ d := sumN_le (fun j _ => by
      split
      · exact Nat.zero_le _
      · split
        · exact ih j
        · exact Nat.zero_le _)
    have h2 : pH P * 10 ^ d ≤ 10 * 10 ^ d := Nat.mul_le_mul_right _ hn
    rw [Nat.pow_succ]
    omega
theorem bC_le (P : Pal) (f h : Nat) : bC P f h ≤ 1 := by unfold bC; split <;> omega
theorem bM_le (P : Pal) (R : Rol) (f h : Nat) : bM P R f h ≤ 1 := by unfold bM; split <;> omega
/-- what is added up on the way -/
theorem dV_part (b : Nat → Nat) (hb : ∀ h, b h ≤ 1) (hn : pH P ≤ 10) (s d h : Nat) {n : Nat} (hn2 : n ≤ pH P) : sumN (fun j => if foe P h j then 0 else if (gw R (oN R - 1 - d) &&& s).testBit j then dV P R b s d j else 0) n ≤ 10 * 10 ^ d := by
  have h1 : sumN (fun j => if foe P h j then 0 else if (gw R (oN R - 1 - d) &&& s).testBit j then dV P R b s d j else 0) n ≤ n * 10 ^ d := sumN_le (fun j _ => by
    split
    · exact Nat.zero_le _
    · split
      · exact dV_le b hb hn s d j
      · exact Nat.zero_le _)
  have h2 : n * 10 ^ d ≤ 10 * 10 ^ d := Nat.mul_le_mul_right _ (by omega)
  omega
theorem ten_le {d m : Nat} (h : d ≤ m) : 10 ^ d ≤ 10 ^ m := Nat.pow_le_pow_right (by decide) h
theorem bM_3 (h3 : 3 ≤ oN R) (f : Nat) : bM P R f = bC P f := by
  funext h
  unfold bM bC
  cases foe P h f with
  | false => rw [if_pos (Or.inr rfl), if_neg (by simp)]
  | true => rw [if_neg (by simp; omega), if_pos rfl]
/-- the two are worth the same where it is asked -/
theorem dV_row (s f : Nat) {d h : Nat} (hd : d + 2 ≤ oN R) (hg : oN R = 2 → foe P f h = false) : dV P R (bM P R f) s d h = dV P R (bC P f) s d h := by
  by_cases h3 : 3 ≤ oN R
  · rw [bM_3 h3]
  · have e0 : d = 0 := by omega
    subst e0
    show bM P R f h = bC P f h
    unfold bM bC
    rw [if_pos (Or.inl (by omega)), foe_comm, hg (by omega), if_neg (by simp)]
theorem dV_all (s f : Nat) (h1 : 1 ≤ oN R) : dV P R (bM P R f) s (oN R - 1) f = dV P R (bC P f) s (oN R - 1) f := by
  by_cases h3 : 3 ≤ oN R
  · rw [bM_3 h3]
  · by_cases h2 : oN R = 2
    · rw [h2]
      show sumN _ _ = sumN _ _
      refine sumN_congr (fun j hj => ?_)
      cases hq : foe P f j with
      | true => rfl
      | false =>
        rw [if_neg (show ¬ false = true by simp), if_neg (show ¬ false = true by simp), dV_row (P := P) (R := R) (d := 0) s f (by omega) (fun _ => hq)]
    · rw [show oN R - 1 = 0 by omega]
      show bM P R f f = bC P f f
      unfold bM bC
      rw [if_pos (Or.inl (by omega)), foe_self, if_neg (by simp)]
/-- where there is a way on, there is a hue for the next one -/
theorem dV_pos {b : Nat → Nat} {s d h : Nat} : 0 < dV P R b s (d + 1) h ↔ ∃ j, j < pH P ∧ foe P h j = false ∧ (gw R (oN R - 1 - d) &&& s).testBit j = true ∧ 0 < dV P R b s d j := by
  have gen : ∀ (g : Nat → Nat) n, 0 < sumN g n ↔ ∃ j, j < n ∧ 0 < g j := by
    intro g n
    induction n with
    | zero => exact ⟨fun z => absurd z (Nat.lt_irrefl 0), fun ⟨j, z, _⟩ => absurd z (Nat.not_lt_zero _)⟩
    | succ n ih =>
      have e : sumN g (n + 1) = sumN g n + g n := rfl
      rw [e]
      constructor
      · intro z
        by_cases z2 : 0 < g n
        · exact ⟨n, by omega, z2⟩
        · obtain ⟨j, j1, j2⟩ := ih.mp (by omega)
          exact ⟨j, by omega, j2⟩
      · rintro ⟨j, j1, j2⟩
        by_cases z2 : j = n
        · rw [z2] at j2; omega
        · have := ih.mpr ⟨j, by omega, j2⟩; omega
  show 0 < sumN _ _ ↔ _
  rw [gen]
  constructor
  · rintro ⟨j, j1, j2⟩
    refine ⟨j, j1, ?_⟩
    cases hq : foe P h j with
    | true => rw [hq, if_pos rfl] at j2; omega
    | false =>
      rw [hq, if_neg (by simp)] at j2
      cases hb : (gw R (oN R - 1 - d) &&& s).testBit j with
      | false => rw [hb, if_neg (by simp)] at j2; omega
      | true => rw [hb, if_pos rfl] at j2; exact ⟨rfl, rfl, j2⟩
  · rintro ⟨j, j1, j2, j3, j4⟩
    refine ⟨j, j1, ?_⟩
    rw [j2, if_neg (by simp), j3, if_pos rfl]
    exact j4
theorem sum_pos (g : Nat → Nat) (n : Nat) : 0 < sumN g n ↔ ∃ j, j < n ∧ 0 < g j := by
  induction n with
  | zero => exact ⟨fun z => absurd z (Nat.lt_irrefl 0), fun ⟨j, z, _⟩ => absurd z (Nat.not_lt_zero _)⟩
  | succ n ih =>
    have e : sumN g (n + 1) = sumN g n + g n := rfl
    rw [e]
    constructor
    · intro z
      by_cases z2 : 0 < g n
      · exact ⟨n, by omega, z2⟩
      · obtain ⟨j, j1, j2⟩ := ih.mp (by omega)
        exact ⟨j, by omega, j2⟩
    · rintro ⟨j, j1, j2⟩
      by_cases z2 : j = n
      · rw [z2] at j2; omega
      · have := ih.mpr ⟨j, by omega, j2⟩; omega
/-- the first way, guest by guest -/
theorem dF_ok (hO : nOK P R) {f : Nat} (hf : f < pH P) (h0 : 0 < dT P R 1023 f) : ∀ k, k < oN R → dF P R f k < pH P ∧ (gw R k).testBit (dF P R f k) = true ∧ 0 < dV P R (bC P f) 1023 (oN R - 1 - k) (dF P R f k) ∧ (k + 1 < oN R → fst1 (fun h => ((gw R (k + 1)).testBit h && !foe P (dF P R f k) h) && decide (0 < dV P R (bC P f) 1023 (oN R - 1 - (k + 1)) h)) (pH P) = some (dF P R f (k + 1))) := by
  have nx : ∀ k, k + 1 < oN R → 0 < dV P R (bC P f) 1023 (oN R - 1 - k) (dF P R f k) → fst1 (fun h => ((gw R (k + 1)).testBit h && !foe P (dF P R f k) h) && decide (0 < dV P R (bC P f) 1023 (oN R - 1 - (k + 1)) h)) (pH P) = some (dF P R f (k + 1)) := by
    intro k hk hp
    rw [show oN R - 1 - k = oN R - 1 - (k + 1) + 1 by omega] at hp
    obtain ⟨j, j1, j2, j3, j4⟩ := dV_pos.mp hp
    rw [show oN R - 1 - (oN R - 1 - (k + 1)) = k + 1 by omega, gw_and hO hk] at j3
    cases hq : fst1 (fun h => ((gw R (k + 1)).testBit h && !foe P (dF P R f k) h) && decide (0 < dV P R (bC P f) 1023 (oN R - 1 - (k + 1)) h)) (pH P) with
    | none =>
      have := fst1_none hq j j1
      rw [j3, j2, decide_eq_true j4] at this
      cases this
    | some x =>
      have : dF P R f (k + 1) = x := by
        show (fst1 _ _).getD 0 = x
        rw [hq]; rfl
      rw [this]
  intro k
  induction k with
  | zero =>
    intro hk
    unfold dT at h0
    rw [gw_and hO hk] at h0
    cases hb : (gw R 0).testBit f with
    | false => rw [hb, if_neg (by simp)] at h0; omega
    | true =>
      rw [hb, if_pos rfl] at h0
      exact ⟨hf, hb, h0, fun h => nx 0 h h0⟩
  | succ k ih =>
    intro hk
    obtain ⟨-, -, -, i4⟩ := ih (by omega)
    obtain ⟨x1, x2, -⟩ := fst1_some (i4 hk)
    rw [Bool.and_eq_true, Bool.and_eq_true] at x2
    have x3 : 0 < dV P R (bC P f) 1023 (oN R - 1 - (k + 1)) (dF P R f (k + 1)) := of_decide_eq_true x2.2
    exact ⟨x1, x2.1.1, x3, fun h => nx (k + 1) h x3⟩
theorem d0_ok (h1 : 1 ≤ oN R) (h0 : 0 < dW P R 1023) : fst1 (fun f => decide (0 < dT P R 1023 f)) (pH P) = some (d0 P R) ∧ d0 P R < pH P ∧ 0 < dT P R 1023 (d0 P R) ∧ ∀ j, j < d0 P R → dT P R 1023 j = 0 := by
  unfold dW at h0
  rw [if_neg (by omega)] at h0
  obtain ⟨j, j1, j2⟩ := (sum_pos _ _).mp h0
  cases hq : fst1 (fun f => decide (0 < dT P R 1023 f)) (pH P) with
  | none =>
    have := fst1_none hq j j1
    rw [decide_eq_true j2] at this
    cases this
  | some x =>
    obtain ⟨x1, x2, x3⟩ := fst1_some hq
    have : d0 P R = x := by unfold d0; rw [hq]; rfl
    rw [this]
    refine ⟨rfl, x1, of_decide_eq_true x2, fun j hj => ?_⟩
    have := of_decide_eq_false (x3 j hj)
    omega
end DR
