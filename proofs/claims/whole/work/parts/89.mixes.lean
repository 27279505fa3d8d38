/-! MIXES: units of paint, how few are needed, the first row of them -/
theorem sumN_upd {f k : Nat → Nat} {a m n : Nat} (ha : a < n) : sumN (fun h => (k h + (if h = a then m else 0)) * f h) n = sumN (fun h => k h * f h) n + m * f a := by
  induction n with
  | zero => omega
  | succ n ih =>
    show sumN (fun h => (k h + (if h = a then m else 0)) * f h) n + (k n + (if n = a then m else 0)) * f n = sumN (fun h => k h * f h) n + k n * f n + m * f a
    by_cases e : n = a
    · subst e
      have e2 : sumN (fun h => (k h + (if h = n then m else 0)) * f h) n = sumN (fun h => k h * f h) n := sumN_congr (fun h hh => by rw [if_neg (show ¬ h = n by omega), Nat.add_zero])
      rw [e2, if_pos rfl, Nat.add_mul]
      omega
    · rw [ih (by omega), if_neg e, Nat.add_zero]
      omega
theorem sumN_add1 {k : Nat → Nat} {a m n : Nat} (ha : a < n) : sumN (fun h => k h + (if h = a then m else 0)) n = sumN k n + m := by
  have h := sumN_upd (f := fun _ => 1) (k := k) (m := m) ha
  simp only [Nat.mul_one] at h
  exact h
/-- a unit of a hue added -/
def mxd (P : Pal) (c h : Nat) : Nat := 100 * ((c / 100 + pP P (3 * h)) % 10) + 10 * ((c / 10 + pP P (3 * h + 1)) % 10) + (c + pP P (3 * h + 2)) % 10
theorem mxd_lt (P : Pal) (c h : Nat) : mxd P c h < 1000 := by unfold mxd; omega
/-- so many units of each hue added -/
def dst (P : Pal) (n c : Nat) (k : Nat → Nat) : Nat := 100 * ((c / 100 + sumN (fun h => k h * pP P (3 * h)) n) % 10) + 10 * ((c / 10 + sumN (fun h => k h * pP P (3 * h + 1)) n) % 10) + (c + sumN (fun h => k h * pP P (3 * h + 2)) n) % 10
theorem dst_add {P : Pal} {n c a : Nat} (ha : a < n) (k : Nat → Nat) : dst P n (mxd P c a) k = dst P n c (fun h => k h + (if h = a then 1 else 0)) := by
  unfold dst
  rw [sumN_upd ha, sumN_upd ha, sumN_upd ha]
  generalize sumN (fun h => k h * pP P (3 * h)) n = s0
  generalize sumN (fun h => k h * pP P (3 * h + 1)) n = s1
  generalize sumN (fun h => k h * pP P (3 * h + 2)) n = s2
  unfold mxd
  generalize pP P (3 * a) = p0
  generalize pP P (3 * a + 1) = p1
  generalize pP P (3 * a + 2) = p2
  omega
theorem dst_ten {P : Pal} {n c a : Nat} (ha : a < n) (k : Nat → Nat) : dst P n c (fun h => k h + (if h = a then 10 else 0)) = dst P n c k := by
  unfold dst
  rw [sumN_upd ha, sumN_upd ha, sumN_upd ha]
  omega
theorem dst_0 {P : Pal} {n c : Nat} (hc : c < 1000) : dst P n c (fun _ => 0) = c := by
  have e : ∀ (f : Nat → Nat) m, sumN (fun h => 0 * f h) m = 0 := by
    intro f m
    induction m with
    | zero => rfl
    | succ m ih => show sumN (fun h => 0 * f h) m + 0 * f m = 0; rw [ih, Nat.zero_mul]
  unfold dst
  rw [e (fun h => pP P (3 * h)), e (fun h => pP P (3 * h + 1)), e (fun h => pP P (3 * h + 2))]
  omega
/-- with so many units it can be borne -/
def rch (P : Pal) (B : Nat → Bool) (n : Nat) : Nat → Nat → Bool
  | 0, c => B c
  | d + 1, c => exb (fun h => rch P B n d (mxd P c h)) n
theorem rch_iff {P : Pal} {B : Nat → Bool} {n : Nat} : ∀ d c, c < 1000 → (rch P B n d c = true ↔ ∃ k : Nat → Nat, sumN k n = d ∧ (∀ h, n ≤ h → k h = 0) ∧ B (dst P n c k) = true) := by
  intro d
  induction d with
  | zero =>
    intro c hc
    constructor
    · intro h
      refine ⟨fun _ => 0, ?_, fun _ _ => rfl, by rw [dst_0 hc]; exact h⟩
      have := sumN_le (f := fun _ => 0) (b := 0) (n := n) (fun _ _ => Nat.le_refl _)
      omega
    · rintro ⟨k, h1, h3, h2⟩
      have hk : k = fun _ => 0 := by
        funext h
        by_cases hh : h < n
        · have : ∀ m, h < m → k h ≤ sumN k m := by
            intro m
            induction m with
            | zero => intro z; omega
            | succ m ih =>
              intro z
              show k h ≤ sumN k m + k m
              by_cases e : h = m
              · rw [e]; omega
              · have := ih (by omega); omega
          have := this n hh
          omega
        · exact h3 h (by omega)
      rw [hk, dst_0 hc] at h2
      exact h2
  | succ d ih =>
    intro c hc
    unfold rch
    rw [exb_iff]
    constructor
    · rintro ⟨a, ha, h⟩
      obtain ⟨k, h1, h3, h2⟩ := (ih _ (mxd_lt P c a)).mp h
      refine ⟨fun h => k h + (if h = a then 1 else 0), by rw [sumN_add1 ha, h1], fun h hh => by dsimp only; rw [h3 h hh, if_neg (by omega)], ?_⟩
      rw [← dst_add ha]
      exact h2
    · rintro ⟨k, h1, h3, h2⟩
      have hex : ∃ a, a < n ∧ 0 < k a := by
        refine Classical.byContradiction (fun z => ?_)
        have := sumN_le (f := k) (b := 0) (n := n) (fun a ha => by
          rcases Nat.eq_zero_or_pos (k a) with h | h
          · omega
          · exact absurd ⟨a, ha, h⟩ z)
        omega
      obtain ⟨a, ha, hp⟩ := hex
      refine ⟨a, ha, (ih _ (mxd_lt P c a)).mpr ⟨fun h => k h - (if h = a then 1 else 0), ?_, fun h hh => by dsimp only; rw [h3 h hh]; omega, ?_⟩⟩
      · have e := sumN_add1 (k := fun h => k h - (if h = a then 1 else 0)) (m := 1) ha
        rw [sumN_congr (g := k) (fun h _ => by by_cases z : h = a <;> simp [z]; omega)] at e
        omega
      · rw [dst_add ha]
        have : (fun h => k h - (if h = a then 1 else 0) + (if h = a then 1 else 0)) = k := by
          funext h
          by_cases z : h = a
          · rw [if_pos z, z]; omega
          · rw [if_neg z]; omega
        rw [this]
        exact h2
/-- more than ninety units are never needed -/
theorem rch_few {P : Pal} {B : Nat → Bool} {n : Nat} (hn : n ≤ 10) {c : Nat} (hc : c < 1000) : ∀ d, rch P B n d c = true → ∃ d', d' ≤ d ∧ d' ≤ 90 ∧ rch P B n d' c = true := by
  intro d
  induction d using Nat.strongRecOn with
  | ind d ih =>
    intro h
    by_cases hd : d ≤ 90
    · exact ⟨d, Nat.le_refl _, hd, h⟩
    · obtain ⟨k, h1, h3, h2⟩ := (rch_iff d c hc).mp h
      have hex : ∃ a, a < n ∧ 10 ≤ k a := by
        refine Classical.byContradiction (fun z => ?_)
        have := sumN_le (f := k) (b := 9) (n := n) (fun a ha => by
          rcases Nat.lt_or_ge (k a) 10 with h | h
          · omega
          · exact absurd ⟨a, ha, h⟩ z)
        omega
      obtain ⟨a, ha, hp⟩ := hex
      have e : (fun h => k h - (if h = a then 10 else 0) + (if h = a then 10 else 0)) = k := by
        funext h
        by_cases z : h = a
        · rw [if_pos z, z]; omega
        · rw [if_neg z]; omega
      have e1 := sumN_add1 (k := fun h => k h - (if h = a then 10 else 0)) (m := 10) ha
      rw [e] at e1
      have h4 : rch P B n (d - 10) c = true := (rch_iff _ c hc).mpr ⟨fun h => k h - (if h = a then 10 else 0), by omega, fun h hh => by dsimp only; rw [h3 h hh]; omega, by
        rw [← dst_ten ha, e]; exact h2⟩
      obtain ⟨d', g1, g2, g3⟩ := ih (d - 10) (by omega) h4
      exact ⟨d', by omega, g2, g3⟩
/-- how few units are needed; a million where none will do -/
def nd (P : Pal) (B : Nat → Bool) (n c : Nat) : Nat := match fst1 (fun d => rch P B n d c) 91 with
  | some d => d
  | none => 1000000
section ND
variable {P : Pal} {B : Nat → Bool} {n : Nat}
theorem nd_of (hn : n ≤ 10) {c d : Nat} (hc : c < 1000) (h : rch P B n d c = true) : nd P B n c ≤ d ∧ nd P B n c ≤ 90 := by
  obtain ⟨d', h1, h2, h3⟩ := rch_few hn hc d h
  unfold nd
  cases hf : fst1 (fun d => rch P B n d c) 91 with
  | none =>
    have := fst1_none hf d' (by omega)
    rw [h3] at this
    cases this
  | some x =>
    obtain ⟨x1, -, x3⟩ := fst1_some hf
    have : x ≤ d' := by
      rcases Nat.lt_or_ge d' x with z | z
      · have := x3 d' z
        rw [h3] at this
        cases this
      · exact z
    exact ⟨by dsimp only; omega, by dsimp only; omega⟩
theorem nd_is {c : Nat} (h : nd P B n c < 1000000) : rch P B n (nd P B n c) c = true ∧ nd P B n c ≤ 90 := by
  unfold nd at h ⊢
  cases hf : fst1 (fun d => rch P B n d c) 91 with
  | none => rw [hf] at h; dsimp only at h; omega
  | some x =>
    obtain ⟨x1, x2, -⟩ := fst1_some hf
    exact ⟨x2, by dsimp only; omega⟩
theorem nd_le (c : Nat) : nd P B n c ≤ 1000000 := by
  unfold nd
  cases hf : fst1 (fun d => rch P B n d c) 91 with
  | none => exact Nat.le_refl _
  | some x =>
    have := (fst1_some hf).1
    dsimp only
    omega
theorem nd_small (c : Nat) : nd P B n c ≤ 90 ∨ nd P B n c = 1000000 := by
  rcases Nat.lt_or_ge (nd P B n c) 1000000 with h | h
  · exact Or.inl (nd_is h).2
  · exact Or.inr (Nat.le_antisymm (nd_le c) h)
theorem nd_0 (hn : n ≤ 10) {c : Nat} (hc : c < 1000) : nd P B n c = 0 ↔ B c = true := by
  constructor
  · intro h
    have := (nd_is (P := P) (B := B) (n := n) (c := c) (by omega)).1
    rw [h] at this
    exact this
  · intro h
    have := (nd_of (P := P) (B := B) hn hc (d := 0) h).1
    omega
theorem nd_step (hn : n ≤ 10) {c h : Nat} (hc : c < 1000) (hh : h < n) : nd P B n c ≤ 1 + nd P B n (mxd P c h) := by
  rcases Nat.lt_or_ge (nd P B n (mxd P c h)) 1000000 with g | g
  · have := (nd_is g).1
    have h2 : rch P B n (nd P B n (mxd P c h) + 1) c = true := exb_iff.mpr ⟨h, hh, this⟩
    have := (nd_of hn hc h2).1
    omega
  · have := nd_le (P := P) (B := B) (n := n) c
    omega
theorem nd_ex (hn : n ≤ 10) {c : Nat} (hc : c < 1000) (h0 : 0 < nd P B n c) (h1 : nd P B n c < 1000000) : ∃ h, h < n ∧ nd P B n (mxd P c h) + 1 = nd P B n c := by
  have h2 := (nd_is h1).1
  obtain ⟨d, hd⟩ : ∃ d, nd P B n c = d + 1 := ⟨nd P B n c - 1, by omega⟩
  rw [hd] at h2
  obtain ⟨h, hh, h3⟩ := exb_iff.mp h2
  refine ⟨h, hh, ?_⟩
  have h4 := (nd_of hn (mxd_lt P c h) h3).1
  have h5 := nd_step (P := P) (B := B) hn hc hh
  omega
end ND
/-- the least of some numbers -/
def lsN (b : Nat) (f : Nat → Nat) : Nat → Nat
  | 0 => b
  | n + 1 => min (lsN b f n) (f n)
theorem lsN_le {b : Nat} {f : Nat → Nat} {n : Nat} : lsN b f n ≤ b ∧ ∀ k, k < n → lsN b f n ≤ f k := by
  induction n with
  | zero => exact ⟨Nat.le_refl _, fun k hk => by omega⟩
  | succ n ih =>
    have e : lsN b f (n + 1) = min (lsN b f n) (f n) := rfl
    rw [e]
    refine ⟨by omega, fun k hk => ?_⟩
    by_cases z : k = n
    · rw [z]; omega
    · have := ih.2 k (by omega); omega
theorem lsN_is {b : Nat} {f : Nat → Nat} {n : Nat} : lsN b f n = b ∨ ∃ k, k < n ∧ lsN b f n = f k := by
  induction n with
  | zero => exact Or.inl rfl
  | succ n ih =>
    have e : lsN b f (n + 1) = min (lsN b f n) (f n) := rfl
    rw [e]
    by_cases z : f n < lsN b f n
    · exact Or.inr ⟨n, by omega, by omega⟩
    · rw [Nat.min_eq_left (by omega)]
      rcases ih with h | ⟨k, h1, h2⟩
      · exact Or.inl h
      · exact Or.inr ⟨k, by omega, h2⟩
/-- of a hue that isn't borne: how many further units, behind the first -/
def mxD (P : Pal) (B : Nat → Bool) (c0 : Nat) : Nat := lsN 1000000 (fun h => nd P B (pH P) (mxd P c0 h)) (pH P)
/-- the hue of a unit: the least by which so few more are needed -/
def mxh (P : Pal) (B : Nat → Bool) (c d : Nat) : Nat := match fst1 (fun h => decide (nd P B (pH P) (mxd P c h) = d)) (pH P) with
  | some h => h
  | none => 0
/-- the first row of units: its colours -/
def mxs (P : Pal) (B : Nat → Bool) (c0 : Nat) : Nat → Nat
  | 0 => c0
  | i + 1 => mxd P (mxs P B c0 i) (mxh P B (mxs P B c0 i) (mxD P B c0 - i))
section XS
variable {P : Pal} {B : Nat → Bool} {c0 : Nat}
theorem mxs_lt (hc : c0 < 1000) : ∀ i, mxs P B c0 i < 1000
  | 0 => hc
  | _ + 1 => mxd_lt _ _ _
/-- the hue of a unit does what is asked of it, and is the least -/
theorem mxs_ok (hn : pH P ≤ 10) (hc : c0 < 1000) (hD : mxD P B c0 < 1000000) : ∀ i, i ≤ mxD P B c0 → mxh P B (mxs P B c0 i) (mxD P B c0 - i) < pH P ∧ nd P B (pH P) (mxs P B c0 (i + 1)) = mxD P B c0 - i ∧ ∀ k, k < mxh P B (mxs P B c0 i) (mxD P B c0 - i) → nd P B (pH P) (mxd P (mxs P B c0 i) k) ≠ mxD P B c0 - i := by
  intro i
  have key : ∀ c d, (∃ h, h < pH P ∧ nd P B (pH P) (mxd P c h) = d) → mxh P B c d < pH P ∧ nd P B (pH P) (mxd P c (mxh P B c d)) = d ∧ ∀ k, k < mxh P B c d → nd P B (pH P) (mxd P c k) ≠ d := by
    rintro c d ⟨h, h1, h2⟩
    unfold mxh
    cases hf : fst1 (fun h => decide (nd P B (pH P) (mxd P c h) = d)) (pH P) with
    | none =>
      have := fst1_none hf h h1
      rw [decide_eq_true h2] at this
      cases this
    | some x =>
      obtain ⟨x1, x2, x3⟩ := fst1_some hf
      exact ⟨x1, by simpa using x2, fun k hk => by simpa using x3 k hk⟩
  induction i with
  | zero =>
    intro _
    refine key c0 (mxD P B c0 - 0) ?_
    rcases lsN_is (b := 1000000) (f := fun h => nd P B (pH P) (mxd P c0 h)) (n := pH P) with h | ⟨k, h1, h2⟩
    · unfold mxD at hD; omega
    · exact ⟨k, h1, h2.symm⟩
  | succ i ih =>
    intro hi
    have hi2 := (ih (by omega)).2.1
    refine key (mxs P B c0 (i + 1)) (mxD P B c0 - (i + 1)) ?_
    have hs := nd_small (P := P) (B := B) (n := pH P) (mxs P B c0 (i + 1))
    obtain ⟨h, h1, h2⟩ := nd_ex (P := P) (B := B) hn (mxs_lt (P := P) (B := B) hc (i + 1)) (by omega) (by omega)
    exact ⟨h, h1, by omega⟩
end XS
