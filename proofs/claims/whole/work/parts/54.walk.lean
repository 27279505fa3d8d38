/-! THE WALK, by numbers: hours, rash of all hours, forbidden hour and its room; where pictures hang, their areas; where people stand, what they wear, what they sneezed -/
theorem cnt_mon (p : Nat → Bool) {m n : Nat} (h : m ≤ n) : cnt p m ≤ cnt p n := by
  induction n with
  | zero => rw [show m = 0 by omega]; exact Nat.le_refl _
  | succ n ih =>
    by_cases e : m = n + 1
    · rw [e]; exact Nat.le_refl _
    · have := ih (by omega)
      show _ ≤ cnt p n + (if p n then 1 else 0)
      omega
theorem cnt_ltk {p : Nat → Bool} {j k : Nat} (h : j < k) (hp : p j = true) : cnt p j < cnt p k := by
  have h1 := cnt_mon p (show j + 1 ≤ k by omega)
  have h2 : cnt p (j + 1) = cnt p j + (if p j then 1 else 0) := rfl
  rw [hp] at h2
  simp only [if_true] at h2
  omega
theorem cnt_inj {p : Nat → Bool} {j k : Nat} (hj : p j = true) (hk : p k = true) (h : cnt p j = cnt p k) : j = k := by
  rcases Nat.lt_trichotomy j k with e | e | e
  · have := cnt_ltk e hj; omega
  · exact e
  · have := cnt_ltk e hk; omega
theorem cnt_sur {p : Nat → Bool} {n i : Nat} (h : i < cnt p n) : ∃ k, k < n ∧ p k = true ∧ cnt p k = i := by
  induction n with
  | zero => exact absurd h (Nat.not_lt_zero _)
  | succ n ih =>
    by_cases h1 : i < cnt p n
    · obtain ⟨k, h2, h3⟩ := ih h1
      exact ⟨k, by omega, h3⟩
    · have e : cnt p (n + 1) = cnt p n + (if p n then 1 else 0) := rfl
      cases hp : p n with
      | false => rw [hp] at e; simp at e; omega
      | true => rw [hp] at e; simp at e; exact ⟨n, by omega, hp, by omega⟩
theorem sumN_pick {p : Nat → Bool} {f G : Nat → Nat} {n : Nat} (h : ∀ k, k < n → p k = true → f (cnt p k) = G k) : sumN f (cnt p n) = sumN (fun k => if p k then G k else 0) n := by
  induction n with
  | zero => rfl
  | succ n ih =>
    have h1 := ih (fun k hk => h k (by omega))
    have e : cnt p (n + 1) = cnt p n + (if p n then 1 else 0) := rfl
    show _ = sumN _ n + (if p n then G n else 0)
    rw [e, ← h1]
    cases hp : p n with
    | false => simp
    | true =>
      rw [← h n (by omega) hp]
      rfl
/-- the places of what is counted -/
theorem cnt_pick (p : Nat → Bool) (n : Nat) : ∃ K : Nat → Nat, (∀ i, i < cnt p n → K i < n ∧ p (K i) = true ∧ cnt p (K i) = i) ∧ ∀ k, k < n → p k = true → K (cnt p k) = k := by
  refine ⟨fun i => if h : i < cnt p n then Classical.choose (cnt_sur h) else 0, ?_, ?_⟩
  · intro i hi
    simp only [dif_pos hi]
    exact Classical.choose_spec (cnt_sur hi)
  · intro k hk hp
    have hi := cnt_ltk hk hp
    simp only [dif_pos hi]
    have := Classical.choose_spec (cnt_sur hi)
    exact cnt_inj this.2.1 hp this.2.2
abbrev Wk : Type := (Int32 × Int32 × Int32 × Int32) × (Nat → Int32) × (Nat → Int32) × (Nat → Int32) × (Nat → Int32) × (Nat → Int32)
def wF (W : Wk) : Int32 × Int32 × Int32 × Int32 := W.1
def wH (W : Wk) (k : Nat) : Int32 := W.2.1 k
def wA (W : Wk) (k : Nat) : Int32 := W.2.2.1 k
def wS (W : Wk) (k : Nat) : Int32 := W.2.2.2.1 k
def wW (W : Wk) (k : Nat) : Int32 := W.2.2.2.2.1 k
def wN (W : Wk) (k : Nat) : Int32 := W.2.2.2.2.2 k
/-- the thing k of a room: pictures, then people's clothes -/
def thg (R : Rol) (W : Wk) (r k : Nat) : Option Nat :=
  if k < 9 then (if k < oN R ∧ wH W k = nI r ∧ ¬ wA W k ≤ 0 then some (oA R k).toNat else none)
  else if wS W (k - 9) = nI r ∧ ¬ wW W (k - 9) = zI (-1) then some (wW W (k - 9)).toNatClampNeg else none
def thB (R : Rol) (W : Wk) (r k : Nat) : Bool := (thg R W r k).isSome
def thH (R : Rol) (W : Wk) (r k : Nat) : Nat := (thg R W r k).getD 0
def rashS (P : Pal) (R : Rol) (W : Wk) (r : Nat) : Nat := sumN (fun k => if thB R W r k then sumN (fun j => if thB R W r j then strH P (thH R W r k) (thH R W r j) else 0) k else 0) 15
def clsS (P : Pal) (R : Rol) (W : Wk) (r k : Nat) : Bool := thB R W r k && exb (fun j => decide (j ≠ k) && (thB R W r j && foe P (thH R W r k) (thH R W r j))) 15
def fadS (P : Pal) (R : Rol) (W : Wk) (k : Nat) : Bool := exb (fun r => clsS P R W r k) 4
/-- what it may be -/
def wOK (P : Pal) (W : Wk) : Prop := (∀ k, k < 9 → wH W k = zI (-1) ∨ ∃ r, r < 4 ∧ wH W k = nI r) ∧ (∀ p, p < 6 → wW W p = zI (-1) ∨ ∃ h, h < pH P ∧ wW W p = nI h)
/-- a gallery whose hues a palette has -/
def gOK (P : Pal) (R : Rol) : Prop := (pOK P ∧ oN R ≤ 9 ∧ oL R ≤ 99) ∧ ∀ i, i < oN R → (0 ≤ oA R i ∧ (oA R i).toNat < pH P) ∧ 1 ≤ oB R i ∧ oB R i ≤ 9
theorem gOK.of {P : Pal} {R : Rol} (hP : pOK P) (ho : oOK 1 R) (ht : tog P R = true) : gOK P R := by
  obtain ⟨h1, h2, h3, h4⟩ := ho
  unfold tog at ht
  simp only [decide_eq_true_eq] at ht
  rw [h3, namA_lt] at ht
  exact ⟨⟨hP, h1, h2⟩, fun i hi => ⟨⟨(h4 i hi).1.1, ht i hi⟩, (h4 i hi).2⟩⟩
theorem thH_lt {P : Pal} {R : Rol} {W : Wk} (hg : gOK P R) (hW : wOK P W) {r k : Nat} (hk : k < 15) (h : thB R W r k = true) : thH R W r k < pH P := by
  have hh := hg.1.1.1
  unfold thB at h
  unfold thH
  unfold thg at h ⊢
  by_cases h9 : k < 9
  · rw [if_pos h9] at h ⊢
    split
    · next h2 => exact (hg.2 k h2.1).1.2
    · next h2 => rw [if_neg h2] at h; cases h
  · rw [if_neg h9] at h ⊢
    split
    · next h2 =>
      rcases hW.2 (k - 9) (by omega) with h3 | ⟨j, h4, h5⟩
      · exact absurd h3 h2.2
      · rw [h5]
        show (nI j).toNatClampNeg < _
        rw [q_cl (by omega)]
        exact h4
    · next h2 => rw [if_neg h2] at h; cases h
theorem thg_p {P : Pal} {R : Rol} {W : Wk} (hW : wOK P W) (h10 : pH P ≤ 10) {r p : Nat} (hp : p < 6) (h1 : wS W p = nI r) (h2 : ¬ wW W p = zI (-1)) : thB R W r (9 + p) = true ∧ wW W p = nI (thH R W r (9 + p)) := by
  rcases hW.2 p hp with h3 | ⟨j, h4, h5⟩
  · exact absurd h3 h2
  · have e : thg R W r (9 + p) = some (wW W p).toNatClampNeg := by
      unfold thg
      rw [if_neg (by omega), show 9 + p - 9 = p by omega, if_pos ⟨h1, h2⟩]
    unfold thB thH
    rw [e]
    refine ⟨rfl, ?_⟩
    show _ = nI (wW W p).toNatClampNeg
    rw [h5, q_cl (by omega)]
theorem thg_g {P : Pal} {R : Rol} {W : Wk} (hg : gOK P R) {r k : Nat} (hk : k < oN R) (h1 : wH W k = nI r) (h2 : ¬ wA W k ≤ 0) : thB R W r k = true ∧ zI (oA R k) = nI (thH R W r k) := by
  have e : thg R W r k = some (oA R k).toNat := by
    unfold thg
    rw [if_pos (by have := hg.1.2.1; omega), if_pos ⟨hk, h1, h2⟩]
  have h3 := (hg.2 k hk).1.1
  unfold thB thH
  rw [e]
  refine ⟨rfl, ?_⟩
  show zI _ = nI (oA R k).toNat
  rw [q_nz, Int.toNat_of_nonneg h3]
theorem thB_p {R : Rol} {W : Wk} {r p : Nat} (h : ¬ (wS W p = nI r ∧ ¬ wW W p = zI (-1))) : thB R W r (9 + p) = false := by
  unfold thB thg
  rw [if_neg (by omega), show 9 + p - 9 = p by omega, if_neg h]
  rfl
theorem thB_g {R : Rol} {W : Wk} {r k : Nat} (h9 : k < 9) (h : ¬ (k < oN R ∧ wH W k = nI r ∧ ¬ wA W k ≤ 0)) : thB R W r k = false := by
  unfold thB thg
  rw [if_pos h9, if_neg h]
  rfl
theorem foe_comm (P : Pal) (a b : Nat) : foe P a b = foe P b a := by unfold foe; rw [strH_comm]
/-! the marks of a double loop -/
def fdI (s : Nat → Nat → Bool) (mk : Nat → Nat) (i : Nat) : Nat → Nat
  | 0 => 0
  | j + 1 => fdI s mk i j ||| (if s i j then mk i ||| mk j else 0)
def fdO (s : Nat → Nat → Bool) (mk : Nat → Nat) : Nat → Nat
  | 0 => 0
  | i + 1 => fdO s mk i ||| fdI s mk i i
theorem fdI_bit (s : Nat → Nat → Bool) (mk : Nat → Nat) (i n k : Nat) : (fdI s mk i n).testBit k = true ↔ ∃ j, j < n ∧ s i j = true ∧ ((mk i).testBit k = true ∨ (mk j).testBit k = true) := by
  induction n with
  | zero => simp [fdI]
  | succ n ih =>
    unfold fdI
    rw [Nat.testBit_or, Bool.or_eq_true, ih]
    constructor
    · rintro (⟨j, h1, h2⟩ | h)
      · exact ⟨j, by omega, h2⟩
      · split at h
        · next hs =>
          rw [Nat.testBit_or, Bool.or_eq_true] at h
          exact ⟨n, by omega, hs, h⟩
        · rw [Nat.zero_testBit] at h; cases h
    · rintro ⟨j, h1, h2, h3⟩
      by_cases e : j = n
      · subst e
        right
        rw [if_pos h2, Nat.testBit_or, Bool.or_eq_true]
        exact h3
      · exact Or.inl ⟨j, by omega, h2, h3⟩
theorem fdO_bit (s : Nat → Nat → Bool) (mk : Nat → Nat) (n k : Nat) : (fdO s mk n).testBit k = true ↔ ∃ i, i < n ∧ ∃ j, j < i ∧ s i j = true ∧ ((mk i).testBit k = true ∨ (mk j).testBit k = true) := by
  induction n with
  | zero => simp [fdO]
  | succ n ih =>
    unfold fdO
    rw [Nat.testBit_or, Bool.or_eq_true, ih, fdI_bit]
    constructor
    · rintro (⟨i, h1, h2⟩ | h)
      · exact ⟨i, by omega, h2⟩
      · exact ⟨n, by omega, h⟩
    · rintro ⟨i, h1, h2⟩
      by_cases e : i = n
      · subst e; exact Or.inr h2
      · exact Or.inl ⟨i, by omega, h2⟩
theorem bool_iff {a b : Bool} (h : a = true ↔ b = true) : a = b := by
  cases a <;> cases b <;> simp_all
theorem fd_cls {P : Pal} {R : Rol} {W : Wk} {r : Nat} {K : Nat → Nat} (h1 : ∀ i, i < cnt (thB R W r) 15 → K i < 15 ∧ thB R W r (K i) = true ∧ cnt (thB R W r) (K i) = i) (h2 : ∀ k, k < 15 → thB R W r k = true → K (cnt (thB R W r) k) = k) {k : Nat} (hk : k < 9) :
    (fdO (fun i j => foe P (thH R W r (K i)) (thH R W r (K j))) (fun i => if K i < 9 then 2 ^ K i else 0) (cnt (thB R W r) 15)).testBit k = clsS P R W r k := by
  apply bool_iff
  have mb : ∀ i, (if K i < 9 then 2 ^ K i else 0).testBit k = true ↔ K i = k := by
    intro i
    by_cases h : K i < 9
    · rw [if_pos h, Nat.testBit_two_pow, decide_eq_true_eq]
    · rw [if_neg h, Nat.zero_testBit]
      constructor
      · intro z; cases z
      · intro z; omega
  rw [fdO_bit]
  unfold clsS
  rw [Bool.and_eq_true, exb_iff]
  simp only [mb, Bool.and_eq_true, decide_eq_true_eq]
  constructor
  · rintro ⟨i, hi, j, hj, hf, hm⟩
    have gi := h1 i hi
    have gj := h1 j (by omega)
    have hn : K i ≠ K j := fun z => by have := gi.2.2; have := gj.2.2; rw [z] at *; omega
    rcases hm with rfl | rfl
    · exact ⟨gi.2.1, K j, gj.1, fun z => hn z.symm, gj.2.1, hf⟩
    · exact ⟨gj.2.1, K i, gi.1, hn, gi.2.1, by rw [foe_comm]; exact hf⟩
  · rintro ⟨hb, j, hj, hn, hbj, hf⟩
    have c1 := cnt_ltk (show k < 15 by omega) hb
    have c2 := cnt_ltk hj hbj
    have k1 := h2 k (by omega) hb
    have k2 := h2 j hj hbj
    rcases Nat.lt_trichotomy (cnt (thB R W r) k) (cnt (thB R W r) j) with e | e | e
    · exact ⟨_, c2, _, e, by rw [k1, k2, foe_comm]; exact hf, Or.inr k1⟩
    · exact absurd (cnt_inj hbj hb e.symm) hn
    · exact ⟨_, c1, _, e, by rw [k1, k2]; exact hf, Or.inl k1⟩
theorem rash_pick {P : Pal} {R : Rol} {W : Wk} {r : Nat} {K : Nat → Nat} (h2 : ∀ k, k < 15 → thB R W r k = true → K (cnt (thB R W r) k) = k) :
    sumN (fun i => sumN (fun j => strH P (thH R W r (K i)) (thH R W r (K j))) i) (cnt (thB R W r) 15) = rashS P R W r := by
  unfold rashS
  apply sumN_pick (p := thB R W r)
  intro k hk hb
  rw [h2 k hk hb]
  apply sumN_pick (p := thB R W r)
  intro j hj hbj
  rw [h2 j (by omega) hbj]
/-- frames that touch no cell below -/
def hr_lo (W : List (Nat × Nat)) (n : Nat) : Bool := W.all (fun x => Nat.ble n x.1)
theorem hr_lo_in {W : List (Nat × Nat)} {n : Nat} (h : hr_lo W n = true) {a : Nat} (ha : a < n) (k : Nat) : hr_in W a k = false := by
  induction W with
  | nil => rfl
  | cons x W ih =>
    obtain ⟨b, s⟩ := x
    unfold hr_lo at h
    rw [List.all_cons, Bool.and_eq_true] at h
    have hb := Nat.le_of_ble_eq_true h.1
    unfold hr_in
    rw [ih h.2]
    have : Nat.beq b a = false := by
      apply Bool.eq_false_iff.mpr
      intro z
      have := Nat.eq_of_beq_eq_true z
      omega
    rw [this]
    rfl
theorem hr_fr.agr {W : List (Nat × Nat)} {M M' : PM} {n : Nat} (h : hr_fr W M M') (hw : hr_lo W n = true) : agr 0 n M M' := agr.of h (fun _ k _ h2 => hr_lo_in hw h2 k)
