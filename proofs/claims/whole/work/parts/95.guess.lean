/-! FITS: the single rules, in their order; those that may be -/
def sgl : Nat → Nat → Nat → Nat × Nat
  | 0, l, w => (w, w + l)
  | f + 1, l, w => if l ≤ 54 - w then (w, w + l) else sgl f (l - (55 - w)) (w + 1)
/-- how many sums there are with a lesser low -/
def offS : Nat → Nat
  | 0 => 0
  | n + 1 => offS n + (55 - n)
theorem sgl_lt : ∀ n, n < 1540 → (sgl 55 n 0).1 ≤ (sgl 55 n 0).2 ∧ (sgl 55 n 0).2 ≤ 54 ∧ n = offS (sgl 55 n 0).1 + ((sgl 55 n 0).2 - (sgl 55 n 0).1) := by decide +kernel
theorem sgl_at : ∀ w, w < 55 → ∀ h, h < 55 → w ≤ h → sgl 55 (offS w + (h - w)) 0 = (w, h) ∧ offS w + (h - w) < 1540 := by decide +kernel
theorem off_55 : offS 55 = 1540 := by decide +kernel
theorem off_mono : ∀ w v, w ≤ v → offS w ≤ offS v := by
  intro w v
  induction v with
  | zero => intro h; rw [show w = 0 by omega]; exact Nat.le_refl _
  | succ v ih =>
    intro h
    show offS w ≤ offS v + (55 - v)
    by_cases e : w = v + 1
    · rw [e]; exact Nat.le_refl _
    · have := ih (by omega); omega
def cdS (n : Nat) : Int := if n < 1540 then 0 else if n < 1567 then 1 else 2
def cdX (n : Nat) : Int := if n < 1540 then ((sgl 55 n 0).1 : Nat) else if n < 1567 then (((n - 1540) / 9 : Nat) : Int) else ((n - 1567 : Nat) : Int)
def cdY (n : Nat) : Int := if n < 1540 then ((sgl 55 n 0).2 : Nat) else if n < 1567 then ((1 + (n - 1540) % 9 : Nat) : Int) else -1
theorem cd_ok {n : Nat} (hn : n < 1570) : (0 ≤ cdS n ∧ cdS n ≤ 2) ∧ (0 ≤ cdX n ∧ cdX n ≤ 54) ∧ (-1 ≤ cdY n ∧ cdY n ≤ 54) ∧ (cdS n = 0 ↔ n < 1540) ∧ (cdS n = 0 → cdX n ≤ cdY n) ∧ ruOK (cdS n) (cdX n) (cdY n) := by
  unfold cdS cdX cdY
  by_cases h1 : n < 1540
  · have := sgl_lt n h1
    rw [if_pos h1, if_pos h1, if_pos h1]
    refine ⟨by omega, by omega, by omega, by omega, by omega, by omega, by omega, by omega, by omega, by omega⟩
  · rw [if_neg h1, if_neg h1, if_neg h1]
    by_cases h2 : n < 1567
    · rw [if_pos h2, if_pos h2, if_pos h2]
      refine ⟨by omega, by omega, by omega, by omega, by omega, by omega, by omega, by omega, by omega, by omega⟩
    · rw [if_neg h2, if_neg h2, if_neg h2]
      refine ⟨by omega, by omega, by omega, by omega, by omega, by omega, by omega, by omega, by omega, by omega⟩
theorem cd_sum {w h : Nat} (hw : w ≤ h) (hh : h < 55) : cdS (offS w + (h - w)) = 0 ∧ cdX (offS w + (h - w)) = w ∧ cdY (offS w + (h - w)) = h := by
  obtain ⟨e1, e2⟩ := sgl_at w (by omega) h hh hw
  unfold cdS cdX cdY
  rw [if_pos e2, if_pos e2, if_pos e2, e1]
  exact ⟨rfl, rfl, rfl⟩
theorem cd_gap {p n : Nat} (hp : p < 3) (hn : 1 ≤ n) (hn2 : n ≤ 9) : cdS (1540 + 9 * p + (n - 1)) = 1 ∧ cdX (1540 + 9 * p + (n - 1)) = p ∧ cdY (1540 + 9 * p + (n - 1)) = n := by
  unfold cdS cdX cdY
  rw [if_neg (by omega), if_pos (by omega), if_neg (by omega), if_pos (by omega), if_neg (by omega), if_pos (by omega)]
  omega
theorem cd_like {p : Nat} (hp : p < 3) : cdS (1567 + p) = 2 ∧ cdX (1567 + p) = p ∧ cdY (1567 + p) = -1 := by
  unfold cdS cdX cdY
  rw [if_neg (by omega), if_neg (by omega), if_neg (by omega), if_neg (by omega), if_neg (by omega), if_neg (by omega)]
  omega
/-- whether a single rule holds of two hues -/
def cdH (P : Pal) (n a b : Nat) : Bool := hold1 P (cdS n) (cdX n) (cdY n) a b
/-- whether it may be -/
def fit (P : Pal) (R : Rol) (n : Nat) : Bool := !exb (fun k => cdH P n (oA R k).toNat (oB R k).toNat != decide (oC R k = 1)) (oN R)
/-- a couple's greater number -/
def telF (P : Pal) (R : Rol) (c : Nat) : Option Nat := if c / 10 < c % 10 ∧ c % 10 < pH P then some (max (cnt (fun n => fit P R n && cdH P n (c / 10) (c % 10)) 1570) (cnt (fit P R) 1570 - cnt (fun n => fit P R n && cdH P n (c / 10) (c % 10)) 1570)) else none
def telS (P : Pal) (R : Rol) : Option Nat := amS (telF P R) 100
noncomputable def fitS (P : Pal) (R : Rol) (k w : Int32) : Int32 := if k = zI (-1) then (if w = nI 0 then nI (cnt (fit P R) 1570) else if w = nI 1 then ocI (telS P R) else zI (-2)) else match ix k (cnt (fit P R) 1570) with
  | none => zI (-2)
  | some j => if w = nI 0 then zI (cdS (pk (fit P R) 1570 j)) else if w = nI 1 then zI (cdX (pk (fit P R) 1570 j)) else if w = nI 2 then zI (cdY (pk (fit P R) 1570 j)) else zI (-2)
noncomputable def sp_fits (T : Tol) (p s k w : Int32) : Int32 := match ix p (tz T 0), ix s (tz T 3) with
  | some p, some s => if tog (tP T p) (tR T 3 s) then fitS (tP T p) (tR T 3 s) k w else zI (-2)
  | _, _ => zI (-2)
theorem cnt_upto (p : Nat → Bool) {n m : Nat} (h : n ≤ m) : cnt p n ≤ cnt p m := by
  induction m with
  | zero => rw [show n = 0 by omega]; exact Nat.le_refl _
  | succ m ih =>
    by_cases e : n = m + 1
    · rw [e]; exact Nat.le_refl _
    · have := ih (by omega)
      show cnt p n ≤ cnt p m + _
      omega
/-- counting those that are picked, among the picked ones -/
theorem cnt_pk (p r : Nat → Bool) {n m : Nat} (h : m ≤ n) : cnt (fun j => r (pk p n j)) (cnt p m) = cnt (fun i => p i && r i) m := by
  induction m with
  | zero => rfl
  | succ m ih =>
    have e2 : cnt (fun i => p i && r i) (m + 1) = cnt (fun i => p i && r i) m + (if p m && r m then 1 else 0) := rfl
    have e1 : cnt p (m + 1) = cnt p m + (if p m then 1 else 0) := rfl
    rw [e2, e1, ← ih (by omega)]
    cases hp : p m with
    | false => rfl
    | true =>
      have := (pk_ok p n).2 m (by omega) hp
      show cnt (fun j => r (pk p n j)) (cnt p m) + (if r (pk p n (cnt p m)) then 1 else 0) = _
      rw [this]
      rfl
theorem cnt_sum {p q r : Nat → Bool} {n : Nat} (h : ∀ k, k < n → (if p k = true then 1 else 0) = (if q k = true then 1 else 0) + (if r k = true then 1 else 0)) : cnt p n = cnt q n + cnt r n := by
  induction n with
  | zero => rfl
  | succ n ih =>
    have := h n (by omega)
    have h2 := ih (fun k hk => h k (by omega))
    show cnt p n + (if p n = true then 1 else 0) = cnt q n + (if q n = true then 1 else 0) + (cnt r n + (if r n = true then 1 else 0))
    omega
theorem cnt_below {p : Nat → Bool} {n m : Nat} (h : m ≤ n) : cnt (fun j => decide (j < m) && p j) n = cnt p m := by
  induction n with
  | zero => rw [show m = 0 by omega]; rfl
  | succ n ih =>
    by_cases e : m = n + 1
    · rw [e]
      exact cnt_congr (fun k hk => by rw [decide_eq_true hk, Bool.true_and])
    · show cnt (fun j => decide (j < m) && p j) n + (if (decide (n < m) && p n) = true then 1 else 0) = _
      rw [ih (by omega), decide_eq_false (by omega)]
      rfl
/-- the first of the least, one further -/
theorem am_skip {f : Nat → Option Nat} {n : Nat} (h : f n = none) : lsO f (n + 1) = lsO f n ∧ amS f (n + 1) = amS f n := by
  have e : lsO f (n + 1) = lsO f n := by
    rw [lsO_s, h]
    unfold mnO
    cases lsO f n <;> rfl
  refine ⟨e, ?_⟩
  unfold amS
  rw [e]
  cases hq : lsO f n with
  | none => rfl
  | some a =>
    dsimp only
    have : (fst1 (fun h => decide (f h = some a)) (n + 1)) = match fst1 (fun h => decide (f h = some a)) n with
      | some c => some c
      | none => if decide (f n = some a) = true then some n else none := rfl
    rw [this]
    cases fst1 (fun h => decide (f h = some a)) n with
    | none => dsimp only; rw [h, decide_eq_false (by simp)]; rfl
    | some c => rfl
theorem am_new {f : Nat → Option Nat} {n v : Nat} (h : f n = some v) (hl : ∀ a, lsO f n = some a → v < a) : lsO f (n + 1) = some v ∧ amS f (n + 1) = some n := by
  have e : lsO f (n + 1) = some v := by
    rw [lsO_s, h]
    unfold mnO
    cases hq : lsO f n with
    | none => rfl
    | some a =>
      dsimp only
      have := hl a hq
      rw [if_pos this]
  refine ⟨e, ?_⟩
  unfold amS
  rw [e]
  dsimp only
  refine fst1_hit (n := n) (fst1_nos (n := 0) rfl (Nat.zero_le _) (fun c _ hc => ?_)) (by rw [h, decide_eq_true rfl]) (by omega)
  refine decide_eq_false (fun z => ?_)
  cases hq : lsO f n with
  | none =>
    have hno : ∀ m, lsO f m = none → ∀ k, k < m → f k = none := by
      intro m
      induction m with
      | zero => intro _ k hk; omega
      | succ m ihm =>
        intro hm k hk
        rw [lsO_s] at hm
        unfold mnO at hm
        cases h2 : lsO f m with
        | none =>
          rw [h2] at hm
          by_cases e : k = m
          · rw [e]; exact hm
          · exact ihm h2 k (by omega)
        | some c =>
          rw [h2] at hm
          cases h3 : f m with
          | none => rw [h3] at hm; cases hm
          | some d => rw [h3] at hm; dsimp only at hm; split at hm <;> cases hm
    rw [hno n hq c hc] at z
    cases z
  | some a =>
    have := (lsO_hit hq).2 c v hc z
    have := hl a hq
    omega
theorem am_old {f : Nat → Option Nat} {n v a : Nat} (h : f n = some v) (hl : lsO f n = some a) (hle : a ≤ v) : lsO f (n + 1) = some a ∧ amS f (n + 1) = amS f n := by
  have e : lsO f (n + 1) = some a := by
    rw [lsO_s, h, hl]
    unfold mnO
    dsimp only
    rw [if_neg (by omega)]
  refine ⟨e, ?_⟩
  obtain ⟨j, j1, j2, -, -⟩ := am_hit hl
  rw [j1]
  unfold amS
  rw [e]
  dsimp only
  show (match fst1 (fun h => decide (f h = some a)) n with
      | some c => some c
      | none => if decide (f n = some a) = true then some n else none) = _
  rw [j2]
theorem telF_le (P : Pal) (R : Rol) (c v : Nat) (h : telF P R c = some v) : v ≤ 1570 := by
  unfold telF at h
  split at h
  · injection h with h
    have h1 := cnt_le (fun n => fit P R n && cdH P n (c / 10) (c % 10)) 1570
    have h2 := cnt_le (fit P R) 1570
    omega
  · cases h
