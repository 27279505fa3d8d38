/-! LINES of texts, by numbers: their words, their numbers, what they tell -/
def tblK : List (List Nat) := [[5, 3, 9, 0, 9, 9], [0, 2, 54, 0, 54, 0], [1, 2, 2, 1, 9, 0], [2, 1, 2, 0, 0, 0], [3, 2, 9, 0, 9, 0], [4, 2, 2, 1, 18, 0], [6, 3, 1, 0, 9, 9], [10, 2, 9, 1, 9, 0], [11, 1, 99, 0, 0, 0], [20, 2, 8, 0, 3, 0], [21, 1, 8, 0, 0, 0], [22, 2, 5, 0, 9, 0], [23, 2, 5, 0, 3, 0], [24, 1, 5, 0, 0, 0], [25, 0, 0, 0, 0, 0], [30, 2, 9, 0, 9, 0], [31, 2, 9, 0, 9, 0], [40, 1, 9, 0, 0, 0]]
def wdsK : List (List Nat) := [[104, 117, 101], [115, 117, 109], [103, 97, 112], [108, 105, 107, 101], [112, 97, 105, 114], [99, 117, 114, 101], [108, 105, 107, 101, 115], [112, 105, 99, 116, 117, 114, 101], [108, 105, 109, 105, 116], [104, 97, 110, 103], [116, 97, 107, 101], [119, 101, 97, 114], [101, 110, 116, 101, 114], [108, 101, 97, 118, 101], [104, 111, 117, 114], [99, 97, 108, 109], [115, 110, 101, 101, 122, 101, 100], [103, 117, 101, 115, 116]]
def kc (k : Nat) : Nat := (tblK.getD k []).getD 0 0
def kn (k : Nat) : Nat := (tblK.getD k []).getD 1 0
def kfm (k : Nat) : Nat := (tblK.getD k []).getD 2 0
def ksl (k : Nat) : Nat := (tblK.getD k []).getD 3 0
def ksm (k : Nat) : Nat := (tblK.getD k []).getD 4 0
def ktm (k : Nat) : Nat := (tblK.getD k []).getD 5 0
def wln (k : Nat) : Nat := (wdsK.getD k []).length
def wby (k i : Nat) : Nat := (wdsK.getD k []).getD i 0
theorem tbl_ok : ∀ k, k < 18 → (hr_s0 (307 + k) 0 = nI (kc k) ∧ hr_s0 (307 + k) 2 = nI (kn k) ∧ hr_s0 (307 + k) 3 = nI (kfm k)) ∧ (hr_s0 (307 + k) 4 = nI (ksl k) ∧ hr_s0 (307 + k) 5 = nI (ksm k) ∧ hr_s0 (307 + k) 6 = nI (ktm k)) ∧ (hr_K (307 + k) = 19 ∧ hr_K (325 + k) = 20 ∧ hr_N (325 + k) = wln k) ∧ (kc k ≤ 40 ∧ kn k ≤ 3 ∧ kfm k ≤ 99) ∧ (ksl k ≤ 99 ∧ ksm k ≤ 99 ∧ ktm k ≤ 99) ∧ wln k ≤ 7 := by decide +kernel
theorem wds_ok : ∀ k, k < 18 → ∀ i, i < wln k → hr_s0 (325 + k) i = nI (wby k i) ∧ 0 < wby k i ∧ wby k i < 256 := by decide +kernel
theorem wds_ne : ∀ k, k < 18 → ∀ j, j < 18 → wdsK.getD k [] = wdsK.getD j [] → k = j := by decide +kernel
section LN
variable (B : Nat → Nat) (L : Nat)
def isW (p k : Nat) : Bool := decide (kT B L p = 1) && (decide (nT B L p - sT B L p = wln k) && !exb (fun i => B (sT B L p + i) != wby k i) (wln k))
def lkS (s p : Nat) : Option Nat := fst1 (fun k => decide (kc k / 10 = s) && isW B L p k) 18
/-- a token further on -/
def ps (p : Nat) : Nat → Nat
  | 0 => p
  | i + 1 => nT B L (ps p i)
/-- whether so many numbers come, and the token behind them, or the first that is none -/
def nmS : Nat → Nat → Bool × Nat
  | 0, p => (true, p)
  | m + 1, p => if kT B L p = 2 then nmS m (nT B L p) else (false, p)
end LN
theorem isW_one {B : Nat → Nat} {L p k j : Nat} (hk : k < 18) (hj : j < 18) (h1 : isW B L p k = true) (h2 : isW B L p j = true) : k = j := by
  unfold isW at h1 h2
  rw [Bool.and_eq_true, Bool.and_eq_true] at h1 h2
  have a1 : nT B L p - sT B L p = wln k := of_decide_eq_true h1.2.1
  have a2 : nT B L p - sT B L p = wln j := of_decide_eq_true h2.2.1
  have b1 := exb_no.mp (by simpa using h1.2.2)
  have b2 := exb_no.mp (by simpa using h2.2.2)
  refine wds_ne k hk j hj (List.ext_getElem? (fun i => ?_))
  have l1 : (wdsK.getD k []).length = wln k := rfl
  have l2 : (wdsK.getD j []).length = wln j := rfl
  by_cases hi : i < wln k
  · have c1 := b1 i hi
    have c2 := b2 i (by omega)
    have e1 : B (sT B L p + i) = wby k i := by simpa using c1
    have e2 : B (sT B L p + i) = wby j i := by simpa using c2
    rw [List.getElem?_eq_getElem (by omega), List.getElem?_eq_getElem (by omega)]
    congr 1
    have g1 : wby k i = (wdsK.getD k [])[i]'(by omega) := by unfold wby; rw [List.getD_eq_getElem?_getD, List.getElem?_eq_getElem (by omega)]; rfl
    have g2 : wby j i = (wdsK.getD j [])[i]'(by omega) := by unfold wby; rw [List.getD_eq_getElem?_getD, List.getElem?_eq_getElem (by omega)]; rfl
    rw [← g1, ← g2, ← e1, e2]
  · rw [List.getElem?_eq_none (by omega), List.getElem?_eq_none (by omega)]
theorem lkS_iff {B : Nat → Nat} {L p s k : Nat} : lkS B L s p = some k ↔ k < 18 ∧ kc k / 10 = s ∧ isW B L p k = true := by
  constructor
  · intro h
    obtain ⟨h1, h2, -⟩ := fst1_some h
    rw [Bool.and_eq_true] at h2
    exact ⟨h1, of_decide_eq_true h2.1, h2.2⟩
  · rintro ⟨h1, h2, h3⟩
    unfold lkS
    cases hq : fst1 (fun k => decide (kc k / 10 = s) && isW B L p k) 18 with
    | none =>
      have := fst1_none hq k h1
      rw [decide_eq_true h2, h3] at this
      cases this
    | some j =>
      obtain ⟨g1, g2, -⟩ := fst1_some hq
      rw [Bool.and_eq_true] at g2
      rw [isW_one h1 g1 h3 g2.2]
/-- what is read of a text so far: a palette, a roll, hues that are named, the fault and its place -/
abbrev Txt : Type := Pal × Rol × Nat × Nat × Nat
def xP (X : Txt) : Pal := X.1
def xR (X : Txt) : Rol := X.2.1
def xN (X : Txt) : Nat := X.2.2.1
def xF (X : Txt) : Nat := X.2.2.2.1
def xQ (X : Txt) : Nat := X.2.2.2.2
def addH (P : Pal) (a b c : Nat) : Pal := (pH P + 1, pR P, fun i => if i = 3 * pH P then a else if i = 3 * pH P + 1 then b else if i = 3 * pH P + 2 then c else pP P i, P.2.2.2)
def addR (P : Pal) (s x y : Int) : Pal := (pH P, pR P + 1, P.2.2.1, fun i => if i = 3 * pR P then s else if i = 3 * pR P + 1 then x else if i = 3 * pR P + 2 then y else pU P i, P.2.2.2.2)
def setL (P : Pal) (w h m : Nat) : Pal := (pH P, pR P, P.2.2.1, P.2.2.2.1, fun i => if i = 10 * w + h then m else pL P i)
def addO (R : Rol) (c a b : Int) (nm : Nat) : Rol := (oN R + 1, oL R, oS R ||| nm, fun i => if i = oN R then c else oC R i, fun i => if i = oN R then a else oA R i, fun i => if i = oN R then b else oB R i)
def setO (R : Rol) (l : Nat) : Rol := (oN R, l, R.2.2)
/-- the number of a line, if it has one -/
def nu (k i v : Nat) : Int := if i < kn k then (v : Int) else -1
def keepX (k v0 v1 v2 : Nat) (X : Txt) : Txt :=
  if kc k = 5 then (addH (xP X) v0 v1 v2, X.2)
  else if kc k = 6 then (setL (xP X) v0 v1 v2, xR X, xN X ||| 2 ^ v1, X.2.2.2)
  else if kc k < 5 then (addR (xP X) (kc k) v0 (nu k 1 v1), xR X, (if kc k = 3 then xN X ||| (2 ^ v0 ||| 2 ^ v1) else xN X), X.2.2.2)
  else if kc k = 11 then (xP X, setO (xR X) v0, X.2.2)
  else (xP X, addO (xR X) ((kc k % 10 : Nat) : Int) (nu k 0 v0) (nu k 1 v1) (if kc k = 10 then 2 ^ v0 else if 30 ≤ kc k then 2 ^ v0 ||| 2 ^ v1 else 0), X.2.2)
def limS (s : Nat) : Nat := if s = 1 then 9 else if s = 2 then 40 else if s = 3 then 12 else 8
def fullX (k : Nat) (X : Txt) : Bool := if kc k = 6 ∨ kc k = 11 then false else if kc k = 5 then decide (10 ≤ pH (xP X)) else if kc k < 5 then decide (6 ≤ pR (xP X)) else decide (limS (kc k / 10) ≤ oN (xR X))
def bad2 (k v0 v1 : Nat) : Bool := decide (v1 < ksl k ∨ ksm k < v1) || (if kc k = 0 then decide (v1 < v0) else decide (v1 = v0 ∧ (kc k = 3 ∨ kc k = 30 ∨ kc k = 31)))
/-- the first number that can't be: 1, 2, 3; 0 if there is none -/
def badX (k v0 v1 v2 : Nat) : Nat := if decide (1 ≤ kn k ∧ kfm k < v0) = true then 1 else if (decide (2 ≤ kn k) && bad2 k v0 v1) = true then 2 else if decide (3 ≤ kn k ∧ ktm k < v2) = true then 3 else 0
def fltX (f q : Nat) (X : Txt) : Txt := (X.1, X.2.1, X.2.2.1, f, q)
def effX (k ws v0 v1 v2 q0 q1 q2 : Nat) (X : Txt) : Txt :=
  if xF X ≠ 0 then X else if fullX k X = true then fltX 3 ws X else if badX k v0 v1 v2 = 0 then keepX k v0 v1 v2 X else fltX 2 (if badX k v0 v1 v2 = 1 then q0 else if badX k v0 v1 v2 = 2 then q1 else q2) X
/-- a guest's numbers: the token behind, his hues, the first that can't be -/
def gdS (B : Nat → Nat) (L : Nat) : Nat → Nat → Nat → Option Nat → Nat × Nat × Option Nat
  | 0, p, s, b => (p, s, b)
  | f + 1, p, s, b => if kT B L p = 2 then gdS B L f (nT B L p) (if vT B L p < 10 then s ||| 2 ^ vT B L p else s) (match b with
      | some q => some q
      | none => if vT B L p < 10 ∧ s.testBit (vT B L p) = false then none else some (sT B L p)) else (p, s, b)
def gefX (ws s : Nat) (b : Option Nat) (X : Txt) : Txt :=
  if xF X ≠ 0 then X else if 8 ≤ oN (xR X) then fltX 3 ws X else match b with
  | some q => fltX 2 q X
  | none => (xP X, addO (xR X) 0 s (-1) s, X.2.2)
/-- a line: whether it has its form, the token behind it (or the one that can't be), what is read then -/
def lineS (B : Nat → Nat) (L s p : Nat) (X : Txt) : Bool × Nat × Txt :=
  match lkS B L s p with
  | none => (false, p, X)
  | some k => if k = 17 then
      (if kT B L (nT B L p) ≠ 2 then (false, nT B L p, X) else if kT B L (gdS B L 601 (nT B L p) 0 none).1 ≠ 3 then (false, (gdS B L 601 (nT B L p) 0 none).1, X) else (true, nT B L (gdS B L 601 (nT B L p) 0 none).1, gefX (sT B L p) (gdS B L 601 (nT B L p) 0 none).2.1 (gdS B L 601 (nT B L p) 0 none).2.2 X))
    else if (nmS B L (kn k) (nT B L p)).1 = false then (false, (nmS B L (kn k) (nT B L p)).2, X)
    else if kT B L (nmS B L (kn k) (nT B L p)).2 ≠ 3 then (false, (nmS B L (kn k) (nT B L p)).2, X)
    else (true, nT B L (nmS B L (kn k) (nT B L p)).2, effX k (sT B L p) (vT B L (ps B L (nT B L p) 0)) (vT B L (ps B L (nT B L p) 1)) (vT B L (ps B L (nT B L p) 2)) (sT B L (ps B L (nT B L p) 0)) (sT B L (ps B L (nT B L p) 1)) (sT B L (ps B L (nT B L p) 2)) X)
def linesS (B : Nat → Nat) (L s : Nat) : Nat → Nat → Txt → Bool × Nat × Txt
  | 0, p, X => (false, p, X)
  | f + 1, p, X => if kT B L p = 0 then (true, p, X) else if (lineS B L s p X).1 = true then linesS B L s f (lineS B L s p X).2.1 (lineS B L s p X).2.2 else (false, (lineS B L s p X).2.1, X)
def pal0 : Pal := (0, 0, fun _ => 0, fun _ => 0, fun _ => 0)
def rol0 : Rol := (0, 10, 0, fun _ => 0, fun _ => 0, fun _ => 0)
def txt0 : Txt := (pal0, rol0, 0, 0, 0)
def readS (B : Nat → Nat) (L s : Nat) : Bool × Nat × Txt := linesS B L s 601 0 txt0
/-- the fault of a text, and its place -/
def rdF (B : Nat → Nat) (L s : Nat) : Nat := if (readS B L s).1 = false then 1 else if xF (readS B L s).2.2 ≠ 0 then xF (readS B L s).2.2 else if xN (readS B L s).2.2 < 2 ^ pH (xP (readS B L s).2.2) then 0 else 4
def rdQ (B : Nat → Nat) (L s : Nat) : Int := if (readS B L s).1 = false then (sT B L (readS B L s).2.1 : Int) else if xF (readS B L s).2.2 ≠ 0 then (xQ (readS B L s).2.2 : Int) else if xN (readS B L s).2.2 < 2 ^ pH (xP (readS B L s).2.2) then -1 else (L : Int)
