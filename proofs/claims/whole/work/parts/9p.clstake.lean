/-! THE CLASS'S READER takes a line -/
theorem tb_5 : ∀ k, k < 18 → kc k = 5 → kn k = 3 ∧ kfm k = 9 ∧ ksl k = 0 ∧ ksm k = 9 ∧ ktm k = 9 := by decide +kernel
theorem tb_6 : ∀ k, k < 18 → kc k = 6 → kn k = 3 ∧ kfm k = 1 ∧ ksl k = 0 ∧ ksm k = 9 ∧ ktm k = 9 := by decide +kernel
theorem tb_0 : ∀ k, k < 18 → kc k = 0 → kn k = 2 ∧ kfm k = 54 ∧ ksl k = 0 ∧ ksm k = 54 := by decide +kernel
theorem tb_1 : ∀ k, k < 18 → kc k = 1 → kn k = 2 ∧ kfm k = 2 ∧ ksl k = 1 ∧ ksm k = 9 := by decide +kernel
theorem tb_2 : ∀ k, k < 18 → kc k = 2 → kn k = 1 ∧ kfm k = 2 := by decide +kernel
theorem tb_3 : ∀ k, k < 18 → kc k = 3 → kn k = 2 ∧ kfm k = 9 ∧ ksl k = 0 ∧ ksm k = 9 := by decide +kernel
theorem tb_4 : ∀ k, k < 18 → kc k = 4 → kn k = 2 ∧ kfm k = 2 ∧ ksl k = 1 ∧ ksm k = 18 := by decide +kernel
theorem tb_10 : ∀ k, k < 18 → (kc k = 10 → kn k = 2 ∧ kfm k = 9 ∧ ksl k = 1 ∧ ksm k = 9) ∧ (kc k = 11 → kn k = 1 ∧ kfm k = 99) ∧ (kc k = 30 ∨ kc k = 31 → kn k = 2 ∧ kfm k = 9 ∧ ksl k = 0 ∧ ksm k = 9) := by decide +kernel
theorem tb_20 : ∀ k, k < 18 → kc k = 20 → kn k = 2 ∧ kfm k = 8 ∧ ksl k = 0 ∧ ksm k = 3 := by decide +kernel
theorem tb_21 : ∀ k, k < 18 → kc k = 21 → kn k = 1 ∧ kfm k = 8 := by decide +kernel
theorem tb_22 : ∀ k, k < 18 → kc k = 22 → kn k = 2 ∧ kfm k = 5 ∧ ksl k = 0 ∧ ksm k = 9 := by decide +kernel
theorem tb_23 : ∀ k, k < 18 → kc k = 23 → kn k = 2 ∧ kfm k = 5 ∧ ksl k = 0 ∧ ksm k = 3 := by decide +kernel
theorem tb_24 : ∀ k, k < 18 → kc k = 24 → kn k = 1 ∧ kfm k = 5 := by decide +kernel
theorem tb_25 : ∀ k, k < 18 → kc k = 25 → kn k = 0 := by decide +kernel
theorem tb_all : ∀ k, k < 18 → kc k < 7 ∨ kc k = 10 ∨ kc k = 11 ∨ (20 ≤ kc k ∧ kc k ≤ 25) ∨ kc k = 30 ∨ kc k = 31 ∨ (kc k = 40 ∧ k = 17) := by decide +kernel
/-- a palette as it is read -/
def pB (M : PM) (a : Nat) (P : Pal) : Prop := (M.1 a 0 = nI (pH P) ∧ M.1 a 1 = nI (pR P)) ∧ (∀ i, i < 3 * pH P → M.1 (a + 1) i = nI (pP P i)) ∧ (∀ i, i < 3 * pR P → M.1 (a + 2) i = zI (pU P i)) ∧ ∀ i, i < 20 → M.1 (a + 3) i = nI (pL P i)
/-- what is read, as it lies -/
def cX (M : PM) (X : Txt) : Prop := pB M 224 (xP X) ∧ rR M 233 (xR X) ∧ M.1 223 2 = nI (xF X) ∧ M.1 223 3 = (if xF X = 0 then zI (-1) else nI (xQ X)) ∧ M.1 223 14 = nI (xN X)
def xOK (s : Nat) (X : Txt) : Prop := pOK (xP X) ∧ (1 ≤ s → oOK s (xR X) ∧ xP X = pal0 ∧ xN X = 0) ∧ xN X < 1024 ∧ xF X ≤ 3 ∧ xQ X ≤ 600 ∧ (s = 0 → oN (xR X) = 0)
/-- what taking a line may write -/
abbrev tkW : List (Nat × Nat) := [(223, 3), (223, 4), (223, 15), (224, 1), (224, 2), (225, 0), (226, 0), (227, 0), (233, 1), (233, 2), (233, 3), (234, 0), (235, 0), (236, 0)]
section CLS
variable {M : PM} {P : Pal} {R : Rol} {X : Txt}
theorem s_addH (h : pB M 224 P) (hn : pH P < 10) (a b c : Nat) : ∃ M', f_X4_addHue 224 (nI a) (nI b) (nI c) M = some ((), M') ∧ pB M' 224 (addH P a b c) ∧ hr_fr [(224, 1), (225, 0)] M M' := by
  obtain ⟨⟨h1, h2⟩, h3, h4, h5⟩ := h
  have e1 : ∀ N : PM, N.1 224 0 = nI (pH P) → ∀ j v, (hr_si N 225 j v).1 224 0 = nI (pH P) := fun N hN j v => by rw [si_ne _ _ _ (by omega)]; exact hN
  unfold f_X4_addHue
  rw [if_pos K_224, h1, q_lit 10, gO 10, if_neg (fun y => by have := (q_le (by omega) (by omega)).mp y; omega), q_lit 3, gO 3, q_mul, if_pos (q_in (by omega) (by omega)), q_cl (by omega)]
  have g1 := e1 M h1 (3 * pH P) (nI a)
  rw [g1, q_mul, q_lit 1, gO 1, q_add, if_pos (q_in (by omega) (by omega)), q_cl (by omega)]
  have g2 := e1 _ g1 (3 * pH P + 1) (nI b)
  rw [g2, q_mul, q_lit 2, gO 2, q_add, if_pos (q_in (by omega) (by omega)), q_cl (by omega)]
  have g3 := e1 _ g2 (3 * pH P + 2) (nI c)
  rw [g3, q_add]
  have ep : ∀ i, pP (addH P a b c) i = if i = 3 * pH P then a else if i = 3 * pH P + 1 then b else if i = 3 * pH P + 2 then c else pP P i := fun _ => rfl
  refine ⟨_, rfl, ⟨⟨by rw [si_same, if_pos rfl]; rfl, ?_⟩, fun i hi => ?_, fun i hi => ?_, fun i hi => ?_⟩, hr_fr.si rfl (hr_fr.si rfl (hr_fr.si rfl (hr_fr.si rfl (hr_fr.rf _ _))))⟩
  · rw [si_same, if_neg (by omega), si_ne _ _ _ (by omega), si_ne _ _ _ (by omega), si_ne _ _ _ (by omega)]; exact h2
  · have hi' : i < 3 * (pH P + 1) := hi
    show (hr_si _ 224 0 _).1 225 i = _
    rw [si_ne _ _ _ (show 225 ≠ 224 by omega), si_same, si_same, si_same, ep]
    by_cases z2 : i = 3 * pH P + 2
    · rw [if_pos z2, if_neg (by omega), if_neg (by omega), if_pos z2]
    · rw [if_neg z2]
      by_cases z1 : i = 3 * pH P + 1
      · rw [if_pos z1, if_neg (by omega), if_pos z1]
      · rw [if_neg z1]
        by_cases z0 : i = 3 * pH P
        · rw [if_pos z0, if_pos z0]
        · rw [if_neg z0, if_neg z0, if_neg z1, if_neg z2]
          exact h3 i (by omega)
  · show (hr_si _ 224 0 _).1 226 i = _
    rw [si_ne _ _ _ (show 226 ≠ 224 by omega), si_ne _ _ _ (by omega), si_ne _ _ _ (by omega), si_ne _ _ _ (by omega)]
    exact h4 i hi
  · show (hr_si _ 224 0 _).1 227 i = _
    rw [si_ne _ _ _ (show 227 ≠ 224 by omega), si_ne _ _ _ (by omega), si_ne _ _ _ (by omega), si_ne _ _ _ (by omega)]
    exact h5 i hi
theorem s_addR (h : pB M 224 P) (hn : pR P < 6) (s x y : Int) : ∃ M', f_X4_addRule 224 (zI s) (zI x) (zI y) M = some ((), M') ∧ pB M' 224 (addR P s x y) ∧ hr_fr [(224, 2), (226, 0)] M M' := by
  obtain ⟨⟨h1, h2⟩, h3, h4, h5⟩ := h
  have e1 : ∀ N : PM, N.1 224 1 = nI (pR P) → ∀ j v, (hr_si N 226 j v).1 224 1 = nI (pR P) := fun N hN j v => by rw [si_ne _ _ _ (by omega)]; exact hN
  unfold f_X4_addRule
  rw [if_pos K_224, h2, q_lit 6, gO 6, if_neg (fun y => by have := (q_le (by omega) (by omega)).mp y; omega), q_lit 3, gO 3, q_mul, if_pos (q_in (by omega) (by omega)), q_cl (by omega)]
  have g1 := e1 M h2 (3 * pR P) (zI s)
  rw [g1, q_mul, q_lit 1, gO 1, q_add, if_pos (q_in (by omega) (by omega)), q_cl (by omega)]
  have g2 := e1 _ g1 (3 * pR P + 1) (zI x)
  rw [g2, q_mul, q_lit 2, gO 2, q_add, if_pos (q_in (by omega) (by omega)), q_cl (by omega)]
  have g3 := e1 _ g2 (3 * pR P + 2) (zI y)
  rw [g3, q_add]
  have ep : ∀ i, pU (addR P s x y) i = if i = 3 * pR P then s else if i = 3 * pR P + 1 then x else if i = 3 * pR P + 2 then y else pU P i := fun _ => rfl
  refine ⟨_, rfl, ⟨⟨?_, by rw [si_same, if_pos rfl]; rfl⟩, fun i hi => ?_, fun i hi => ?_, fun i hi => ?_⟩, hr_fr.si rfl (hr_fr.si rfl (hr_fr.si rfl (hr_fr.si rfl (hr_fr.rf _ _))))⟩
  · rw [si_same, if_neg (by omega), si_ne _ _ _ (by omega), si_ne _ _ _ (by omega), si_ne _ _ _ (by omega)]; exact h1
  · show (hr_si _ 224 1 _).1 225 i = _
    rw [si_ne _ _ _ (show 225 ≠ 224 by omega), si_ne _ _ _ (by omega), si_ne _ _ _ (by omega), si_ne _ _ _ (by omega)]
    exact h3 i hi
  · have hi' : i < 3 * (pR P + 1) := hi
    show (hr_si _ 224 1 _).1 226 i = _
    rw [si_ne _ _ _ (show 226 ≠ 224 by omega), si_same, si_same, si_same, ep]
    by_cases z2 : i = 3 * pR P + 2
    · rw [if_pos z2, if_neg (by omega), if_neg (by omega), if_pos z2]
    · rw [if_neg z2]
      by_cases z1 : i = 3 * pR P + 1
      · rw [if_pos z1, if_neg (by omega), if_pos z1]
      · rw [if_neg z1]
        by_cases z0 : i = 3 * pR P
        · rw [if_pos z0, if_pos z0]
        · rw [if_neg z0, if_neg z0, if_neg z1, if_neg z2]
          exact h4 i (by omega)
  · show (hr_si _ 224 1 _).1 227 i = _
    rw [si_ne _ _ _ (show 227 ≠ 224 by omega), si_ne _ _ _ (by omega), si_ne _ _ _ (by omega), si_ne _ _ _ (by omega)]
    exact h5 i hi
theorem s_setL (h : pB M 224 P) {w g : Nat} (hw : w ≤ 1) (hg : g ≤ 9) (m : Nat) : f_X4_setLikes 224 (nI w) (nI g) (nI m) M = some ((), hr_si M 227 (10 * w + g) (nI m)) ∧ pB (hr_si M 227 (10 * w + g) (nI m)) 224 (setL P w g m) := by
  obtain ⟨⟨h1, h2⟩, h3, h4, h5⟩ := h
  constructor
  · unfold f_X4_setLikes
    rw [if_pos K_224, q_lit 10, gO 10, q_mul, q_add, if_pos (q_in (by omega) (by omega)), q_cl (by omega)]
  · refine ⟨⟨by rw [si_ne _ _ _ (by omega)]; exact h1, by rw [si_ne _ _ _ (by omega)]; exact h2⟩, fun i hi => by rw [si_ne _ _ _ (by omega)]; exact h3 i hi, fun i hi => by rw [si_ne _ _ _ (by omega)]; exact h4 i hi, fun i hi => ?_⟩
    have ep : pL (setL P w g m) i = if i = 10 * w + g then m else pL P i := rfl
    show (hr_si M 227 _ _).1 227 i = _
    rw [si_same, ep]
    by_cases z : i = 10 * w + g
    · rw [if_pos z, if_pos z]
    · rw [if_neg z, if_neg z]; exact h5 i hi
def nmO (R : Rol) (nm : Nat) : Rol := (oN R, oL R, oS R ||| nm, R.2.2.2)
def addO1 (R : Rol) (c a b : Int) : Rol := (oN R + 1, oL R, oS R, fun i => if i = oN R then c else oC R i, fun i => if i = oN R then a else oA R i, fun i => if i = oN R then b else oB R i)
theorem s_name (h : rR M 233 R) (nm : Nat) : f_X6_name 233 (nI nm) M = some ((), hr_si M 233 2 (nI (oS R ||| nm))) ∧ rR (hr_si M 233 2 (nI (oS R ||| nm))) 233 (nmO R nm) := by
  constructor
  · unfold f_X6_name
    rw [if_pos h.1, h.2.1.2.2, q_or]
  · refine ⟨h.1, ⟨by rw [si_same, if_neg (by omega)]; exact h.2.1.1, by rw [si_same, if_neg (by omega)]; exact h.2.1.2.1, by rw [si_same, if_pos rfl]; rfl⟩, fun i hi => ?_⟩
    rw [si_ne _ _ _ (by omega), si_ne _ _ _ (by omega), si_ne _ _ _ (by omega)]
    exact h.2.2 i hi
theorem s_addO (h : rR M 233 R) (hn : oN R < 40) (c a b : Int) : ∃ M', f_X6_add 233 (zI c) (zI a) (zI b) M = some ((), M') ∧ rR M' 233 (addO1 R c a b) ∧ hr_fr [(233, 1), (234, 0), (235, 0), (236, 0)] M M' := by
  have h1 := h.2.1.1
  have e1 : ∀ N : PM, N.1 233 0 = nI (oN R) → ∀ c j v, c ≠ 233 → (hr_si N c j v).1 233 0 = nI (oN R) := fun N hN c j v hc => by rw [si_ne _ _ _ (Ne.symm hc)]; exact hN
  have eN : hr_N (233 + 1) = 40 := by decide +kernel
  unfold f_X6_add
  rw [if_pos h.1, h1, eN, show Int32.ofNat 40 = nI 40 from rfl, if_neg (fun y => by have := (q_le (by omega) (by omega)).mp y; omega), if_pos (q_in (by omega) (by omega)), q_cl (by omega)]
  have g1 := e1 M h1 (233 + 1) (oN R) (zI c) (by omega)
  rw [g1, if_pos (q_in (by omega) (by omega)), q_cl (by omega)]
  have g2 := e1 _ g1 (233 + 2) (oN R) (zI a) (by omega)
  rw [g2, if_pos (q_in (by omega) (by omega)), q_cl (by omega)]
  have g3 := e1 _ g2 (233 + 3) (oN R) (zI b) (by omega)
  rw [g3, q_lit 1, gO 1, q_add]
  refine ⟨_, rfl, ⟨h.1, ⟨by rw [si_same, if_pos rfl]; rfl, ?_, ?_⟩, fun i hi => ?_⟩, hr_fr.si rfl (hr_fr.si rfl (hr_fr.si rfl (hr_fr.si rfl (hr_fr.rf _ _))))⟩
  · rw [si_same, if_neg (by omega), si_ne _ _ _ (by omega), si_ne _ _ _ (by omega), si_ne _ _ _ (by omega)]; exact h.2.1.2.1
  · rw [si_same, if_neg (by omega), si_ne _ _ _ (by omega), si_ne _ _ _ (by omega), si_ne _ _ _ (by omega)]; exact h.2.1.2.2
  · have hi' : i < oN R + 1 := hi
    have ec : oC (addO1 R c a b) i = if i = oN R then c else oC R i := rfl
    have ea : oA (addO1 R c a b) i = if i = oN R then a else oA R i := rfl
    have eb : oB (addO1 R c a b) i = if i = oN R then b else oB R i := rfl
    rw [ec, ea, eb]
    refine ⟨?_, ?_, ?_⟩
    · rw [si_ne _ _ _ (by omega), si_ne _ _ _ (by omega), si_ne _ _ _ (by omega), si_same]
      by_cases z : i = oN R
      · rw [if_pos z, if_pos z]
      · rw [if_neg z, if_neg z]; exact (h.2.2 i (by omega)).1
    · rw [si_ne _ _ _ (by omega), si_ne _ _ _ (by omega), si_same]
      by_cases z : i = oN R
      · rw [if_pos z, if_pos z]
      · rw [if_neg z, if_neg z, si_ne _ _ _ (by omega)]; exact (h.2.2 i (by omega)).2.1
    · rw [si_ne _ _ _ (by omega), si_same]
      by_cases z : i = oN R
      · rw [if_pos z, if_pos z]
      · rw [if_neg z, if_neg z, si_ne _ _ _ (by omega), si_ne _ _ _ (by omega)]; exact (h.2.2 i (by omega)).2.2
theorem s_sort {k : Nat} (hm : hr_MS M) (hk : k < 18) : f_X3_sort (307 + k) M = some (nI (kc k / 10), M) := by
  obtain ⟨⟨a1, -, -⟩, -, ⟨t1, -, -⟩, ⟨b1, -, -⟩, -, -⟩ := tbl_ok k hk
  unfold f_X3_sort
  rw [if_pos t1, (ms_at hm (by omega) 0).trans a1, q_lit 10, gO 10, q_div (by omega) (by omega) (by omega)]
theorem s_code {k : Nat} (hm : hr_MS M) (hk : k < 18) : f_X3_code (307 + k) M = some (nI (kc k % 10), M) := by
  obtain ⟨⟨a1, -, -⟩, -, ⟨t1, -, -⟩, ⟨b1, -, -⟩, -, -⟩ := tbl_ok k hk
  unfold f_X3_code
  rw [if_pos t1, (ms_at hm (by omega) 0).trans a1, q_lit 10, gO 10, q_rem (by omega) (by omega) (by omega)]
theorem lim_ok : ∀ s, s < 5 → 1 ≤ s → hr_s0 305 s = nI (limS s) ∧ limS s ≤ 40 := by decide +kernel
theorem s_isFull {k : Nat} (hm : hr_MS M) (hX : cX M X) (hp : pOK (xP X)) (ho : oN (xR X) ≤ 40) (hk : k < 18) : f_X5_isFull (307 + k) M = some (bI (fullX k X), M) := by
  obtain ⟨⟨a1, -, -⟩, -, ⟨t1, -, -⟩, ⟨b1, -, -⟩, -, -⟩ := tbl_ok k hk
  have h10 := hp.1
  have h6 := hp.2.1
  unfold f_X5_isFull fullX
  rw [if_pos t1, (ms_at hm (by omega) 0).trans a1, hX.1.1.1, q_lit 6, gO 6, q_lit 11, gO 11, q_lit 5, gO 5]
  by_cases z6 : kc k = 6
  · rw [if_pos (show nI (kc k) = nI 6 by rw [z6]), if_pos (Or.inl z6)]; rfl
  rw [if_neg (fun y => z6 ((q_eq (by omega) (by omega)).mp y))]
  by_cases z11 : kc k = 11
  · rw [if_pos (show nI (kc k) = nI 11 by rw [z11]), if_pos (Or.inr z11)]; rfl
  rw [if_neg (fun y => z11 ((q_eq (by omega) (by omega)).mp y)), if_neg (show ¬ (kc k = 6 ∨ kc k = 11) by omega)]
  by_cases z5 : kc k = 5
  · rw [if_pos (show nI (kc k) = nI 5 by rw [z5]), if_pos z5, q_lit 10, gO 10]
    by_cases y : pH (xP X) < 10
    · rw [if_pos ((q_lt (by omega) (by omega)).mpr y), decide_eq_false (by omega)]; rfl
    · rw [if_neg (fun w => y ((q_lt (by omega) (by omega)).mp w)), decide_eq_true (by omega)]; rfl
  rw [if_neg (fun y => z5 ((q_eq (by omega) (by omega)).mp y)), if_neg z5, s_sort hm hk, q_bd_some]
  by_cases z0 : kc k < 5
  · rw [if_pos (show nI (kc k / 10) = 0 by rw [show kc k / 10 = 0 by omega]; rfl), if_pos z0, hX.1.1.2]
    by_cases y : pR (xP X) < 6
    · rw [if_pos ((q_lt (by omega) (by omega)).mpr y), decide_eq_false (by omega)]; rfl
    · rw [if_neg (fun w => y ((q_lt (by omega) (by omega)).mp w)), decide_eq_true (by omega)]; rfl
  · have hs : 1 ≤ kc k / 10 ∧ kc k / 10 < 5 := by
      rcases tb_all k hk with h | h | h | h | h | h | h <;> omega
    obtain ⟨l1, l2⟩ := lim_ok (kc k / 10) hs.2 hs.1
    rw [if_neg (show ¬ nI (kc k / 10) = 0 from fun y => by have := (q_eq (b := 0) (by omega) (by omega)).mp y; omega), s_sort hm hk, q_bd_some, if_pos (q_in (by omega) (by omega)), q_cl (by omega), ms_at hm (a := 305) (by omega) (kc k / 10), l1, if_neg z0, hX.2.1.2.1.1]
    by_cases y : oN (xR X) < limS (kc k / 10)
    · rw [if_pos ((q_lt (by omega) (by omega)).mpr y), decide_eq_false (by omega)]; rfl
    · rw [if_neg (fun w => y ((q_lt (by omega) (by omega)).mp w)), decide_eq_true (by omega)]; rfl
theorem s_badPlace {B : Nat → Nat} {L p k : Nat} (hm : hr_MS M) (hk : k < 17) (hn : nmM M B L p (kn k)) (hv : ∀ i, i < kn k → vT B L (ps B L p i) ≤ 99) : f_X5_badPlace (307 + k) M = some (if badX k (vT B L (ps B L p 0)) (vT B L (ps B L p 1)) (vT B L (ps B L p 2)) = 0 then zI (-1) else nI (if badX k (vT B L (ps B L p 0)) (vT B L (ps B L p 1)) (vT B L (ps B L p 2)) = 1 then sT B L (ps B L p 0) else if badX k (vT B L (ps B L p 0)) (vT B L (ps B L p 1)) (vT B L (ps B L p 2)) = 2 then sT B L (ps B L p 1) else sT B L (ps B L p 2)), M) := by
  obtain ⟨⟨a1, a2, a3⟩, ⟨a4, a5, a6⟩, ⟨t1, -, -⟩, ⟨b1, b2, b3⟩, ⟨c1, c2, c3⟩, -⟩ := tbl_ok k (by omega)
  have m0 : M.1 (307 + k) 0 = nI (kc k) := (ms_at hm (by omega) 0).trans a1
  have m2 : M.1 (307 + k) 2 = nI (kn k) := (ms_at hm (by omega) 2).trans a2
  have m3 : M.1 (307 + k) 3 = nI (kfm k) := (ms_at hm (by omega) 3).trans a3
  have m4 : M.1 (307 + k) 4 = nI (ksl k) := (ms_at hm (by omega) 4).trans a4
  have m5 : M.1 (307 + k) 5 = nI (ksm k) := (ms_at hm (by omega) 5).trans a5
  have m6 : M.1 (307 + k) 6 = nI (ktm k) := (ms_at hm (by omega) 6).trans a6
  have n40 : kc k ≠ 40 := by rcases tb_all k (by omega) with h | h | h | h | h | h | h <;> omega
  have g : ∀ i, i < kn k → M.1 238 i = nI (vT B L (ps B L p i)) ∧ M.1 239 i = nI (sT B L (ps B L p i)) := fun i hi => by
    obtain ⟨n1, n2⟩ := hn i (by omega)
    rw [if_pos hi] at n1
    exact ⟨by rw [n1, q_nz], n2 hi⟩
  generalize hv0 : vT B L (ps B L p 0) = v0 at *
  generalize hv1 : vT B L (ps B L p 1) = v1 at *
  generalize hv2 : vT B L (ps B L p 2) = v2 at *
  have i03 : inB 0 3 = true := q_in (i := 0) (by omega) (by omega)
  have i13 : inB 1 3 = true := q_in (i := 1) (by omega) (by omega)
  have i23 : inB 2 3 = true := q_in (i := 2) (by omega) (by omega)
  have e75 : (decide (1 ≤ kn k ∧ kfm k < v0) = false) → ((decide (2 ≤ kn k) && bad2 k v0 v1) = false) → f_X5_badPlace_75 (307 + k) M = some (if badX k v0 v1 v2 = 0 then zI (-1) else nI (if badX k v0 v1 v2 = 1 then sT B L (ps B L p 0) else if badX k v0 v1 v2 = 2 then sT B L (ps B L p 1) else sT B L (ps B L p 2)), M) := by
    intro h1 h2
    unfold f_X5_badPlace_75 badX
    rw [h1, h2, if_neg (show ¬ false = true by simp), if_neg (show ¬ false = true by simp), m2, q_lit 2, gO 2, show (nI 2).toNatClampNeg = 2 from rfl, show (-1 : Int32) = zI (-1) by decide]
    by_cases z : 3 ≤ kn k
    · have gg := g 2 (by omega)
      rw [hv2] at gg
      have l2 := hv 2 (by omega)
      rw [hv2] at l2
      rw [if_neg (fun y => by have := (q_le (by omega) (by omega)).mp y; omega), if_pos (show inB (nI 2) 3 = true from i23), gg.1]
      unfold f_X3_thirdCanBe
      rw [if_pos t1, m6]
      by_cases y : ktm k < v2
      · rw [if_pos ((q_lt (by omega) (by omega)).mpr y), q_bd_some, if_pos rfl, if_pos (show inB (nI 2) 3 = true from i23), gg.2, decide_eq_true ⟨z, y⟩, if_pos rfl]
        rfl
      · rw [if_neg (fun w => y ((q_lt (by omega) (by omega)).mp w)), q_bd_some, if_neg (by decide), decide_eq_false (by omega)]
        rfl
    · rw [if_pos ((q_le (by omega) (by omega)).mpr (by omega)), decide_eq_false (by omega)]
      rfl
  have e41 : (decide (1 ≤ kn k ∧ kfm k < v0) = false) → f_X5_badPlace_41 (307 + k) M = some (if badX k v0 v1 v2 = 0 then zI (-1) else nI (if badX k v0 v1 v2 = 1 then sT B L (ps B L p 0) else if badX k v0 v1 v2 = 2 then sT B L (ps B L p 1) else sT B L (ps B L p 2)), M) := by
    intro h1
    unfold f_X5_badPlace_41
    rw [m2, show (1 : Int32) = nI 1 from rfl, show (nI 1).toNatClampNeg = 1 from rfl, show (0 : Int32).toNatClampNeg = 0 from rfl]
    by_cases z : 2 ≤ kn k
    · have g0 := g 0 (by omega)
      have g1 := g 1 (by omega)
      rw [hv0] at g0
      rw [hv1] at g1
      have l0 := hv 0 (by omega)
      have l1 := hv 1 (by omega)
      rw [hv0] at l0
      rw [hv1] at l1
      rw [if_neg (fun y => by have := (q_le (by omega) (by omega)).mp y; omega), if_pos (show inB (nI 1) 3 = true from i13), if_pos i03, g0.1, g1.1]
      have e2 : f_X3_secondCanBe (307 + k) (nI v1) (nI v0) M = some (bI (!bad2 k v0 v1), M) := by
        unfold f_X3_secondCanBe bad2
        rw [if_pos t1, m4, m5, m0, q_lit 3, gO 3, q_lit 30, gO 30, q_lit 31, gO 31, show (0 : Int32) = nI 0 from rfl, show (1 : Int32) = nI 1 from rfl]
        by_cases y1 : v1 < ksl k
        · rw [if_pos ((q_lt (by omega) (by omega)).mpr y1), decide_eq_true (Or.inl y1)]; rfl
        rw [if_neg (fun w => y1 ((q_lt (by omega) (by omega)).mp w))]
        by_cases y2 : v1 ≤ ksm k
        · rw [if_pos ((q_le (by omega) (by omega)).mpr y2), decide_eq_false (show ¬ (v1 < ksl k ∨ ksm k < v1) by omega), Bool.false_or]
          by_cases y3 : kc k = 0
          · rw [if_pos (show nI (kc k) = nI 0 by rw [y3]), if_pos y3]
            by_cases y4 : v1 < v0
            · rw [if_pos ((q_lt (by omega) (by omega)).mpr y4), decide_eq_true y4]; rfl
            · rw [if_neg (fun w => y4 ((q_lt (by omega) (by omega)).mp w)), decide_eq_false y4]; rfl
          · rw [if_neg (fun w => y3 ((q_eq (by omega) (by omega)).mp w)), if_neg y3]
            by_cases y4 : v1 = v0
            · rw [if_pos (show nI v1 = nI v0 by rw [y4])]
              by_cases y5 : kc k = 3
              · rw [if_pos (by rw [y5]), decide_eq_true ⟨y4, Or.inl y5⟩]; rfl
              · rw [if_neg (fun w => y5 ((q_eq (by omega) (by omega)).mp w))]
                by_cases y6 : kc k = 30
                · rw [if_pos (by rw [y6]), decide_eq_true ⟨y4, Or.inr (Or.inl y6)⟩]; rfl
                · rw [if_neg (fun w => y6 ((q_eq (by omega) (by omega)).mp w))]
                  by_cases y7 : kc k = 31
                  · rw [if_pos (by rw [y7]), decide_eq_true ⟨y4, Or.inr (Or.inr y7)⟩]; rfl
                  · rw [if_neg (fun w => y7 ((q_eq (by omega) (by omega)).mp w)), decide_eq_false (by omega)]; rfl
            · rw [if_neg (fun w => y4 ((q_eq (by omega) (by omega)).mp w)), decide_eq_false (by omega)]; rfl
        · rw [if_neg (fun w => y2 ((q_le (by omega) (by omega)).mp w)), decide_eq_true (Or.inr (by omega))]; rfl
      rw [e2, q_bd_some]
      cases hb : bad2 k v0 v1 with
      | true =>
        rw [if_pos (show bI (!true) = 0 from rfl), if_pos (show inB (nI 1) 3 = true from i13), g1.2]
        unfold badX
        rw [h1, hb, decide_eq_true z, if_neg (show ¬ false = true by simp), if_pos (show (true && true) = true from rfl)]
        rfl
      | false =>
        rw [if_neg (show ¬ bI (!false) = 0 by decide)]
        exact e75 h1 (by rw [hb, Bool.and_false])
    · rw [if_pos ((q_le (by omega) (by omega)).mpr (by omega))]
      exact e75 h1 (by rw [decide_eq_false z]; rfl)
  unfold f_X5_badPlace
  rw [if_pos t1, m0, m2, q_lit 40, gO 40, if_neg (fun y => n40 ((q_eq (by omega) (by omega)).mp y)), show (0 : Int32).toNatClampNeg = 0 from rfl]
  by_cases z : 1 ≤ kn k
  · have g0 := g 0 (by omega)
    rw [hv0] at g0
    have l0 := hv 0 (by omega)
    rw [hv0] at l0
    rw [if_neg (show ¬ nI (kn k) ≤ 0 from fun y => by have := (q_le (b := 0) (by omega) (by omega)).mp y; omega), if_pos i03, g0.1]
    unfold f_X3_firstCanBe
    rw [if_pos t1, m3]
    by_cases y : kfm k < v0
    · rw [if_pos ((q_lt (by omega) (by omega)).mpr y), q_bd_some, if_pos rfl, if_pos i03, g0.2]
      unfold badX
      rw [decide_eq_true ⟨z, y⟩, if_pos rfl]
      rfl
    · rw [if_neg (fun w => y ((q_lt (by omega) (by omega)).mp w)), q_bd_some, if_neg (by decide)]
      exact e41 (decide_eq_false (by omega))
  · rw [if_pos (show nI (kn k) ≤ 0 from (q_le (b := 0) (by omega) (by omega)).mpr (by omega))]
    exact e41 (decide_eq_false (by omega))
end CLS
