/-! with a palette in hand -/
section MOD
variable {M : PM} {k : Nat} {P : Pal}
theorem s_isHue (hH : hM M k P) (x : Int32) : f_X11_isHue x M = some (bI (ix x (pH P)).isSome, M) := by
  have h10 : pH P ≤ 10 := hH.1.1.2.1
  unfold f_X11_isHue
  rw [hH.2.1.2]
  simp (disch := omega) only [q_lit, q_m1, q_m2, q_m1000, q_add, q_mul, q_cl, q_le, q_lt, q_eq, q_in, q_bd_some, eq_self, if_true, if_false, q_b0, q_b1, q_b01, q_bt, q_bf, q_ft, q_tf, Nat.mul_zero, Nat.add_zero, Nat.zero_add, or_true, true_or, not_true_eq_false, not_false_eq_true, reduceCtorEq, s_inS]
theorem s_clash (hH : hM M k P) {x y : Nat} (hx : x < pH P) (hy : y < pH P) : f_X11_clash (nI x) (nI y) M = some (bI (foe P x y), M) := by
  have h10 : pH P ≤ 10 := hH.1.1.2.1
  have h6 : pR P ≤ 6 := hH.1.1.2.2.1
  have hs := strH_le P x y
  unfold f_X11_clash
  simp (disch := omega) only [q_lit, q_m1, q_m2, q_m1000, q_add, q_mul, q_cl, q_le, q_lt, q_eq, q_in, q_bd_some, eq_self, if_true, if_false, q_b0, q_b1, q_b01, q_bt, q_bf, q_ft, q_tf, Nat.mul_zero, Nat.add_zero, Nat.zero_add, or_true, true_or, not_true_eq_false, not_false_eq_true, reduceCtorEq, hH.2.2 x y hx hy]
  unfold foe
  by_cases h0 : strH P x y ≤ 0
  · rw [if_pos h0, decide_eq_false (by omega)]; rfl
  · rw [if_neg h0, decide_eq_true (by omega)]; rfl
theorem s_mindsColour (hH : hM M k P) {h c : Nat} (hh : h < pH P) (hc : c < 1000) : f_X11_mindsColour (nI h) (nI c) M = some (nI (strC P h (c / 100) (c / 10 % 10) (c % 10)), lay3 (lay3 M 0 (pP P (3 * h)) (pP P (3 * h + 1)) (pP P (3 * h + 2))) 3 (c / 100) (c / 10 % 10) (c % 10)) := by
  unfold f_X11_mindsColour
  rw [show (0 : Int32) = nI 0 from rfl, s_layHue hH.1 hH.2.1.1 hh (Or.inl rfl), q_bd_some, show (3 : Int32) = nI 3 from rfl, s_layColour _ hc, q_bd_some, show (-1 : Int32) = zI (-1) from by decide]
  have hL : laid (lay3 (lay3 M 0 (pP P (3 * h)) (pP P (3 * h + 1)) (pP P (3 * h + 2))) 3 (c / 100) (c / 10 % 10) (c % 10)) (fun p => pP P (3 * h + p)) (fun p => if p = 0 then c / 100 else if p = 1 then c / 10 % 10 else c % 10) := lay3_laid M (fun p => pP P (3 * h + p)) (fun p => if p = 0 then c / 100 else if p = 1 then c / 10 % 10 else c % 10)
  have e := s_strength11 (hH.1.at (M' := lay3 (lay3 M 0 (pP P (3 * h)) (pP P (3 * h + 1)) (pP P (3 * h + 2))) 3 (c / 100) (c / 10 % 10) (c % 10)) (by rw [lay3_ne _ _ _ _ _ (by omega), lay3_ne _ _ _ _ _ (by omega)])) (by rw [lay3_ne _ _ _ _ _ (by omega), lay3_ne _ _ _ _ _ (by omega)]; exact hH.2.1.1) hL (fun p hp => ⟨pP_le hH.1.1.2 _, by rcases (show p = 0 ∨ p = 1 ∨ p = 2 by omega) with rfl | rfl | rfl <;> simp <;> omega⟩) (a := -1) (b := -1) (by omega) (by omega)
  rw [e, q_bd_some, rhoM_col hH.1.1.2]
theorem hM.lay (hH : hM M k P) (a x y z : Nat) : hM (lay3 M a x y z) k P := hH.at (lay3_ne _ _ _ _ _ (by omega)) (by rw [lay3_ne _ _ _ _ _ (by omega)]) (by rw [lay3_ne _ _ _ _ _ (by omega)]) (lay3_ne _ _ _ _ _ (by omega))
/-- memory but for what lies in both -/
def only289 (M M' : PM) : Prop := (∀ a, a ≠ 289 → M'.1 a = M.1 a) ∧ M'.2 = M.2
theorem only289.rf (M : PM) : only289 M M := ⟨fun _ _ => rfl, rfl⟩
theorem only289.tr {M M1 M2 : PM} (h : only289 M M1) (h2 : only289 M1 M2) : only289 M M2 := ⟨fun a ha => (h2.1 a ha).trans (h.1 a ha), h2.2.trans h.2⟩
theorem only289.lay (M : PM) (a x y z : Nat) : only289 M (lay3 M a x y z) := ⟨fun _ h => lay3_ne _ _ _ _ _ h, rfl⟩
theorem only289.hnd {M M' : PM} {k : Nat} {P : Pal} (h : only289 M M') (hH : hM M k P) : hM M' k P := hH.at (h.1 _ (by omega)) (by rw [h.1 _ (by omega)]) (by rw [h.1 _ (by omega)]) (h.1 _ (by omega))
theorem s_isBorne (hH : hM M k P) {c s : Nat} (hc : c < 1000) (hs : s < 2147483648) : hw (f_X11_isBorne (nI c) (nI s) M) (fun v M' => v = bI (decide (foesC P (c / 100) (c / 10 % 10) (c % 10) &&& s = 0)) ∧ only289 M M') := by
  have h10 : pH P ≤ 10 := hH.1.1.2.1
  have h6 : pR P ≤ 6 := hH.1.1.2.2.1
  unfold f_X11_isBorne
  let p : Nat → Bool := fun h => decide (0 < strC P h (c / 100) (c / 10 % 10) (c % 10)) && s.testBit h
  have key : ∀ h, h < pH P → (foesC P (c / 100) (c / 10 % 10) (c % 10) &&& s).testBit h = p h := by
    intro h hh
    rw [Nat.testBit_and, foesC, bset_bit, decide_eq_true hh]
    rfl
  refine hr_for (σ := PM) (fun f i s' => f_X11_isBorne_2 (nI c) (nI s) f (nI i) s') (pH P) (fun i s' => only289 M s' ∧ exb p i = false) (fun r => hw r (fun v M' => v = bI (decide (foesC P (c / 100) (c / 10 % 10) (c % 10) &&& s = 0)) ∧ only289 M M')) ?_ ?_ FU 0 M (Nat.zero_le _) (FU_ok (by omega)) ⟨only289.rf M, rfl⟩
  · rintro f i s' hi ⟨g1, g2⟩
    have hH' := g1.hnd hH
    have hl : strC P i (c / 100) (c / 10 % 10) (c % 10) ≤ pR P := str0_le _ _
    show hw (f_X11_isBorne_2 (nI c) (nI s) (f + 1) (nI i) s') _ ∨ ∃ s'', f_X11_isBorne_2 (nI c) (nI s) (f + 1) (nI i) s' = f_X11_isBorne_2 (nI c) (nI s) f (nI (i + 1)) s'' ∧ _
    rw [f_X11_isBorne_2.eq_2, hH'.2.1.2]
    simp (disch := omega) only [q_lit, q_m1, q_m2, q_m1000, q_add, q_mul, q_cl, q_le, q_lt, q_eq, q_in, q_bd_some, eq_self, if_true, if_false, q_b0, q_b1, q_b01, q_bt, q_bf, q_ft, q_tf, Nat.mul_zero, Nat.add_zero, Nat.zero_add, or_true, true_or, not_true_eq_false, not_false_eq_true, reduceCtorEq, show ¬ pH P ≤ i by omega, s_has11 s' hs (show i < 32 by omega), s_mindsColour hH' hi hc]
    cases hb : s.testBit i with
    | false =>
      right
      rw [if_pos rfl]
      refine ⟨s', rfl, g1, ?_⟩
      show (exb p i || p i) = false
      rw [g2]
      show (false || (_ && s.testBit i)) = false
      rw [hb]
      simp
    | true =>
      rw [if_neg (by simp)]
      have g3 := (g1.tr (only289.lay s' 0 (pP P (3 * i)) (pP P (3 * i + 1)) (pP P (3 * i + 2)))).tr (only289.lay _ 3 (c / 100) (c / 10 % 10) (c % 10))
      by_cases h0 : strC P i (c / 100) (c / 10 % 10) (c % 10) ≤ 0
      · right
        rw [if_pos h0]
        refine ⟨_, rfl, g3, ?_⟩
        show (exb p i || p i) = false
        rw [g2]
        show (false || (decide (0 < strC P i (c / 100) (c / 10 % 10) (c % 10)) && s.testBit i)) = false
        rw [decide_eq_false (by omega)]
        rfl
      · left
        rw [if_neg h0]
        refine hw.ok ⟨?_, g3⟩
        rw [decide_eq_false]
        · rfl
        · intro z
          have hk := key i hi
          rw [z, Nat.zero_testBit] at hk
          have : p i = true := by
            show (decide (0 < strC P i (c / 100) (c / 10 % 10) (c % 10)) && s.testBit i) = true
            rw [decide_eq_true (by omega), hb]; rfl
          rw [this] at hk
          cases hk
  · rintro f s' ⟨g1, g2⟩
    have hH' := g1.hnd hH
    show hw (f_X11_isBorne_2 (nI c) (nI s) (f + 1) (nI (pH P)) s') _
    rw [f_X11_isBorne_2.eq_2, hH'.2.1.2]
    simp (disch := omega) only [q_lit, q_m1, q_m2, q_m1000, q_add, q_mul, q_cl, q_le, q_lt, q_eq, q_in, q_bd_some, eq_self, if_true, if_false, q_b0, q_b1, q_b01, q_bt, q_bf, q_ft, q_tf, Nat.mul_zero, Nat.add_zero, Nat.zero_add, or_true, true_or, not_true_eq_false, not_false_eq_true, reduceCtorEq, Nat.le_refl]
    refine hw.ok ⟨?_, g1⟩
    rw [decide_eq_true]
    · rfl
    · apply Nat.eq_of_testBit_eq
      intro i
      rw [Nat.zero_testBit]
      by_cases hi : i < pH P
      · rw [key i hi]
        exact exb_no.mp g2 i hi
      · rw [Nat.testBit_and, foesC, bset_bit, decide_eq_false hi]
        rfl
end MOD
