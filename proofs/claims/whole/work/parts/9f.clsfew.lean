/-! DINNERS: the fewest hues, by the class -/
/-- hues that are reached next, so far -/
def acS (P : Pal) (R : Rol) (s r k : Nat) : Nat → Nat
  | 0 => 0
  | h + 1 => if r.testBit h then acS P R s r k h ||| bd (s &&& gw R k) (foes P h) else acS P R s r k h
theorem acS_bit {P : Pal} {R : Rol} {s r k j : Nat} : ∀ n, (acS P R s r k n).testBit j = exb (fun h => r.testBit h && ((s &&& gw R k).testBit j && !(foes P h).testBit j)) n := by
  intro n
  induction n with
  | zero => exact Nat.zero_testBit j
  | succ n ih =>
    have e : exb (fun h => r.testBit h && ((s &&& gw R k).testBit j && !(foes P h).testBit j)) (n + 1) = (exb (fun h => r.testBit h && ((s &&& gw R k).testBit j && !(foes P h).testBit j)) n || (r.testBit n && ((s &&& gw R k).testBit j && !(foes P n).testBit j))) := rfl
    have ea : acS P R s r k (n + 1) = if r.testBit n then acS P R s r k n ||| bd (s &&& gw R k) (foes P n) else acS P R s r k n := rfl
    rw [e, ← ih, ea]
    cases r.testBit n with
    | false => rw [if_neg (by simp), Bool.false_and, Bool.or_false]
    | true => rw [if_pos rfl, Nat.testBit_or, bd_bit, Bool.true_and]
theorem acS_lt {P : Pal} {R : Rol} {s r k : Nat} {m : Nat} (hs : s < 2 ^ m) : ∀ n, acS P R s r k n < 2 ^ m := by
  intro n
  induction n with
  | zero => exact Nat.two_pow_pos _
  | succ n ih =>
    unfold acS
    split
    · exact Nat.or_lt_two_pow ih (Nat.lt_of_le_of_lt (bd_le _ _) (Nat.lt_of_le_of_lt Nat.and_le_left hs))
    · exact ih
theorem acS_all {P : Pal} {R : Rol} {s f k : Nat} (hs : s < 2 ^ pH P) : acS P R s (rcs P R s f k) (k + 1) (pH P) = rcs P R s f (k + 1) := by
  apply Nat.eq_of_testBit_eq
  intro j
  rw [acS_bit]
  by_cases hj : j < pH P
  · have er : rcs P R s f (k + 1) = bset (fun j => (gw R (k + 1) &&& s).testBit j && exb (fun h => (rcs P R s f k).testBit h && !foe P h j) (pH P)) (pH P) := rfl
    rw [er, bset_bit, decide_eq_true hj, Bool.true_and, Nat.and_comm s]
    cases hb : (gw R (k + 1) &&& s).testBit j with
    | false =>
      rw [Bool.false_and]
      refine exb_no.mpr (fun h _ => by rw [Bool.false_and, Bool.and_false])
    | true =>
      rw [Bool.true_and]
      refine exb_congr (fun h hh => ?_)
      rw [Bool.true_and]
      unfold foes
      rw [bset_bit, decide_eq_true hj]
      rfl
  · have h1 : (rcs P R s f (k + 1)).testBit j = false := by
      unfold rcs
      rw [bset_bit, decide_eq_false hj, Bool.false_and]
    rw [h1]
    refine exb_no.mpr (fun h _ => ?_)
    have : s.testBit j = false := Nat.testBit_lt_two_pow (Nat.lt_of_lt_of_le hs (Nat.pow_le_pow_right (by decide) (by omega)))
    rw [Nat.testBit_and, this, Bool.false_and, Bool.false_and, Bool.and_false]
section CLS
variable {a b : Nat} {P : Pal} {R : Rol} {M : PM}
theorem s_canDressFrom (hP : rP M a P) (hR : rR M b R) (hO : nOK P R) {s f : Nat} (hs : s < 2 ^ pH P) (hf : f < pH P) (h1 : 1 ≤ oN R) : f_X7_canDressFrom a b (nI s) (nI f) M = some (bI (decide (0 < dV P R (bC P f) s (oN R - 1) f)), M) := by
  have h10 := hP.1.2.1
  have h8 : oN R ≤ 8 := hO.2.1.1
  have h3 : 2 ^ pH P ≤ 2 ^ 10 := Nat.pow_le_pow_right (by decide) h10
  have e86 : ∀ r, r < 1024 → f_X7_canDressFrom_86 a b (nI s) (nI f) (nI r) M = some (bI (decide (bd r (foes P f) ≠ 0)), M) := by
    intro r hr
    have bl := bd_le r (foes P f)
    unfold f_X7_canDressFrom_86
    rw [s_foesOf hP hf, q_bd_some, show (-1 : Int32) = zI (-1) by decide, q_bd]
    by_cases z : bd r (foes P f) = 0
    · rw [if_pos (show nI (bd r (foes P f)) = 0 by rw [z]; rfl), decide_eq_false (fun y => y z)]; rfl
    · rw [if_neg (show ¬ nI (bd r (foes P f)) = 0 from fun y => z ((q_eq (b := 0) (by omega) (by omega)).mp y)), decide_eq_true z]; rfl
  have hp2 := pow_lt (show f < 10 by omega)
  unfold f_X7_canDressFrom
  rw [if_pos hP.1.1, if_pos hR.1, q_lit 1, gO 1, q_jl (by omega)]
  refine hr_for (σ := Unit) (fun g k _ => f_X7_canDressFrom_8 a b (nI s) (nI f) g (nI (rcs P R s f (k - 1))) (nI k) M) (oN R) (fun k _ => 1 ≤ k) (fun r => r = some (bI (decide (0 < dV P R (bC P f) s (oN R - 1) f)), M)) ?_ ?_ FU 1 () h1 (FU_ok (by omega)) (Nat.le_refl _)
  · intro g k _ hk k1
    obtain ⟨k, rfl⟩ : ∃ j, k = j + 1 := ⟨k - 1, by omega⟩
    have rl := rcs_lt (P := P) (R := R) (s := s) hf k
    have gl := gw_lt hO hk
    have e1 : M.1 (b + 2) (k + 1) = nI (gw R (k + 1)) := by rw [(hR.2.2 _ hk).2.1, (hO.2.2 _ hk).2]
    show f_X7_canDressFrom_8 a b (nI s) (nI f) (g + 1) (nI (rcs P R s f (k + 1 - 1))) (nI (k + 1)) M = _ ∨ ∃ _ : Unit, f_X7_canDressFrom_8 a b (nI s) (nI f) (g + 1) (nI (rcs P R s f (k + 1 - 1))) (nI (k + 1)) M = f_X7_canDressFrom_8 a b (nI s) (nI f) g (nI (rcs P R s f (k + 1 + 1 - 1))) (nI (k + 1 + 1)) M ∧ _
    rw [show k + 1 - 1 = k by omega, show k + 1 + 1 - 1 = k + 1 by omega, f_X7_canDressFrom_8.eq_2, hR.2.1.1, if_neg (fun z => by have := (q_le (by omega) (by omega)).mp z; omega)]
    by_cases z : rcs P R s f k = 0
    · left
      rw [if_pos (show nI (rcs P R s f k) = 0 by rw [z]; rfl), e86 _ (by omega), z]
      have n1 : ¬ 0 < dV P R (bC P f) s (oN R - 1) f := fun y => by
        obtain ⟨h, -, h2, -⟩ := (rcs_way hf k (by omega)).mpr y
        rw [z, Nat.zero_testBit] at h2
        cases h2
      have b0 : bd 0 (foes P f) = 0 := by have := bd_le 0 (foes P f); omega
      rw [decide_eq_false n1, decide_eq_false (fun y => y b0)]
    · right
      rw [if_neg (show ¬ nI (rcs P R s f k) = 0 from fun y => z ((q_eq (b := 0) (by omega) (by omega)).mp y))]
      refine ⟨(), ?_, by omega⟩
      refine hr_for (σ := Unit) (fun g2 h _ => f_X7_canDressFrom_28 a b (nI s) (nI f) (fun x4 x5 M => f_X7_canDressFrom_8 a b (nI s) (nI f) g x4 x5 M) g2 (nI (rcs P R s f k)) (nI (k + 1)) (nI (acS P R s (rcs P R s f k) (k + 1) h)) (nI h) M) (pH P) (fun _ _ => True) (fun r => r = _) ?_ ?_ FU 0 () (Nat.zero_le _) (FU_ok (by omega)) trivial
      · intro g2 h _ hh _
        right
        refine ⟨(), ?_, trivial⟩
        have ea : acS P R s (rcs P R s f k) (k + 1) (h + 1) = if (rcs P R s f k).testBit h then acS P R s (rcs P R s f k) (k + 1) h ||| bd (s &&& gw R (k + 1)) (foes P h) else acS P R s (rcs P R s f k) (k + 1) h := rfl
        show f_X7_canDressFrom_28 a b (nI s) (nI f) _ (g2 + 1) (nI (rcs P R s f k)) (nI (k + 1)) (nI (acS P R s (rcs P R s f k) (k + 1) h)) (nI h) M = f_X7_canDressFrom_28 a b (nI s) (nI f) _ g2 (nI (rcs P R s f k)) (nI (k + 1)) (nI (acS P R s (rcs P R s f k) (k + 1) (h + 1))) (nI (h + 1)) M
        rw [f_X7_canDressFrom_28.eq_2, hP.2.1.1, if_neg (fun z => by have := (q_le (by omega) (by omega)).mp z; omega), s_holdsBit M (by omega) (by omega), q_bd_some, if_pos (q_in (by omega) (by omega)), q_cl (by omega), s_foesOf hP hh, q_bd_some, e1, q_and, show (-1 : Int32) = zI (-1) by decide, q_bd, q_or, q_lit 1, gO 1, q_add, ea]
        cases (rcs P R s f k).testBit h with
        | false => rw [if_pos (show bI false = 0 from rfl)]; rfl
        | true => rw [if_neg (show ¬ bI true = 0 by decide)]; rfl
      · intro g2 _ _
        show f_X7_canDressFrom_28 a b (nI s) (nI f) _ (g2 + 1) (nI (rcs P R s f k)) (nI (k + 1)) (nI (acS P R s (rcs P R s f k) (k + 1) (pH P))) (nI (pH P)) M = _
        rw [f_X7_canDressFrom_28.eq_2, hP.2.1.1, if_pos (Int32.le_refl _), acS_all hs, q_lit 1, gO 1, q_add]
  · intro g _ _
    have rl := rcs_lt (P := P) (R := R) (s := s) hf (oN R - 1)
    show f_X7_canDressFrom_8 a b (nI s) (nI f) (g + 1) (nI (rcs P R s f (oN R - 1))) (nI (oN R)) M = _
    rw [f_X7_canDressFrom_8.eq_2, hR.2.1.1, if_pos (Int32.le_refl _), e86 _ (by omega), decide_eq_decide.mpr (rcs_end hf h1)]
theorem s_canDress (hP : rP M a P) (hR : rR M b R) (hO : nOK P R) {s : Nat} (hs : s < 2 ^ pH P) (h1 : 1 ≤ oN R) : f_X7_canDress a b (nI s) M = some (bI (decide (0 < dW P R s)), M) := by
  have h10 := hP.1.2.1
  have h8 : oN R ≤ 8 := hO.2.1.1
  have h3 : 2 ^ pH P ≤ 2 ^ 10 := Nat.pow_le_pow_right (by decide) h10
  unfold f_X7_canDress
  rw [if_pos hP.1.1, if_pos hR.1]
  refine hr_for (σ := Unit) (fun g k _ => f_X7_canDress_2 a b (nI s) g (nI k) M) (oN R) (fun _ _ => True) (fun r => r = some (bI (decide (0 < dW P R s)), M)) ?_ ?_ FU 0 () (Nat.zero_le _) (FU_ok (by omega)) trivial
  · intro g k _ hk _
    have gl := gw_lt hO hk
    have al : gw R k &&& s ≤ s := Nat.and_le_right
    have e1 : M.1 (b + 2) k = nI (gw R k) := by rw [(hR.2.2 _ hk).2.1, (hO.2.2 _ hk).2]
    show f_X7_canDress_2 a b (nI s) (g + 1) (nI k) M = _ ∨ ∃ _ : Unit, f_X7_canDress_2 a b (nI s) (g + 1) (nI k) M = f_X7_canDress_2 a b (nI s) g (nI (k + 1)) M ∧ True
    rw [f_X7_canDress_2.eq_2, hR.2.1.1, if_neg (fun z => by have := (q_le (by omega) (by omega)).mp z; omega), if_pos (q_in (by omega) (by omega)), q_cl (by omega), e1, q_and, q_lit 1, gO 1, q_add]
    by_cases z : gw R k &&& s = 0
    · left
      rw [if_pos (show nI (gw R k &&& s) = 0 by rw [z]; rfl), decide_eq_false (fun y => dW_each h1 y k hk z)]
      rfl
    · right
      rw [if_neg (show ¬ nI (gw R k &&& s) = 0 from fun y => z ((q_eq (b := 0) (by omega) (by omega)).mp y))]
      exact ⟨(), rfl, trivial⟩
  · intro g _ _
    show f_X7_canDress_2 a b (nI s) (g + 1) (nI (oN R)) M = _
    rw [f_X7_canDress_2.eq_2, hR.2.1.1, if_pos (Int32.le_refl _)]
    have e1 : M.1 (b + 2) 0 = nI (gw R 0) := by rw [(hR.2.2 0 (by omega)).2.1, (hO.2.2 0 (by omega)).2]
    have al : s &&& gw R 0 ≤ s := Nat.and_le_left
    refine hr_for (σ := Unit) (fun g f _ => f_X7_canDress_31 a b (nI s) g (nI f) M) (pH P) (fun f _ => ∀ j, j < f → dT P R s j = 0) (fun r => r = some (bI (decide (0 < dW P R s)), M)) ?_ ?_ FU 0 () (Nat.zero_le _) (FU_ok (by omega)) (fun j hj => by omega)
    · intro g f _ hf hno
      show f_X7_canDress_31 a b (nI s) (g + 1) (nI f) M = _ ∨ ∃ _ : Unit, f_X7_canDress_31 a b (nI s) (g + 1) (nI f) M = f_X7_canDress_31 a b (nI s) g (nI (f + 1)) M ∧ _
      rw [f_X7_canDress_31.eq_2, hP.2.1.1, if_neg (fun z => by have := (q_le (by omega) (by omega)).mp z; omega), if_pos (show inB 0 40 = true from q_in (i := 0) (by omega) (by omega)), show (0 : Int32).toNatClampNeg = 0 from rfl, e1, q_and, s_holdsBit M (by omega) (by omega), q_bd_some, q_lit 1, gO 1, q_add]
      have go : dT P R s f = 0 → ∀ j, j < f + 1 → dT P R s j = 0 := fun z j hj => by
        by_cases e : j = f
        · rw [e]; exact z
        · exact hno j (by omega)
      cases hb : (s &&& gw R 0).testBit f with
      | false =>
        right
        rw [if_pos (show bI false = 0 from rfl)]
        refine ⟨(), rfl, go ?_⟩
        unfold dT
        rw [Nat.and_comm, hb, if_neg (by simp)]
      | true =>
        rw [if_neg (show ¬ bI true = 0 by decide), s_canDressFrom hP hR hO hs hf h1, q_bd_some]
        by_cases z : 0 < dV P R (bC P f) s (oN R - 1) f
        · left
          rw [decide_eq_true z, if_neg (show ¬ bI true = 0 by decide), decide_eq_true ((dW_pos h1).mpr ⟨f, hf, dT_pos.mpr ⟨by rw [Nat.and_comm]; exact hb, z⟩⟩)]
          rfl
        · right
          rw [decide_eq_false z, if_pos (show bI false = 0 from rfl)]
          refine ⟨(), rfl, go ?_⟩
          refine Classical.byContradiction (fun y => z (dT_pos.mp (show 0 < dT P R s f by omega)).2)
    · intro g _ hno
      show f_X7_canDress_31 a b (nI s) (g + 1) (nI (pH P)) M = _
      rw [f_X7_canDress_31.eq_2, hP.2.1.1, if_pos (Int32.le_refl _), decide_eq_false (fun y => by
        obtain ⟨f, f1, f2⟩ := (dW_pos h1).mp y
        have := hno f f1
        omega)]
      rfl
theorem s_fewestHues (hP : rP M a P) (hR : rR M b R) (hO : nOK P R) : f_X7_fewestHues a b M = some (nI (dFew P R), M) := by
  have h10 := hP.1.2.1
  have h8 : oN R ≤ 8 := hO.2.1.1
  have h2 : 1 ≤ 2 ^ pH P := Nat.one_le_two_pow
  have h3 : 2 ^ pH P ≤ 2 ^ 10 := Nat.pow_le_pow_right (by decide) h10
  let F : Nat → Nat := fun s => if 0 < dW P R s then popc s else oN R
  have e0 : nI (oN R) = nI (lsN (oN R) F 1) := by
    congr 1
    show oN R = min (oN R) (F 0)
    by_cases z : oN R = 0
    · rw [z]; omega
    · have : F 0 = oN R := by
        show (if 0 < dW P R 0 then popc 0 else oN R) = oN R
        rw [if_neg]
        intro y
        have := dW_each (by omega) y 0 (by omega)
        rw [Nat.and_zero] at this
        exact this rfl
      rw [this]; omega
  unfold f_X7_fewestHues
  rw [if_pos hP.1.1, if_pos hR.1, hR.2.1.1, e0]
  refine hr_for (σ := Unit) (fun g s _ => f_X7_fewestHues_8 a b g (nI (lsN (oN R) F s)) (nI s) M) (2 ^ pH P) (fun s _ => 1 ≤ s) (fun r => r = some (nI (dFew P R), M)) ?_ ?_ FU 1 () h2 (FU_ok (by omega)) (Nat.le_refl _)
  · intro g s _ hs s1
    right
    refine ⟨(), ?_, by omega⟩
    have ll := (lsN_le (b := oN R) (f := F) (n := s)).1
    have pl := popc_le s
    have es : lsN (oN R) F (s + 1) = min (lsN (oN R) F s) (F s) := rfl
    show f_X7_fewestHues_8 a b (g + 1) (nI (lsN (oN R) F s)) (nI s) M = f_X7_fewestHues_8 a b g (nI (lsN (oN R) F (s + 1))) (nI (s + 1)) M
    rw [f_X7_fewestHues_8.eq_2, s_all hP, q_bd_some, if_neg (fun z => by have := (q_lt (by omega) (by omega)).mp z; omega), s_bitCount (by omega), q_bd_some, q_lit 1, gO 1, q_add, es]
    have eF : F s = if 0 < dW P R s then popc s else oN R := rfl
    by_cases z : lsN (oN R) F s ≤ popc s
    · rw [if_pos ((q_le (by omega) (by omega)).mpr z), Nat.min_eq_left]
      rw [eF]
      split <;> omega
    · rw [if_neg (fun y => z ((q_le (by omega) (by omega)).mp y)), s_canDress hP hR hO hs (by omega), q_bd_some, s_bitCount (by omega), q_bd_some]
      by_cases z2 : 0 < dW P R s
      · rw [decide_eq_true z2, if_neg (show ¬ bI true = 0 by decide), Nat.min_eq_right (by rw [eF, if_pos z2]; omega), eF, if_pos z2]
      · rw [decide_eq_false z2, if_pos (show bI false = 0 from rfl), Nat.min_eq_left (by rw [eF, if_neg z2]; omega)]
  · intro g _ _
    show f_X7_fewestHues_8 a b (g + 1) (nI (lsN (oN R) F (2 ^ pH P))) (nI (2 ^ pH P)) M = _
    rw [f_X7_fewestHues_8.eq_2, s_all hP, q_bd_some, if_pos ((q_lt (by omega) (by omega)).mpr (by omega))]
    rfl
end CLS
theorem dW_le {P : Pal} {R : Rol} (h10 : pH P ≤ 10) (h8 : oN R ≤ 8) (s : Nat) : dW P R s ≤ 100000000 := by
  unfold dW
  split
  · omega
  · have := dTs_le h10 h8 s (pH P)
    have : pH P * 10000000 ≤ 10 * 10000000 := Nat.mul_le_mul_right _ h10
    omega
theorem c_dinner {M : PM} {T : Tol} (hT : rT M 1 T) (ok : tOK T) (p g w : Int32) : hw (f_X10_dinner p g w M) (fun v _ => v = sp_dinner T p g w) := by
  have hz := ok.2.2.1
  have z0 := hz 0 (by omega)
  have z4 := hz 4 (by omega)
  unfold f_X10_dinner sp_dinner
  rw [s_paletteAt hT z0, q_bd_some, show (4 : Int32) = nI 4 from rfl, show (-1 : Int32) = zI (-1) by decide]
  cases hp : ix p (tz T 0) with
  | none =>
    dsimp only
    rw [s_rollAt hT (by omega) (by omega) z4, q_bd_some]
    cases hg : ix g (tz T 4) with
    | none => exact hw.ok rfl
    | some g =>
      dsimp only
      obtain ⟨rfl, lg, -⟩ := ix_some hg
      have hR := hT.rol (s := 4) (by omega) (by omega) lg
      rw [if_pos hR.1, g_nr hR.1, q_bd_some, if_pos (show nI 0 = 0 from rfl)]
      exact hw.ok rfl
  | some p =>
    dsimp only
    obtain ⟨rfl, lp, -⟩ := ix_some hp
    have hP := hT.pal (show p < 2 by omega)
    rw [if_pos hP.1.1, s_rollAt hT (by omega) (by omega) z4, q_bd_some]
    cases hg : ix g (tz T 4) with
    | none =>
      dsimp only
      rw [g_rn hP.1.1, q_bd_some, if_pos (show nI 0 = 0 from rfl)]
      exact hw.ok rfl
    | some g =>
      dsimp only
      obtain ⟨rfl, lg, -⟩ := ix_some hg
      have hR := hT.rol (s := 4) (by omega) (by omega) lg
      have oR := ok.2.2.2.2 4 g (by omega) (by omega) lg
      have h8 : oN (tR T 4 g) ≤ 8 := oR.1
      rw [if_pos hR.1, s_goTogether hP hR (oS_lt (Or.inr (Or.inr rfl)) oR), q_bd_some]
      cases ht : tog (tP T p) (tR T 4 g) with
      | false =>
        rw [if_pos (show bI false = 0 from rfl), if_neg (by simp)]
        exact hw.ok rfl
      | true =>
        have hO := nOK.of hP.1.2 oR ht
        obtain ⟨M1, g1, g2, g3, g4⟩ := s_seat hP (by omega) hR (by omega) hO
        have hP1 := rP_ag hP g2 (Nat.zero_le _) (by omega)
        have hR1 := rR_ag hR g2 (Nat.zero_le _) (by omega)
        have wl := dW_le hO.1.1 h8 1023
        rw [if_neg (show ¬ bI true = 0 by decide), if_pos rfl, g1, q_bd_some, g3]
        unfold dinS
        by_cases z : dW (tP T p) (tR T 4 g) 1023 = 0
        · rw [if_pos ((lci0 (by omega)).mpr z), if_pos z]
          exact hw.ok rfl
        · rw [if_neg (fun y => z ((lci0 (by omega)).mp y)), if_neg z]
          by_cases w0 : w = nI 0
          · rw [if_pos (show w = 0 from w0), if_pos w0, s_fewestHues hP1 hR1 hO, q_bd_some]
            exact hw.ok rfl
          · rw [if_neg (show ¬ w = 0 from w0), if_neg w0]
            by_cases w10 : w < nI 10
            · rw [if_pos (show w < 10 from w10), if_pos w10]; exact hw.ok rfl
            rw [if_neg (show ¬ w < 10 from w10), if_neg w10]
            rcases q_any w with h0 | ⟨m, h1, rfl⟩
            · exact absurd (q_neg_lt h0 (k := 10) (by omega)) w10
            · rw [q_lt h1 (by omega)] at w10
              rw [q_cl h1, hR1.2.1.1, q_lit 10, gO 10, q_add, q_sub (show 10 ≤ m by omega)]
              by_cases hm : m - 10 < oN (tR T 4 g)
              · rw [if_neg (fun z => by have := (q_le (by omega) (by omega)).mp z; omega), if_pos (q_in (by omega) (by omega)), q_cl (by omega), if_pos hm, g4 (by omega) (by omega) _ hm]
                exact hw.ok rfl
              · rw [if_pos ((q_le (by omega) (by omega)).mpr (by omega)), if_neg hm]
                exact hw.ok rfl
