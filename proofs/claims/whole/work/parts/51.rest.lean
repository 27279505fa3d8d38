/-! RESTS and SPREAD, on both sides -/
/-- the first place of a property -/
def fst1 (p : Nat → Bool) : Nat → Option Nat
  | 0 => none
  | n + 1 => match fst1 p n with
    | some c => some c
    | none => if p n then some n else none
theorem fst1_hit {p : Nat → Bool} {n m : Nat} (h0 : fst1 p n = none) (hp : p n = true) (hm : n < m) : fst1 p m = some n := by
  induction m with
  | zero => omega
  | succ m ih =>
    unfold fst1
    by_cases h : n = m
    · subst h; rw [h0]; simp [hp]
    · rw [ih (by omega)]
theorem fst1_no {p : Nat → Bool} {n : Nat} (h0 : fst1 p n = none) (hp : p n = false) : fst1 p (n + 1) = none := by
  unfold fst1
  rw [h0]
  simp [hp]
theorem fst1_nos {p : Nat → Bool} {n m : Nat} (h0 : fst1 p n = none) (hm : n ≤ m) (hp : ∀ c, n ≤ c → c < m → p c = false) : fst1 p m = none := by
  induction m with
  | zero => rw [show n = 0 by omega] at h0; exact h0
  | succ m ih =>
    by_cases h : n = m + 1
    · rw [← h]; exact h0
    · exact fst1_no (ih (by omega) (fun c h1 h2 => hp c h1 (by omega))) (hp m (by omega) (by omega))
theorem cnt_nos {p : Nat → Bool} {n m : Nat} (hm : n ≤ m) (hp : ∀ c, n ≤ c → c < m → p c = false) : cnt p m = cnt p n := by
  induction m with
  | zero => rw [show n = 0 by omega]
  | succ m ih =>
    by_cases h : n = m + 1
    · rw [← h]
    · rw [show cnt p (m + 1) = cnt p m + (if p m then 1 else 0) from rfl, hp m (by omega) (by omega), ih (by omega) (fun c h1 h2 => hp c h1 (by omega))]
      rfl
def rst (P : Pal) (c : Nat) : Bool := (decide (c / 10 < pH P) && decide (c % 10 < pH P)) && restS P (c / 10) (c % 10)
def rstK (P : Pal) (k : Int32) (c : Nat) : Bool := rst P c && decide (nI (cnt (rst P) c) = k)
def restA (P : Pal) (k : Int32) : Int := match fst1 (rstK P k) 100 with
  | some c => c
  | none => if k = zI (-1) then (cnt (rst P) 100 : Nat) else -1
def sp_rest (T : Tol) (p k : Int32) : Int := match ix p (tz T 0) with
  | none => -1
  | some q => restA (tP T q) k
theorem rst_no {P : Pal} (h10 : pH P ≤ 10) {l : Nat} {c : Nat} (h1 : 10 * l + pH P ≤ c) (h2 : c < 10 * (l + 1)) : rst P c = false := by
  unfold rst
  rw [decide_eq_false (show ¬ c % 10 < pH P by omega)]
  simp
theorem rst_no2 {P : Pal} {c : Nat} (h1 : 10 * pH P ≤ c) : rst P c = false := by
  unfold rst
  rw [decide_eq_false (show ¬ c / 10 < pH P by omega)]
  simp
theorem rstK_no {P : Pal} {k : Int32} {c : Nat} (h : rst P c = false) : rstK P k c = false := by
  unfold rstK
  rw [h]
  rfl
section CLS
variable {M : PM} {T : Tol}
theorem c_rest (hT : rT M 1 T) (hz : tz T 0 ≤ 2) (p k : Int32) : f_X10_rest p k M = some (zI (sp_rest T p k), M) := by
  unfold f_X10_rest sp_rest
  rw [s_paletteAt hT hz, q_bd_some]
  cases h : ix p (tz T 0) with
  | none => rfl
  | some q =>
    obtain ⟨rfl, h1, -⟩ := ix_some h
    have hP := hT.pal (show q < 2 by omega)
    show (if hr_K (6 + 9 * q) = 3 then _ else none) = some (zI (restA (tP T q) k), M)
    rw [if_pos hP.1.1]
    generalize tP T q = P at hP ⊢
    have h10 : pH P ≤ 10 := hP.1.2.1
    have hr100 : ∀ c, cnt (rst P) c ≤ c := fun c => cnt_le _ _
    by_cases hk : -1 ≤ k
    · rw [if_pos hk]
      refine hr_for (σ := Int32) (fun f l s => f_X10_rest_26 (nI q) k f (6 + 9 * q) s (nI l) M) (pH P) (fun l s => s = nI (cnt (rst P) (10 * l)) ∧ fst1 (rstK P k) (10 * l) = none) (fun r => r = some (zI (restA P k), M)) ?_ ?_ FU 0 0 (Nat.zero_le _) (FU_ok (by omega)) ⟨rfl, rfl⟩
      · rintro f l s hl ⟨rfl, hf⟩
        show f_X10_rest_26 (nI q) k (f + 1) (6 + 9 * q) _ (nI l) M = _ ∨ ∃ s', f_X10_rest_26 (nI q) k (f + 1) (6 + 9 * q) _ (nI l) M = f_X10_rest_26 (nI q) k f (6 + 9 * q) s' (nI (l + 1)) M ∧ _
        rw [f_X10_rest_26.eq_2, hP.2.1.1]
        simp (disch := omega) only [q_lit, q_m1, q_m2, q_m1000, q_add, q_mul, q_cl, q_le, q_lt, q_eq, q_in, q_bd_some, eq_self, if_true, if_false, q_b0, q_b1, q_b01, q_bt, q_bf, q_ft, q_tf, Nat.mul_zero, Nat.add_zero, Nat.zero_add, or_true, true_or, not_true_eq_false, not_false_eq_true, reduceCtorEq, show ¬ pH P ≤ l by omega]
        refine hr_for (σ := Int32) (fun f' r s => f_X10_rest_38 (nI q) k (fun x3 x4 x5 M => f_X10_rest_26 (nI q) k f x3 x4 x5 M) f' (6 + 9 * q) s (nI l) (nI r) M) (pH P) (fun r s => s = nI (cnt (rst P) (10 * l + r)) ∧ fst1 (rstK P k) (10 * l + r) = none) (fun x => x = some (zI (restA P k), M) ∨ ∃ s', x = f_X10_rest_26 (nI q) k f (6 + 9 * q) s' (nI (l + 1)) M ∧ s' = nI (cnt (rst P) (10 * (l + 1))) ∧ fst1 (rstK P k) (10 * (l + 1)) = none) ?_ ?_ FU 0 _ (Nat.zero_le _) (FU_ok (by omega)) ⟨rfl, hf⟩
        · rintro f' r s hr ⟨rfl, hf⟩
          show (f_X10_rest_38 (nI q) k _ (f' + 1) (6 + 9 * q) _ (nI l) (nI r) M = _ ∨ _) ∨ ∃ s', f_X10_rest_38 (nI q) k _ (f' + 1) (6 + 9 * q) _ (nI l) (nI r) M = f_X10_rest_38 (nI q) k _ f' (6 + 9 * q) s' (nI l) (nI (r + 1)) M ∧ _
          rw [f_X10_rest_38.eq_2, hP.2.1.1]
          simp (disch := omega) only [q_lit, q_m1, q_m2, q_m1000, q_add, q_mul, q_cl, q_le, q_lt, q_eq, q_in, q_bd_some, eq_self, if_true, if_false, q_b0, q_b1, q_b01, q_bt, q_bf, q_ft, q_tf, Nat.mul_zero, Nat.add_zero, Nat.zero_add, or_true, true_or, not_true_eq_false, not_false_eq_true, reduceCtorEq, show ¬ pH P ≤ r by omega, s_isRest hP hl hr]
          have e : rst P (10 * l + r) = restS P l r := by
            unfold rst
            rw [show (10 * l + r) / 10 = l by omega, show (10 * l + r) % 10 = r by omega, decide_eq_true hl, decide_eq_true hr]
            rfl
          have ec : cnt (rst P) (10 * l + (r + 1)) = cnt (rst P) (10 * l + r) + (if rst P (10 * l + r) then 1 else 0) := rfl
          cases hb : restS P l r with
          | false =>
            right
            rw [if_pos rfl]
            refine ⟨_, rfl, ?_, fst1_no hf (rstK_no (e.trans hb))⟩
            rw [ec, e, hb]
            rfl
          | true =>
            rw [if_neg (by simp)]
            by_cases hkk : nI (cnt (rst P) (10 * l + r)) = k
            · left; left
              rw [if_pos hkk]
              unfold restA
              rw [fst1_hit (n := 10 * l + r) hf (by unfold rstK; rw [e, hb, decide_eq_true hkk]; rfl) (by omega)]
              show _ = some (zI ((10 * l + r : Nat) : Int), M)
              rw [q_nz]
            · right
              have hn : rstK P k (10 * l + r) = false := by
                unfold rstK
                rw [decide_eq_false hkk]
                simp
              rw [if_neg hkk]
              refine ⟨_, rfl, ?_, fst1_no hf hn⟩
              rw [ec, e, hb]
              rfl
        · rintro f' s ⟨rfl, hf⟩
          right
          refine ⟨_, ?_, rfl, fst1_nos hf (by omega) (fun c h1 h2 => rstK_no (rst_no h10 h1 h2))⟩
          show f_X10_rest_38 (nI q) k _ (f' + 1) (6 + 9 * q) _ (nI l) (nI (pH P)) M = _
          rw [f_X10_rest_38.eq_2, hP.2.1.1]
          simp (disch := omega) only [q_lit, q_m1, q_m2, q_m1000, q_add, q_mul, q_cl, q_le, q_lt, q_eq, q_in, q_bd_some, eq_self, if_true, if_false, q_b0, q_b1, q_b01, q_bt, q_bf, q_ft, q_tf, Nat.mul_zero, Nat.add_zero, Nat.zero_add, or_true, true_or, not_true_eq_false, not_false_eq_true, reduceCtorEq, Nat.le_refl]
          rw [cnt_nos (n := 10 * l + pH P) (m := 10 * (l + 1)) (by omega) (fun c h1 h2 => rst_no h10 h1 h2)]
      · rintro f s ⟨rfl, hf⟩
        show f_X10_rest_26 (nI q) k (f + 1) (6 + 9 * q) _ (nI (pH P)) M = _
        rw [f_X10_rest_26.eq_2, hP.2.1.1]
        simp (disch := omega) only [q_lit, q_m1, q_m2, q_m1000, q_add, q_mul, q_cl, q_le, q_lt, q_eq, q_in, q_bd_some, eq_self, if_true, if_false, q_b0, q_b1, q_b01, q_bt, q_bf, q_ft, q_tf, Nat.mul_zero, Nat.add_zero, Nat.zero_add, or_true, true_or, not_true_eq_false, not_false_eq_true, reduceCtorEq, Nat.le_refl]
        unfold restA
        rw [fst1_nos hf (show 10 * pH P ≤ 100 by omega) (fun c h1 h2 => rstK_no (rst_no2 h1)), cnt_nos (n := 10 * pH P) (m := 100) (by omega) (fun c h1 h2 => rst_no2 h1)]
        by_cases hk1 : k = zI (-1)
        · rw [if_pos hk1, if_pos hk1, q_nz]
        · rw [if_neg hk1, if_neg hk1]
    · rw [if_neg hk]
      have hneg : ∀ c, rstK P k c = false ∨ 2147483648 ≤ c := by
        intro c
        by_cases hc : c < 2147483648
        · left
          unfold rstK
          rw [decide_eq_false]
          · simp
          · rintro rfl
            apply hk
            have := hr100 c
            show -(nI 1) ≤ _
            rw [q_m1, q_znle (by omega) (by omega)]
            omega
        · right; omega
      unfold restA
      rw [fst1_nos (n := 0) rfl (Nat.zero_le _) (fun c h1 h2 => (hneg c).resolve_right (by omega)), if_neg]
      · rfl
      · rintro rfl
        apply hk
        exact Int32.le_refl _
end CLS
section MOD
variable {M : PM} {k : Nat} {P : Pal} {T : Tol}
theorem s_isRest11 (hH : hM M k P) {l r : Nat} (hl : l < pH P) (hr : r < pH P) : f_X11_isRest (nI l) (nI r) M = some (bI (restS P l r), M) := by
  have h10 : pH P ≤ 10 := hH.1.1.2.1
  have hok := hH.1.1.2
  unfold f_X11_isRest
  have e0 : ∀ a b, gainS P 0 a b = (pL P (10 * 0 + a) : Int) - 3 * (strH P a b : Nat) := fun a b => rfl
  have e1 : ∀ a b, gainS P 1 a b = (pL P (10 * 1 + b) : Int) - 3 * (strH P b a : Nat) := fun a b => by rw [strH_comm P b a]; rfl
  refine hr_for (σ := Unit) (fun f i _ => f_X11_isRest_2 (nI l) (nI r) f (nI i) M) (pH P) (fun i _ => exb (restB P l r) i = false) (fun q => q = some (bI (restS P l r), M)) ?_ ?_ FU 0 () (Nat.zero_le _) (FU_ok (by omega)) rfl
  · rintro f i - hi hno
    show (f_X11_isRest_2 (nI l) (nI r) (f + 1) (nI i) M = _) ∨ _
    have r1 := gainS_r hok 0 l r
    have r2 := gainS_r hok 0 i r
    have r3 := gainS_r hok 1 l r
    have r4 := gainS_r hok 1 l i
    rw [f_X11_isRest_2.eq_2, hH.2.1.2]
    have g0 : ∀ a b, a < pH P → b < pH P → f_X11_gainOf (nI 0) (nI a) (nI b) M = some (zI (gainS P 0 a b), M) := fun a b ha hb => s_gainOf11 hH (show 0 < 2 by omega) ha hb
    have g1 : ∀ a b, a < pH P → b < pH P → f_X11_gainOf (nI 1) (nI b) (nI a) M = some (zI (gainS P 1 a b), M) := fun a b ha hb => by
      rw [e1]
      exact s_gainOf11 hH (show 1 < 2 by omega) hb ha
    simp (disch := omega) only [q_lit, q_m1, q_m2, q_m1000, q_add, q_mul, q_cl, q_le, q_lt, q_eq, q_in, q_bd_some, eq_self, if_true, if_false, q_b0, q_b1, q_b01, q_bt, q_bf, q_ft, q_tf, Nat.mul_zero, Nat.add_zero, Nat.zero_add, or_true, true_or, not_true_eq_false, not_false_eq_true, reduceCtorEq, show ¬ pH P ≤ i by omega, g0, g1, q_zlt, q_zle]
    by_cases hb : restB P l r i = true
    · left
      have e : restS P l r = false := by
        unfold restS
        rw [exb_iff.mpr ⟨i, hi, hb⟩]
        rfl
      rw [e]
      unfold restB at hb
      simp only [Bool.or_eq_true, decide_eq_true_eq] at hb
      by_cases h1 : gainS P 0 l r < gainS P 0 i r
      · rw [if_pos h1]; rfl
      · rw [if_neg h1, if_neg (by omega)]; rfl
    · right
      refine ⟨(), ?_, ?_⟩
      · unfold restB at hb
        simp only [Bool.or_eq_true, decide_eq_true_eq] at hb
        rw [if_neg (by omega), if_pos (by omega)]
      · show (exb _ i || _) = false
        rw [hno]
        simpa using hb
  · rintro f - hno
    show f_X11_isRest_2 (nI l) (nI r) (f + 1) (nI (pH P)) M = _
    rw [f_X11_isRest_2.eq_2, hH.2.1.2]
    simp (disch := omega) only [q_lit, q_m1, q_m2, q_m1000, q_add, q_mul, q_cl, q_le, q_lt, q_eq, q_in, q_bd_some, eq_self, if_true, if_false, q_b0, q_b1, q_b01, q_bt, q_bf, q_ft, q_tf, Nat.mul_zero, Nat.add_zero, Nat.zero_add, or_true, true_or, not_true_eq_false, not_false_eq_true, reduceCtorEq, Nat.le_refl, restS, hno]
    rfl
theorem m_rest (hT : mT M 0 T) (ok : tOK T) (p k : Int32) : hw (f_X11_rest p k M) (fun v _ => v = zI (sp_rest T p k)) := by
  unfold f_X11_rest sp_rest
  refine hw.bd ((m_hand (hT.si (k := 0) (v := 0)) ok p).mono (fun v M' h => ?_))
  replace h := h.1
  cases hp : ix p (tz T 0) with
  | none =>
    rw [hp] at h
    rw [h.1]
    exact hw.ok rfl
  | some q =>
    rw [hp] at h
    obtain ⟨rfl, hH⟩ := h
    dsimp only
    generalize tP T q = P at hH ⊢
    have h10 : pH P ≤ 10 := hH.1.1.2.1
    have hr100 : ∀ c, cnt (rst P) c ≤ c := fun c => cnt_le _ _
    rw [if_neg (show ¬ nI 1 = 0 by decide)]
    refine hr_for (σ := Int32) (fun f c s => f_X11_rest_20 p k f s (nI c) M') 100 (fun c s => s = nI (cnt (rst P) c) ∧ fst1 (rstK P k) c = none) (fun r => hw r (fun v _ => v = zI (restA P k))) ?_ ?_ FU 0 0 (Nat.zero_le _) (FU_ok (by omega)) ⟨rfl, rfl⟩
    · rintro f c s hc ⟨rfl, hf⟩
      show hw (f_X11_rest_20 p k (f + 1) _ (nI c) M') _ ∨ ∃ s', f_X11_rest_20 p k (f + 1) _ (nI c) M' = f_X11_rest_20 p k f s' (nI (c + 1)) M' ∧ _
      rw [f_X11_rest_20.eq_2]
      simp (disch := omega) only [q_lit, q_m1, q_m2, q_m1000, q_add, q_mul, q_cl, q_le, q_lt, q_eq, q_in, q_bd_some, eq_self, if_true, if_false, q_b0, q_b1, q_b01, q_bt, q_bf, q_ft, q_tf, Nat.mul_zero, Nat.add_zero, Nat.zero_add, or_true, true_or, not_true_eq_false, not_false_eq_true, reduceCtorEq, show ¬ 100 ≤ c by omega, s_isCouple hH, q_div, q_rem]
      have ec : cnt (rst P) (c + 1) = cnt (rst P) c + (if rst P c then 1 else 0) := rfl
      cases hb : (decide (c / 10 < pH P) && decide (c % 10 < pH P)) with
      | false =>
        right
        have e : rst P c = false := by unfold rst; rw [hb]; rfl
        rw [if_pos rfl]
        refine ⟨_, rfl, ?_, fst1_no hf (rstK_no e)⟩
        rw [ec, e]
        rfl
      | true =>
        simp only [Bool.and_eq_true, decide_eq_true_eq] at hb
        have e : rst P c = restS P (c / 10) (c % 10) := by unfold rst; rw [decide_eq_true hb.1, decide_eq_true hb.2]; rfl
        rw [if_neg (by simp), s_isRest11 hH hb.1 hb.2, q_bd_some]
        simp (disch := omega) only [q_lit, q_m1, q_m2, q_m1000, q_add, q_mul, q_cl, q_le, q_lt, q_eq, q_in, q_bd_some, eq_self, if_true, if_false, q_b0, q_b1, q_b01, q_bt, q_bf, q_ft, q_tf, Nat.mul_zero, Nat.add_zero, Nat.zero_add, or_true, true_or, not_true_eq_false, not_false_eq_true, reduceCtorEq]
        cases hb2 : restS P (c / 10) (c % 10) with
        | false =>
          right
          rw [if_pos rfl]
          refine ⟨_, rfl, ?_, fst1_no hf (rstK_no (e.trans hb2))⟩
          rw [ec, e, hb2]
          rfl
        | true =>
          rw [if_neg (by simp)]
          by_cases hkk : nI (cnt (rst P) c) = k
          · left
            rw [if_pos hkk]
            refine hw.ok ?_
            unfold restA
            rw [fst1_hit hf (by unfold rstK; rw [e, hb2, decide_eq_true hkk]; rfl) hc, q_nz]
          · right
            rw [if_neg hkk]
            refine ⟨_, rfl, ?_, fst1_no hf (by unfold rstK; rw [decide_eq_false hkk]; simp)⟩
            rw [ec, e, hb2]
            rfl
    · rintro f s ⟨rfl, hf⟩
      show hw (f_X11_rest_20 p k (f + 1) _ (nI 100) M') _
      rw [f_X11_rest_20.eq_2]
      simp (disch := omega) only [q_lit, q_m1, q_m2, q_m1000, q_add, q_mul, q_cl, q_le, q_lt, q_eq, q_in, q_bd_some, eq_self, if_true, if_false, q_b0, q_b1, q_b01, q_bt, q_bf, q_ft, q_tf, Nat.mul_zero, Nat.add_zero, Nat.zero_add, or_true, true_or, not_true_eq_false, not_false_eq_true, reduceCtorEq, Nat.le_refl]
      unfold restA
      rw [hf]
      by_cases hk1 : k = zI (-1)
      · rw [if_pos hk1]
        refine hw.ok ?_
        show _ = zI (if k = zI (-1) then _ else _)
        rw [if_pos hk1, q_nz]
      · rw [if_neg hk1]
        refine hw.ok ?_
        show _ = zI (if k = zI (-1) then _ else _)
        rw [if_neg hk1]
end MOD
