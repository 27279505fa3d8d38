/-! FLAGS, by the class -/
section CLS
variable {P : Pal} {n : Nat} {hs nu : Nat → Nat}
theorem s_couple54 {M0 M : PM} (h : cK M0 P n hs nu) (hf0 : hr_fr [(246, 0), (240, 12), (248, 0)] M0 M) (hm : mkM M 246 (eF P hs) n (2 ^ n)) (hc : M.1 240 11 = nI (mcS (eF P hs) n (2 ^ n - 1))) : ∃ M', f_X1_couple_54 FU (nI (2 ^ n - 1)) (nI 0) M = some ((), M') ∧ cpl M' (eF P hs) n ∧ hr_fr [(246, 0), (240, 12), (248, 0)] M0 M' := by
  have h10 := h.1.1
  refine hr_for (σ := PM) (fun f k N => f_X1_couple_54 f (nI (2 ^ n - 1)) (nI k) N) n (fun k N => (mkM N 246 (eF P hs) n (2 ^ n) ∧ N.1 240 11 = nI (mcS (eF P hs) n (2 ^ n - 1)) ∧ ∀ j, j < k → N.1 248 j = zI (-1)) ∧ hr_fr [(246, 0), (240, 12), (248, 0)] M0 N) (fun r => ∃ M', r = some ((), M') ∧ cpl M' (eF P hs) n ∧ hr_fr [(246, 0), (240, 12), (248, 0)] M0 M') ?_ ?_ FU 0 M (Nat.zero_le _) (FU_ok (by omega)) ⟨⟨hm, hc, fun j hj => by omega⟩, hf0⟩
  · rintro f k N hk ⟨⟨hm, hc, ha⟩, hf⟩
    right
    have hK : cK N P n hs nu := h.fr hf rfl (fun _ => rfl) (fun _ => rfl) (fun _ => rfl)
    show ∃ s', f_X1_couple_54 (f + 1) (nI (2 ^ n - 1)) (nI k) N = f_X1_couple_54 f (nI (2 ^ n - 1)) (nI (k + 1)) s' ∧ _
    rw [f_X1_couple_54.eq_2]
    simp (disch := omega) only [q_lit, q_m1, q_m2, q_m1000, q_add, q_mul, q_cl, q_le, q_lt, q_eq, q_in, q_bd_some, eq_self, if_true, if_false, q_b0, q_b1, q_b01, q_bt, q_bf, q_ft, q_tf, Nat.mul_zero, Nat.add_zero, Nat.zero_add, or_true, true_or, not_true_eq_false, not_false_eq_true, reduceCtorEq, hK.1.2, show ¬ n ≤ k by omega]
    refine ⟨_, rfl, ⟨?_, ?_, ?_⟩, hr_fr.si rfl hf⟩
    · intro t ht
      rw [si_ne _ _ _ (show 246 ≠ 248 by omega)]
      exact hm t ht
    · rw [si_ne _ _ _ (show 240 ≠ 248 by omega)]
      exact hc
    · intro j hj
      rw [si_same]
      by_cases e : j = k
      · rw [if_pos e]
      · rw [if_neg e]; exact ha j (by omega)
  · rintro f N ⟨⟨hm, hc, ha⟩, hf⟩
    have hK : cK N P n hs nu := h.fr hf rfl (fun _ => rfl) (fun _ => rfl) (fun _ => rfl)
    show ∃ M', f_X1_couple_54 (f + 1) (nI (2 ^ n - 1)) (nI n) N = _ ∧ _
    rw [f_X1_couple_54.eq_2]
    simp (disch := omega) only [q_lit, q_m1, q_m2, q_m1000, q_add, q_mul, q_cl, q_le, q_lt, q_eq, q_in, q_bd_some, eq_self, if_true, if_false, q_b0, q_b1, q_b01, q_bt, q_bf, q_ft, q_tf, Nat.mul_zero, Nat.add_zero, Nat.zero_add, or_true, true_or, not_true_eq_false, not_false_eq_true, reduceCtorEq, hK.1.2, Nat.le_refl]
    exact s_couple77 h hf hm hc ha
theorem s_couple {M0 : PM} (h : cK M0 P n hs nu) : ∃ M', f_X1_couple M0 = some ((), M') ∧ cpl M' (eF P hs) n ∧ hr_fr [(246, 0), (240, 12), (248, 0)] M0 M' := by
  have h10 := h.1.1
  have h2 : 1 ≤ 2 ^ n := Nat.one_le_two_pow
  have h3 : 2 ^ n ≤ 2 ^ 10 := Nat.pow_le_pow_right (by decide) h10
  unfold f_X1_couple
  rw [if_pos (show inB 0 1024 = true from q_in (i := 0) (by omega) (by omega))]
  refine hr_for (σ := PM) (fun f s N => f_X1_couple_9 f (nI s) N) (2 ^ n) (fun s N => (1 ≤ s ∧ mkM N 246 (eF P hs) n s) ∧ hr_fr [(246, 0), (240, 12), (248, 0)] M0 N) (fun r => ∃ M', r = some ((), M') ∧ cpl M' (eF P hs) n ∧ hr_fr [(246, 0), (240, 12), (248, 0)] M0 M') ?_ ?_ FU 1 (hr_si M0 246 0 (nI 0)) h2 (FU_ok (by omega)) ⟨⟨Nat.le_refl _, fun t ht => by rw [si_same, if_pos (by omega), show t = 0 by omega, mcS_0]⟩, hr_fr.si rfl (hr_fr.rf _ _)⟩
  · rintro f s N hs2 ⟨⟨hs1, hm⟩, hf⟩
    right
    have hK : cK N P n hs nu := h.fr hf rfl (fun _ => rfl) (fun _ => rfl) (fun _ => rfl)
    have hmc := s_mostCouples hK hs1 hs2 hm
    show ∃ s', f_X1_couple_9 (f + 1) (nI s) N = f_X1_couple_9 f (nI (s + 1)) s' ∧ _
    rw [f_X1_couple_9.eq_2]
    simp (disch := omega) only [q_lit, q_m1, q_m2, q_m1000, q_add, q_mul, q_cl, q_le, q_lt, q_eq, q_in, q_bd_some, eq_self, if_true, if_false, q_b0, q_b1, q_b01, q_bt, q_bf, q_ft, q_tf, Nat.mul_zero, Nat.add_zero, Nat.zero_add, or_true, true_or, not_true_eq_false, not_false_eq_true, reduceCtorEq, s_everyone hK, show ¬ 2 ^ n - 1 < s by omega, hmc]
    refine ⟨_, rfl, ⟨by omega, ?_⟩, hr_fr.si rfl hf⟩
    intro t ht
    rw [si_same]
    by_cases e : t = s
    · rw [if_pos e, e]
    · rw [if_neg e]; exact hm t (by omega)
  · rintro f N ⟨⟨hs1, hm⟩, hf⟩
    have hK : cK N P n hs nu := h.fr hf rfl (fun _ => rfl) (fun _ => rfl) (fun _ => rfl)
    have hf1 : hr_fr [(246, 0), (240, 12), (248, 0)] M0 (hr_si N 240 11 (nI (mcS (eF P hs) n (2 ^ n - 1)))) := hr_fr.si rfl hf
    have hK1 : cK (hr_si N 240 11 (nI (mcS (eF P hs) n (2 ^ n - 1)))) P n hs nu := h.fr hf1 rfl (fun _ => rfl) (fun _ => rfl) (fun _ => rfl)
    show ∃ M', f_X1_couple_9 (f + 1) (nI (2 ^ n)) N = _ ∧ _
    rw [f_X1_couple_9.eq_2, s_everyone hK, q_bd_some, if_pos ((q_lt (by omega) (by omega)).mpr (show 2 ^ n - 1 < 2 ^ n by omega)), s_everyone hK, q_bd_some, if_pos (q_in (by omega) (by omega)), q_cl (by omega), hm (2 ^ n - 1) (by omega), s_everyone hK1, q_bd_some, show (0 : Int32) = nI 0 from rfl]
    refine s_couple54 h hf1 ?_ ?_
    · intro t ht
      rw [si_ne _ _ _ (show 246 ≠ 240 by omega)]
      exact hm t ht
    · rw [si_same, if_pos rfl]
theorem cK.congr {M : PM} {hs' nu' : Nat → Nat} (h : cK M P n hs nu) (e1 : ∀ k, k < n → hs k = hs' k) (e2 : ∀ k, k < n → nu k = nu' k) : cK M P n hs' nu' := by
  refine ⟨h.1, fun k hk => ?_⟩
  obtain ⟨⟨a1, a2⟩, a3, a4⟩ := h.2 k hk
  rw [e1 k hk] at a1 a2
  rw [e2 k hk] at a3
  refine ⟨⟨a1, a2⟩, a3, ?_⟩
  rw [a4]
  congr 1
  exact bset_congr (fun j hj => by unfold eF; rw [e1 k hk, e1 j hj])
end CLS
/-- what is coupled last is told of truly -/
def Ck (M : PM) (T : Tol) : Prop := M.1 240 13 = zI (-1) ∨ ∃ p, p < tz T 0 ∧ M.1 240 13 = nI p ∧ cpl M (foe (tP T p)) (pH (tP T p))
def sp_flags (T : Tol) (p x : Int32) : Int32 := match ix p (tz T 0) with
  | none => zI (-2)
  | some p => if x = zI (-1) then nI (mcS (foe (tP T p)) (pH (tP T p)) (2 ^ pH (tP T p) - 1)) else match ix x (pH (tP T p)) with
    | none => zI (-2)
    | some h => ocI (fAS (foe (tP T p)) (pH (tP T p)) (pH (tP T p)) h)
section CLS2
variable {M : PM} {T : Tol}
theorem s_flags67 {P : Pal} (h10 : pH P ≤ 10) (hc : cpl M (foe P) (pH P)) (a1 x : Int32) (hx : x = zI (-1) ∨ ∃ h, h < pH P ∧ x = nI h) : f_X10_flags_67 a1 x M = some (if x = zI (-1) then nI (mcS (foe P) (pH P) (2 ^ pH P - 1)) else match ix x (pH P) with
    | none => zI (-2)
    | some h => ocI (fAS (foe P) (pH P) (pH P) h), M) := by
  unfold f_X10_flags_67
  rw [show (-1 : Int32) = zI (-1) by decide]
  rcases hx with h | ⟨h, h1, h2⟩
  · rw [if_pos h, if_pos h, hc.1]
  · have hn : ¬ x = zI (-1) := fun z => by rw [h2] at z; have := (q_nzeq (by omega) (by omega)).mp z; omega
    rw [if_neg hn, if_neg hn, h2, if_pos (q_in (by omega) (by omega)), q_cl (by omega), hc.2 h h1, ix_n h1 (by omega)]
theorem s_flags29 (hT : rT M 1 T) (ok : tOK T) (hk : Ck M T) {p : Nat} (lp : p < tz T 0) (x : Int32) (hx : x = zI (-1) ∨ ∃ h, h < pH (tP T p) ∧ x = nI h) : hw (f_X10_flags_29 (nI p) x (6 + 9 * p) M) (fun v M' => v = sp_flags T (nI p) x ∧ Ck M' T) := by
  have z0 := ok.2.2.1 0 (by omega)
  have hP := hT.pal (show p < 2 by omega)
  have h10 := hP.1.2.1
  have h2 : 1 ≤ 2 ^ pH (tP T p) := Nat.one_le_two_pow
  have h3 : 2 ^ pH (tP T p) ≤ 2 ^ 10 := Nat.pow_le_pow_right (by decide) h10
  have sp : ∀ v, v = (if x = zI (-1) then nI (mcS (foe (tP T p)) (pH (tP T p)) (2 ^ pH (tP T p) - 1)) else match ix x (pH (tP T p)) with
    | none => zI (-2)
    | some h => ocI (fAS (foe (tP T p)) (pH (tP T p)) (pH (tP T p)) h)) → v = sp_flags T (nI p) x := by
    intro v hv
    unfold sp_flags
    rw [ix_n lp (by omega)]
    exact hv
  unfold f_X10_flags_29
  by_cases hc : M.1 240 13 = nI p
  · rw [if_pos hc]
    have hcp : cpl M (foe (tP T p)) (pH (tP T p)) := by
      rcases hk with h | ⟨q, h1, h4, h5⟩
      · rw [h] at hc
        have := (q_zneq (by omega) (by omega)).mp hc
        omega
      · rw [h4] at hc
        have e := (q_eq (by omega) (by omega)).mp hc
        subst e
        exact h5
    rw [s_flags67 h10 hcp _ _ hx]
    exact hw.ok ⟨sp _ rfl, hk⟩
  · rw [if_neg hc, s_all hP, q_bd_some]
    obtain ⟨M1, c1, c2, c3⟩ := s_gatherHues hP (by omega) (nI (2 ^ pH (tP T p) - 1))
    have ec : cnt (hb (nI (2 ^ pH (tP T p) - 1))) (pH (tP T p)) = pH (tP T p) := by
      have : ∀ m, m ≤ pH (tP T p) → cnt (hb (nI (2 ^ pH (tP T p) - 1))) m = m := by
        intro m
        induction m with
        | zero => intro _; rfl
        | succ m ih =>
          intro hm
          show cnt _ m + (if hb (nI (2 ^ pH (tP T p) - 1)) m then 1 else 0) = m + 1
          rw [ih (by omega), hb_nat (by omega), all_bit, decide_eq_true (by omega), if_pos rfl]
      exact this _ (Nat.le_refl _)
    have ek : ∀ k, k < pH (tP T p) → pk (hb (nI (2 ^ pH (tP T p) - 1))) (pH (tP T p)) k = k := by
      intro k hk
      have hck : ∀ m, m ≤ pH (tP T p) → cnt (hb (nI (2 ^ pH (tP T p) - 1))) m = m := by
        intro m
        induction m with
        | zero => intro _; rfl
        | succ m ih =>
          intro hm
          show cnt _ m + (if hb (nI (2 ^ pH (tP T p) - 1)) m then 1 else 0) = m + 1
          rw [ih (by omega), hb_nat (by omega), all_bit, decide_eq_true (by omega), if_pos rfl]
      have := (pk_ok (hb (nI (2 ^ pH (tP T p) - 1))) (pH (tP T p))).2 k hk (by rw [hb_nat (by omega), all_bit, decide_eq_true hk])
      rw [hck k (by omega)] at this
      exact this
    rw [ec] at c2
    have c2' := c2.congr (hs' := fun k => k) (nu' := fun k => k) ek ek
    obtain ⟨M2, d1, d2, d3⟩ := s_couple c2'
    rw [c1, q_bd_some, d1, q_bd_some]
    have hcp : cpl (hr_si M2 240 13 (nI p)) (foe (tP T p)) (pH (tP T p)) := by
      refine ⟨?_, ?_⟩
      · rw [si_same, if_neg (by omega)]; exact d2.1
      · rw [si_ne _ _ _ (show 248 ≠ 240 by omega)]; exact d2.2
    rw [s_flags67 h10 hcp _ _ hx]
    exact hw.ok ⟨sp _ rfl, Or.inr ⟨p, lp, by rw [si_same, if_pos rfl], hcp⟩⟩
theorem c_flags (hT : rT M 1 T) (ok : tOK T) (hk : Ck M T) (p x : Int32) : hw (f_X10_flags p x M) (fun v M' => v = sp_flags T p x ∧ Ck M' T) := by
  have z0 := ok.2.2.1 0 (by omega)
  unfold f_X10_flags
  rw [s_paletteAt hT z0, q_bd_some]
  cases hp : ix p (tz T 0) with
  | none =>
    refine hw.ok ⟨?_, hk⟩
    unfold sp_flags
    rw [hp]
    exact (show (-2 : Int32) = zI (-2) by decide)
  | some p =>
    dsimp only
    obtain ⟨rfl, lp, -⟩ := ix_some hp
    have hP := hT.pal (show p < 2 by omega)
    rw [if_pos hP.1.1, show (-1 : Int32) = zI (-1) by decide]
    by_cases x1 : x = zI (-1)
    · rw [if_pos x1]
      exact s_flags29 hT ok hk lp x (Or.inl x1)
    · rw [if_neg x1, s_hasix hP, q_bd_some]
      cases hx : ix x (pH (tP T p)) with
      | none =>
        rw [if_pos (show bI (none : Option Nat).isSome = 0 from rfl)]
        refine hw.ok ⟨?_, hk⟩
        unfold sp_flags
        rw [hp]
        dsimp only
        rw [if_neg x1, hx]
        exact (show (-2 : Int32) = zI (-2) by decide)
      | some h =>
        obtain ⟨e, lh, -⟩ := ix_some hx
        rw [if_neg (show ¬ bI (some h).isSome = 0 from (by decide : ¬ nI 1 = 0))]
        exact s_flags29 hT ok hk lp x (Or.inr ⟨h, lh, e⟩)
end CLS2
