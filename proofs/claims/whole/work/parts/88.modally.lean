section MOD
variable {q : Nat} {P : Pal}
theorem s_allyOf {M : PM} (hH : hM M q P) (hm : mkM M 300 (foe P) (pH P) (2 ^ pH P)) {h : Nat} (hh : h < pH P) : f_X11_allyOf (nI h) M = some (ocI (fAS (foe P) (pH P) (pH P) h), M) := by
  have h10 := hH.1.1.2.1
  have h2 : 1 ≤ 2 ^ pH P := Nat.one_le_two_pow
  have h3 : 2 ^ pH P ≤ 2 ^ 10 := Nat.pow_le_pow_right (by decide) h10
  unfold f_X11_allyOf
  rw [hH.2.1.2, q_lit 1, gO, q_jl (by omega), q_sub h2]
  refine hr_for (σ := Nat) (fun f _ k => f_X11_allyOf_9 (nI h) f (nI (lfS (foe P) (pH P) k)) M) (pH P) (fun i k => i ≤ k ∧ (lfS (foe P) (pH P) k).testBit h = true) (fun r => r = some (ocI (fAS (foe P) (pH P) (pH P) h), M)) ?_ ?_ FU 0 0 (Nat.zero_le _) (FU_ok (by omega)) ⟨Nat.le_refl _, by show (2 ^ pH P - 1).testBit h = true; rw [all_bit, decide_eq_true hh]⟩
  · rintro f i k hi ⟨hik, hb⟩
    have hlt := lf_lt (foe P) (pH P) k
    have hne : lfS (foe P) (pH P) k ≠ 0 := fun z => by rw [z, Nat.zero_testBit] at hb; cases hb
    obtain ⟨a, l1, l2, -⟩ := low_ex _ _ (Nat.le_refl (lfS (foe P) (pH P) k)) hne
    have ha : a < pH P := lt2_iff.mp hlt a l1
    have hka : k ≤ a := by
      apply Nat.le_of_not_lt
      intro z
      rw [lf_low (foe P) (pH P) k a z] at l1
      cases l1
    have hah : a ≤ h := by
      apply Nat.le_of_not_lt
      intro z
      rw [l2 h z] at hb
      cases hb
    have e1 := lf_skip (E := foe P) (n := pH P) a hka (fun i hi => l2 i hi)
    have elf : lfS (foe P) (pH P) (a + 1) = match alS (foe P) (pH P) (lfS (foe P) (pH P) k) a with
        | none => bd (lfS (foe P) (pH P) k) (2 ^ a)
        | some j => bd (bd (lfS (foe P) (pH P) k) (2 ^ a)) (2 ^ j) := by
      show (if (lfS (foe P) (pH P) a).testBit a then (match alS (foe P) (pH P) (lfS (foe P) (pH P) a) a with
        | none => bd (lfS (foe P) (pH P) a) (2 ^ a)
        | some j => bd (bd (lfS (foe P) (pH P) a) (2 ^ a)) (2 ^ j)) else lfS (foe P) (pH P) a) = _
      rw [e1, if_pos l1]
    have efa : fAS (foe P) (pH P) (a + 1) = match alS (foe P) (pH P) (lfS (foe P) (pH P) k) a with
        | none => fAS (foe P) (pH P) a
        | some j => fun h => if h = j then some a else if h = a then some j else fAS (foe P) (pH P) a h := by
      show (if (lfS (foe P) (pH P) a).testBit a then (match alS (foe P) (pH P) (lfS (foe P) (pH P) a) a with
        | none => fAS (foe P) (pH P) a
        | some j => fun h => if h = j then some a else if h = a then some j else fAS (foe P) (pH P) a h) else fAS (foe P) (pH P) a) = _
      rw [e1, if_pos l1]
    have hfa : fAS (foe P) (pH P) a h = none := fA_none a (by rw [e1]; exact hb)
    have keep : (lfS (foe P) (pH P) (a + 1)).testBit h = false → fAS (foe P) (pH P) (pH P) h = fAS (foe P) (pH P) (a + 1) h := fun z => fA_keep (a + 1) (pH P) (by omega) z
    have e38 := s_ally38 hH hm hlt l1 l2 (nI h) (fun x2 M => f_X11_allyOf_9 (nI h) f x2 M)
    show (f_X11_allyOf_9 (nI h) (f + 1) _ M = _) ∨ ∃ s', f_X11_allyOf_9 (nI h) (f + 1) _ M = f_X11_allyOf_9 (nI h) f (nI (lfS (foe P) (pH P) s')) M ∧ _
    rw [f_X11_allyOf_9.eq_2, if_neg (show ¬ nI (lfS (foe P) (pH P) k) = 0 from fun z => hne ((q_eq (b := 0) (by omega) (by omega)).mp z)), s_leastOf11 M (by omega) (by omega) l1 l2, q_bd_some, hH.2.1.2, q_lit 1, gO, q_jl (by omega), q_sub (by omega), q_m1, q_bd, e38]
    cases hq : alS (foe P) (pH P) (lfS (foe P) (pH P) k) a with
    | none =>
      rw [hq] at elf efa
      dsimp only at elf efa
      by_cases eh : a = h
      · left
        rw [if_pos (show nI a = nI h by rw [eh])]
        unfold f_X11_allyOf_115
        rw [if_pos (show nI a = nI h by rw [eh]), keep (by rw [elf, eh, bd_bit, Nat.testBit_two_pow, decide_eq_true rfl]; simp), efa, hfa]
      · right
        rw [if_neg (show ¬ nI a = nI h from fun z => eh ((q_eq (by omega) (by omega)).mp z)), if_neg (show ¬ ocI none = nI h from fun z => by have := (q_zneq (a := -1) (b := h) (by omega) (by omega)).mp z; omega), if_pos (show ocI none = zI (-1) from rfl)]
        exact ⟨a + 1, by rw [elf], by omega, by rw [elf, bd_bit, hb, Nat.testBit_two_pow, decide_eq_false eh]; rfl⟩
    | some j =>
      rw [hq] at elf efa
      dsimp only at elf efa
      obtain ⟨j1, j2, -⟩ := fst1_some hq
      rw [Bool.and_eq_true, Bool.and_eq_true, bd_bit, Bool.and_eq_true, Nat.testBit_two_pow] at j2
      have hja : ¬ a = j := by
        have := j2.1.1.2
        simpa using this
      by_cases eh : a = h
      · left
        rw [if_pos (show nI a = nI h by rw [eh])]
        unfold f_X11_allyOf_115
        rw [if_pos (show nI a = nI h by rw [eh]), keep (by rw [elf, bd_bit, bd_bit, eh, Nat.testBit_two_pow, decide_eq_true rfl]; simp), efa]
        dsimp only
        rw [if_neg (show ¬ h = j by omega), if_pos eh.symm]
      · rw [if_neg (show ¬ nI a = nI h from fun z => eh ((q_eq (by omega) (by omega)).mp z))]
        by_cases ej : j = h
        · left
          rw [if_pos (show ocI (some j) = nI h by rw [ej]; rfl)]
          unfold f_X11_allyOf_115
          rw [if_neg (show ¬ nI a = nI h from fun z => eh ((q_eq (by omega) (by omega)).mp z)), keep (by rw [elf, ej, bd_bit, Nat.testBit_two_pow, decide_eq_true rfl]; simp), efa]
          dsimp only
          rw [if_pos ej.symm]
          rfl
        · right
          rw [if_neg (show ¬ ocI (some j) = nI h from fun z => ej ((q_eq (a := j) (b := h) (by omega) (by omega)).mp z)), if_neg (show ¬ ocI (some j) = zI (-1) from fun z => by have := (q_nzeq (a := j) (by omega) (by omega)).mp z; omega), show jl 1 (ocI (some j)) = nI (2 ^ j) from q_jl (by omega), q_bd]
          exact ⟨a + 1, by rw [elf], by omega, by rw [elf, bd_bit, bd_bit, hb, Nat.testBit_two_pow, Nat.testBit_two_pow, decide_eq_false eh, decide_eq_false ej]; rfl⟩
  · rintro f k ⟨hik, hb⟩
    rw [lf_low (foe P) (pH P) k h (by omega)] at hb
    cases hb
end MOD
section MOD2
variable {M : PM} {T : Tol}
theorem m_flags (hT : mT M 0 T) (ok : tOK T) (p x : Int32) : hw (f_X11_flags p x M) (fun v _ => v = sp_flags T p x) := by
  unfold f_X11_flags sp_flags
  refine hw.bd ((m_hand (hT.si (k := 0) (v := 0)) ok p).mono (fun v M' h => ?_))
  replace h := h.1
  cases hp : ix p (tz T 0) with
  | none =>
    rw [hp] at h
    rw [h.1]
    exact hw.ok rfl
  | some p =>
    rw [hp] at h
    obtain ⟨rfl, hH⟩ := h
    dsimp only
    have h10 := hH.1.1.2.1
    have h2 : 1 ≤ 2 ^ pH (tP T p) := Nat.one_le_two_pow
    have h3 : 2 ^ pH (tP T p) ≤ 2 ^ 10 := Nat.pow_le_pow_right (by decide) h10
    obtain ⟨M1, g1, g2, g3⟩ := s_findCouples hH
    have hH1 := hH.w300 g3
    rw [if_neg (show ¬ nI 1 = 0 by decide)]
    rw [show (-1 : Int32) = zI (-1) by decide]
    have e29 : ∀ a1 x, f_X11_flags_29 a1 x M' = if x = zI (-1) then some (nI (mcS (foe (tP T p)) (pH (tP T p)) (2 ^ pH (tP T p) - 1)), M1) else hr_bd (f_X11_allyOf x M1) (fun v6 M6 => some (v6, M6)) := by
      intro a1 x
      unfold f_X11_flags_29
      rw [g1, q_bd_some, hH1.2.1.2, q_lit 1, gO, q_jl (by omega), q_sub h2, if_pos (q_in (by omega) (by omega)), q_cl (by omega), g2 _ (by omega), q_m1]
    by_cases x1 : x = zI (-1)
    · rw [if_pos x1, if_pos x1, e29, if_pos x1]
      exact hw.ok rfl
    · rw [if_neg x1, if_neg x1, s_isHue hH, q_bd_some]
      cases hx : ix x (pH (tP T p)) with
      | none => exact hw.ok rfl
      | some h =>
        obtain ⟨rfl, lh, -⟩ := ix_some hx
        rw [if_neg (show ¬ bI (some h).isSome = 0 from (by decide : ¬ nI 1 = 0)), e29, if_neg x1, s_allyOf hH1 g2 lh, q_bd_some]
        exact hw.ok rfl
end MOD2
