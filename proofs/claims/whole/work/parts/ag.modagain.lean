/-! IMAGES, by the model: kept, and told again -/
theorem nar_fit {x : Int32} (h : fits .byte (.int x) = true) : vp_nar .byte x = x := by
  have e : fits .byte (.int x) = (decide ((-128 : Int32) ≤ x) && decide (x ≤ (127 : Int32))) := rfl
  rw [e, Bool.and_eq_true] at h
  have h1 := Int32.le_iff_toInt_le.mp (of_decide_eq_true h.1)
  have h2 := Int32.le_iff_toInt_le.mp (of_decide_eq_true h.2)
  have k1 : (-128 : Int32).toInt = -128 := by decide
  have k2 : (127 : Int32).toInt = 127 := by decide
  rw [k1] at h1
  rw [k2] at h2
  show x.toInt8.toInt32 = x
  apply Int32.toInt_inj.mp
  rw [Int8.toInt_toInt32, Int32.toInt_toInt8]
  exact Int.bmod_eq_of_le (by omega) (by omega)
section MIM
variable {M : PM} {T : Tol}
theorem s_copyAll {a b : Nat} (ha : a < 4) (hb : b < 4) (hab : a ≠ b) : ∃ M', f_X11_copyAll (nI a) (nI b) M = some ((), M') ∧ rng 276 285 M M' ∧ ∀ m T, tOK T → mT M (if m = b then a else m) T → mT M' m T := by
  have sep := mul_sep (w := 600) hab
  unfold f_X11_copyAll
  rw [show (0 : Int32) = nI 0 from rfl]
  refine hr_for (σ := PM) (fun f i N => f_X11_copyAll_2 (nI a) (nI b) f (nI i) N) 600 (fun i N => rng 276 276 M N ∧ ∀ j, N.1 276 j = if 600 * b ≤ j ∧ j < 600 * b + i then vp_nar .byte (M.1 276 (600 * a + (j - 600 * b))) else M.1 276 j) (fun r => ∃ M', r = some ((), M') ∧ rng 276 285 M M' ∧ ∀ m T, tOK T → mT M (if m = b then a else m) T → mT M' m T) ?_ ?_ FU 0 M (Nat.zero_le _) (FU_ok (by omega)) ⟨rng.rf _ _ _, fun j => by rw [if_neg (by omega)]⟩
  · rintro f i N hi ⟨i1, i2⟩
    right
    show ∃ s', f_X11_copyAll_2 (nI a) (nI b) (f + 1) (nI i) N = f_X11_copyAll_2 (nI a) (nI b) f (nI (i + 1)) s' ∧ _
    rw [f_X11_copyAll_2.eq_2, q_lit 600, gO 600, if_neg (fun y => by have := (q_le (by omega) (by omega)).mp y; omega), q_mul, q_add, q_mul, q_add, if_pos (q_in (by omega) (by omega)), if_pos (q_in (by omega) (by omega)), q_cl (by omega), q_cl (by omega), q_lit 1, gO 1, q_add]
    refine ⟨_, rfl, i1.si (Nat.le_refl _) (Nat.le_refl _) _ _, fun j => ?_⟩
    rw [si_same]
    by_cases y : j = 600 * b + i
    · rw [if_pos y, if_pos (by omega), i2, if_neg (by omega), show j - 600 * b = i by omega]
    · rw [if_neg y, i2 j]
      by_cases v : 600 * b ≤ j ∧ j < 600 * b + i
      · rw [if_pos v, if_pos (by omega)]
      · rw [if_neg v, if_neg (by omega)]
  · rintro f N ⟨i1, i2⟩
    obtain ⟨M', g1, g2, g3⟩ := s_copyRows (M := N) ha hb hab
    show ∃ M', f_X11_copyAll_2 (nI a) (nI b) (f + 1) (nI 600) N = _ ∧ _
    rw [f_X11_copyAll_2.eq_2, q_lit 600, gO 600, if_pos (Int32.le_refl _)]
    refine ⟨M', g1, (i1.up (by omega) (by omega)).tr (g2.up (by omega) (by omega)), fun m T ok hT => ?_⟩
    have hT' : ∀ i, i < 600 → M.1 276 (600 * (if m = b then a else m) + i) = tT T i := hT.2.1
    refine mT_cp (M := N) g3 (fun i hi => ?_) ok (hT := ?_)
    · rw [g2.1 276 (by omega), i2]
      by_cases z : m = b
      · subst z
        have := hT' i hi
        rw [if_pos rfl] at this
        rw [if_pos (by omega), show 600 * m + i - 600 * m = i by omega, this]
        exact nar_fit (ok.2.1 i hi)
      · have := hT' i hi
        rw [if_neg z] at this
        have sep2 := mul_sep (w := 600) z
        rw [if_neg (by omega)]
        exact this
    · obtain ⟨a1, a4, a5⟩ := hT
      have e : ∀ c, c ≠ 276 → N.1 c = M.1 c := fun c hc => i1.1 c (by omega)
      have bytes : ∀ i, i < 600 → N.1 276 (600 * (if m = b then a else m) + i) = tT T i := fun i hi => by
        rw [i2]
        by_cases z : m = b
        · have := a4 i hi
          rw [if_pos z] at this ⊢
          rw [if_neg (show ¬ (600 * b ≤ 600 * a + i ∧ 600 * a + i < 600 * b + 600) by omega)]
          exact this
        · have := a4 i hi
          rw [if_neg z] at this ⊢
          have sep2 := mul_sep (w := 600) z
          rw [if_neg (show ¬ (600 * b ≤ 600 * m + i ∧ 600 * m + i < 600 * b + 600) by omega)]
          exact this
      unfold mT
      rw [e 277 (by omega), e 278 (by omega), e 279 (by omega), e 280 (by omega), e 281 (by omega), e 282 (by omega), e 283 (by omega), e 284 (by omega), e 285 (by omega)]
      exact ⟨a1, bytes, a5⟩
theorem m_image_no {a1 : Int32} (h : ix a1 3 = none) : f_X11_image a1 M = some (0, hr_si M 275 0 0) := by
  unfold f_X11_image
  rw [show f_X11_in a1 0 2 (hr_si M 275 0 0) = some (bI (ix a1 (2 + 1)).isSome, hr_si M 275 0 0) from s_inc _ a1 (c := 2) (by decide), q_bd_some, show 2 + 1 = 3 from rfl, h]
  rfl
theorem m_image {i : Nat} (hi : i < 3) : ∃ M', f_X11_image (nI i) M = some (1, M') ∧ (∀ m T, tOK T → mT M (if m = i + 1 then 0 else m) T → mT M' m T) ∧ ∀ j, M'.1 304 j = if j = i then nI 1 else M.1 304 j := by
  obtain ⟨M1, g1, g2, g3⟩ := s_copyAll (M := hr_si M 275 0 0) (a := 0) (b := i + 1) (by omega) (by omega) (by omega)
  have ev : vp_nar .boolean 1 = nI 1 := by decide
  unfold f_X11_image
  rw [show f_X11_in (nI i) 0 2 (hr_si M 275 0 0) = some (bI (ix (nI i) (2 + 1)).isSome, hr_si M 275 0 0) from s_inc _ (nI i) (c := 2) (by decide), q_bd_some, show 2 + 1 = 3 from rfl, ix_n hi (by omega), if_neg (show ¬ bI (some i).isSome = 0 from (by decide : ¬ bI true = 0)), show (1 : Int32) = nI 1 from rfl, q_add, show f_X11_copyAll 0 (nI (i + 1)) (hr_si M 275 0 0) = some ((), M1) from g1, q_bd_some, if_pos (q_in hi (by omega)), q_cl (by omega)]
  refine ⟨_, rfl, fun m T ok hT => ?_, fun j => ?_⟩
  · have h1 : mT M1 m T := g3 m T ok hT.si
    have e : ∀ c, c ≠ 304 → (hr_si M1 304 i (vp_nar .boolean (nI 1))).1 c = M1.1 c := fun c hc => si_ne _ _ _ hc
    unfold mT at h1 ⊢
    rw [e 276 (by omega), e 277 (by omega), e 278 (by omega), e 279 (by omega), e 280 (by omega), e 281 (by omega), e 282 (by omega), e 283 (by omega), e 284 (by omega), e 285 (by omega)]
    exact h1
  · rw [si_same, show vp_nar .boolean (nI 1) = nI 1 from ev, g2.1 304 (by omega), si_ne _ _ _ (by omega)]
theorem m_again_no {a1 : Int32} (h : ix a1 3 = none) : f_X11_again a1 M = some (0, hr_si M 275 0 0) := by
  unfold f_X11_again
  rw [show f_X11_in a1 0 2 (hr_si M 275 0 0) = some (bI (ix a1 (2 + 1)).isSome, hr_si M 275 0 0) from s_inc _ a1 (c := 2) (by decide), q_bd_some, show 2 + 1 = 3 from rfl, h]
  rfl
theorem m_again0 {i : Nat} (hi : i < 3) (h : M.1 304 i = nI 0) : f_X11_again (nI i) M = some (0, hr_si M 275 0 0) := by
  unfold f_X11_again
  rw [show f_X11_in (nI i) 0 2 (hr_si M 275 0 0) = some (bI (ix (nI i) (2 + 1)).isSome, hr_si M 275 0 0) from s_inc _ (nI i) (c := 2) (by decide), q_bd_some, show 2 + 1 = 3 from rfl, ix_n hi (by omega), if_neg (show ¬ bI (some i).isSome = 0 from (by decide : ¬ bI true = 0)), if_pos (q_in hi (by omega)), q_cl (by omega), si_ne _ _ _ (show 304 ≠ 275 by omega), h, if_pos (show nI 0 = 0 from rfl)]
theorem m_again {i : Nat} (hi : i < 3) (h : M.1 304 i = nI 1) : ∃ M', f_X11_again (nI i) M = some (1, M') ∧ (∀ m T, tOK T → mT M (if m = 0 then i + 1 else m) T → mT M' m T) ∧ M'.1 304 = M.1 304 := by
  obtain ⟨M1, g1, g2, g3⟩ := s_copyAll (M := hr_si M 275 0 0) (a := i + 1) (b := 0) (by omega) (by omega) (by omega)
  unfold f_X11_again
  rw [show f_X11_in (nI i) 0 2 (hr_si M 275 0 0) = some (bI (ix (nI i) (2 + 1)).isSome, hr_si M 275 0 0) from s_inc _ (nI i) (c := 2) (by decide), q_bd_some, show 2 + 1 = 3 from rfl, ix_n hi (by omega), if_neg (show ¬ bI (some i).isSome = 0 from (by decide : ¬ bI true = 0)), if_pos (q_in hi (by omega)), q_cl (by omega), si_ne _ _ _ (show 304 ≠ 275 by omega), h, if_neg (show ¬ nI 1 = 0 by decide), show (1 : Int32) = nI 1 from rfl, q_add, show f_X11_copyAll (nI (i + 1)) 0 (hr_si M 275 0 0) = some ((), M1) from g1, q_bd_some]
  exact ⟨M1, rfl, fun m T ok hT => g3 m T ok hT.si, by rw [g2.1 304 (by omega), si_ne _ _ _ (by omega)]⟩
end MIM
