/-! IMAGES, by the class: kept, and told again -/
section CIM
variable {M : PM} {T : Tol}
theorem tdA_i (i : Nat) : tdA (i + 1) = 56 + 1 + 55 * i := by
  unfold tdA
  rw [if_neg (by omega)]
  omega
theorem c_image_no {a1 : Int32} (h : ix a1 3 = none) : f_X10_image a1 M = some (0, M) := by
  unfold f_X10_image
  rcases ix_none h (by omega) with h | ⟨j, h1, h2, h3⟩
  · rw [if_pos h]
  · subst h2
    rw [if_neg (nI_pos h1), q_lit 3, gO 3, if_neg (fun y => by have := (q_lt (by omega) (by omega)).mp y; omega)]
theorem c_image (hT : rT M 1 T) (ok : tOK T) {i : Nat} (hi : i < 3) : ∃ M', f_X10_image (nI i) M = some (1, M') ∧ rT M' (tdA (i + 1)) T ∧ (∀ c, c ≠ 222 → (c < tdA (i + 1) ∨ tdA (i + 1) + 54 < c) → M'.1 c = M.1 c) ∧ (∀ j, M'.1 222 j = if j = i then nI 1 else M.1 222 j) ∧ M'.2 = M.2 := by
  have tK := toldK_all (i + 1) (by omega)
  have t1 : toldK 1 := toldK_all 0 (by omega)
  have e := tdA_i i
  obtain ⟨M1, g1, g2, g3⟩ := t_copy (a := tdA (i + 1)) (b := 1) tK t1 (by omega) hT ok
  unfold f_X10_image
  rw [if_neg (nI_pos (by omega)), q_lit 3, gO 3, if_pos ((q_lt (by omega) (by omega)).mpr hi), if_pos (q_in hi (by omega)), q_cl (by omega), ← e, if_pos tK.1, g1, q_bd_some, if_pos (q_in hi (by omega))]
  have ev : vp_nar .boolean 1 = nI 1 := by decide
  have er : ∀ c, c ≠ 222 → (hr_si M1 222 i (vp_nar .boolean 1)).1 c = M1.1 c := fun c hc => si_ne _ _ _ hc
  refine ⟨_, rfl, ?_, fun c c1 c2 => ?_, fun j => ?_, g3.2⟩
  · obtain ⟨t1, t2, t3, t4, t5⟩ := g2
    refine ⟨by rw [er _ (by omega)]; exact t1, fun i h => by rw [er _ (by omega)]; exact t2 i h, fun s' h => by rw [er _ (by omega)]; exact t3 s' h, fun k' h => (t4 k' h).agr (fun c c1 c2 => er c (by omega)), fun s' k' s1 s5 h => ?_⟩
    have : k' < 2 := Nat.lt_of_lt_of_le h (ok.2.2.1 s' s5)
    exact rR_eq (t5 s' k' s1 s5 h) (fun j hj => er _ (by omega))
  · rw [er c c1]; exact g3.1 c c2
  · rw [si_same, ev, g3.1 222 (by omega)]
theorem c_again_no {a1 : Int32} (h : ix a1 3 = none) : f_X10_again a1 M = some (0, M) := by
  unfold f_X10_again
  rcases ix_none h (by omega) with h | ⟨j, h1, h2, h3⟩
  · rw [if_pos h]
  · subst h2
    rw [if_neg (nI_pos h1), q_lit 3, gO 3, if_pos ((q_le (by omega) (by omega)).mpr (by omega))]
theorem c_again0 {i : Nat} (hi : i < 3) (h : M.1 222 i = nI 0) : f_X10_again (nI i) M = some (0, M) := by
  unfold f_X10_again
  rw [if_neg (nI_pos (by omega)), q_lit 3, gO 3, if_neg (fun y => by have := (q_le (by omega) (by omega)).mp y; omega), if_pos (q_in hi (by omega)), q_cl (by omega), h, if_pos (show nI 0 = 0 from rfl)]
/-- what again may write -/
abbrev agW : List (Nat × Nat) := (List.range 56).map (fun i => (i, 0)) ++ [(240, 9), (240, 14), (265, 1), (265, 2), (265, 3), (265, 4)]
theorem agW_55 : ∀ a, a < 56 → hr_cov agW a 0 = true := by decide +kernel
theorem c_again {i : Nat} (hi : i < 3) (h : M.1 222 i = nI 1) (hT : rT M (tdA (i + 1)) T) (ok : tOK T) : ∃ M', f_X10_again (nI i) M = some (1, M') ∧ rT M' 1 T ∧ hr_fr agW M M' ∧ forg M' := by
  have tK := toldK_all (i + 1) (by omega)
  have t1 : toldK 1 := toldK_all 0 (by omega)
  have e := tdA_i i
  obtain ⟨M1, g1, g2, g3⟩ := t_copy (a := 1) (b := tdA (i + 1)) t1 tK (by omega) hT ok
  obtain ⟨M9, l1, l2, l3⟩ := s_forget M1
  unfold f_X10_again
  rw [if_neg (nI_pos (by omega)), q_lit 3, gO 3, if_neg (fun y => by have := (q_le (by omega) (by omega)).mp y; omega), if_pos (q_in hi (by omega)), q_cl (by omega), h, if_neg (show ¬ nI 1 = 0 by decide), if_pos (q_in hi (by omega)), ← e, if_pos tK.1, g1, q_bd_some, l1, q_bd_some]
  refine ⟨M9, rfl, ?_, (g3.fr (fun a a1 a2 => agW_55 a (by omega))).tr (hr_fr.mono (by decide) l3), l2⟩
  have rr : ∀ c, c < 240 → M9.1 c = M1.1 c := fun c hc => l3.row c (fun k => by
    have h240 : (240 : Nat) ≠ c := by omega
    have h265 : (265 : Nat) ≠ c := by omega
    unfold fgW
    simp only [hr_in, beqF h240, beqF h265, Bool.false_and, Bool.or_false])
  obtain ⟨t1, t2, t3, t4, t5⟩ := g2
  refine ⟨by rw [rr 1 (by omega)]; exact t1, fun i h => by rw [rr (1 + 1) (by omega)]; exact t2 i h, fun s' h => by rw [rr (1 + 2) (by omega)]; exact t3 s' h, fun k' h => (t4 k' h).agr (fun c c1 c2 => rr c (by omega)), fun s' k' s1 s5 h => ?_⟩
  have : k' < 2 := Nat.lt_of_lt_of_le h (ok.2.2.1 s' s5)
  exact rR_eq (t5 s' k' s1 s5 h) (fun j hj => rr _ (by omega))
end CIM
