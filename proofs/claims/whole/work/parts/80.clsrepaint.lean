section CLS
variable {M : PM} {T : Tol}
theorem c_repainted (hT : rT M 1 T) (ok : tOK T) (p g w : Int32) : hw (f_X10_repainted p g w M) (fun v _ => v = sp_repainted T p g w) := by
  have hz := ok.2.2.1
  have z0 := hz 0 (by omega)
  have z1 := hz 1 (by omega)
  have r1 := fun x => s_rollAt hT (s := 1) (by omega) (by omega) z1 x
  unfold f_X10_repainted sp_repainted
  rw [s_paletteAt hT z0, q_bd_some]
  rw [show f_X8_rollAt 1 = f_X8_rollAt (nI 1) from rfl]
  cases hp : ix p (tz T 0) with
  | none =>
    dsimp only
    rw [r1, q_bd_some]
    cases hg : ix g (tz T 1) with
    | none =>
      dsimp only
      rw [g_nn]
      exact hw.ok rfl
    | some g =>
      dsimp only
      have kg := k_5 (s := 1) (by omega) (by omega) (k := g) (by have := (ix_some hg).2.1; omega)
      rw [if_pos kg, g_nr kg]
      exact hw.ok rfl
  | some p =>
    dsimp only
    have kp := k_3 (q := p) (by have := (ix_some hp).2.1; omega)
    rw [if_pos kp, r1, q_bd_some]
    cases hg : ix g (tz T 1) with
    | none =>
      dsimp only
      rw [g_rn kp]
      exact hw.ok rfl
    | some g =>
      dsimp only
      have kg := k_5 (s := 1) (by omega) (by omega) (k := g) (by have := (ix_some hg).2.1; omega)
      obtain ⟨-, lp, -⟩ := ix_some hp
      obtain ⟨-, lg, -⟩ := ix_some hg
      have hP := hT.pal (show p < 2 by omega)
      have hR := hT.rol (s := 1) (by omega) (by omega) lg
      have oR := ok.2.2.2.2 1 g (by omega) (by omega) lg
      rw [if_pos kg, s_goTogether hP hR (oS_lt (Or.inl rfl) oR), q_bd_some]
      cases ht : tog (tP T p) (tR T 1 g) with
      | false => exact hw.ok rfl
      | true =>
        have hgk := gOK.of hP.1.2 oR ht
        have hn := hgk.1.2.1
        rw [if_neg (show ¬ bI true = 0 by decide), if_pos rfl]
        obtain ⟨M1, g1, g2, g3⟩ := s_repaint hP (by omega) hR (by omega) hgk
        have hR1 := rR_ag hR (g3.agr (n := 240) rfl) (Nat.zero_le _) (by omega)
        rw [g1, q_bd_some, hR1.2.1.1]
        unfold rpS
        cases hq : totC (tP T p) (tR T 1 g) with
        | none =>
          rw [if_pos (show ocI none < 0 by decide)]
          exact hw.ok rfl
        | some c =>
          have hc2 : c < 2147483648 := by
            by_cases hn0 : oN (tR T 1 g) = 0
            · unfold totC at hq; rw [if_pos hn0] at hq; cases hq; omega
            · have h1 := (pt_ok hq 0 (by omega)).1
              have h2 := hq
              unfold totC at h2
              rw [if_neg hn0] at h2
              have : lsO (csW (tP T p) (tR T 1 g) 0 (ptW (tP T p) (tR T 1 g) 0)) (pH (tP T p)) = some c := h2
              rw [this] at h1
              cases h1
              have := due_le hgk hq 0
              omega
          rw [if_neg (show ¬ ocI (some c) < 0 from nI_pos hc2)]
          dsimp only
          by_cases w0 : w = 0
          · rw [if_pos w0, if_pos w0]; exact hw.ok rfl
          rw [if_neg w0, if_neg w0]
          by_cases w10 : w < nI 10
          · rw [if_pos (show w < 10 from w10), if_pos w10]; exact hw.ok rfl
          rw [if_neg (show ¬ w < 10 from w10), if_neg w10]
          rcases q_any w with h0 | ⟨m, h1, rfl⟩
          · exact absurd (q_neg_lt h0 (k := 10) (by omega)) w10
          · rw [q_lt h1 (by omega)] at w10
            rw [q_cl h1, q_lit 10, gO, q_add, q_sub (show 10 ≤ m by omega)]
            by_cases hm : m - 10 < oN (tR T 1 g)
            · rw [if_neg (fun z => by have := (q_le (by omega) (by omega)).mp z; omega), if_pos (q_in (by omega) (by omega)), q_cl (by omega), if_pos hm, g2 (by rw [hq]; rfl) _ hm]
              exact hw.ok rfl
            · rw [if_pos ((q_le (by omega) (by omega)).mpr (by omega)), if_neg hm]
              exact hw.ok rfl
end CLS
