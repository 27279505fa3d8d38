/-! STOP AND STATE, answered -/
def sp_stop (T : Tol) (p g d : Int32) : Int32 := match ix d (tz T 2), ix p (tz T 0), ix g (tz T 1) with
  | some d, some p, some g => if tog (tP T p) (tR T 1 g) then nI (doneS (tP T p) (tR T 1 g) (tR T 2 d) (oN (tR T 2 d))) else zI (-1)
  | _, _, _ => zI (-1)
def sp_state (T : Tol) (p g d n w : Int32) : Int32 := match ix d (tz T 2), ix p (tz T 0), ix g (tz T 1) with
  | some d, some p, some g => if tog (tP T p) (tR T 1 g) then (match ix n (oN (tR T 2 d) + 1) with
    | none => zI (-2)
    | some n => match goS (tP T p) (tR T 1 g) (tR T 2 d) (begW (tR T 1 g)) n with
      | none => zI (-2)
      | some W => ansS (tP T p) (tR T 1 g) W w) else zI (-2)
  | _, _, _ => zI (-2)
theorem g_nn (M : PM) : f_X10_goTogether .null .null M = some (nI 0, M) := rfl
theorem g_nr {b : Nat} (h : hr_K b = 5) (M : PM) : f_X10_goTogether .null (.ref b) M = some (nI 0, M) := by
  unfold f_X10_goTogether
  dsimp only
  rw [if_pos h]
  rfl
theorem g_rn {a : Nat} (h : hr_K a = 3) (M : PM) : f_X10_goTogether (.ref a) .null M = some (nI 0, M) := by
  unfold f_X10_goTogether
  dsimp only
  rw [if_pos h]
  rfl
section CLS
variable {M : PM} {T : Tol}
theorem k_3 {q : Nat} (h : q < 2) : hr_K (6 + 9 * q) = 3 := kk_3 q h
theorem k_5 {s k : Nat} (h1 : 1 ≤ s) (h5 : s < 5) (hk : k < 2) : hr_K (24 + 4 * (2 * (s - 1) + k)) = 5 := kk_5 (2 * (s - 1) + k) (by omega)
theorem c_stop (hT : rT M 1 T) (ok : tOK T) (p g d : Int32) : hw (f_X10_stop p g d M) (fun v _ => v = sp_stop T p g d) := by
  have hz := ok.2.2.1
  have z0 := hz 0 (by omega)
  have z1 := hz 1 (by omega)
  have z2 := hz 2 (by omega)
  have r1 := fun x => s_rollAt hT (s := 1) (by omega) (by omega) z1 x
  have r2 := fun x => s_rollAt hT (s := 2) (by omega) (by omega) z2 x
  unfold f_X10_stop sp_stop
  rw [s_paletteAt hT z0, q_bd_some]
  rw [show (1 : Int32) = nI 1 from rfl, show (2 : Int32) = nI 2 from rfl]
  cases hp : ix p (tz T 0) with
  | none =>
    dsimp only
    rw [r1, q_bd_some]
    cases hg : ix g (tz T 1) with
    | none =>
      dsimp only
      rw [r2, q_bd_some]
      cases hd : ix d (tz T 2) with
      | none => exact hw.ok rfl
      | some d =>
        dsimp only
        rw [if_pos (k_5 (by omega) (by omega) (by have := (ix_some hd).2.1; omega)), g_nn]
        exact hw.ok rfl
    | some g =>
      dsimp only
      have kg := k_5 (s := 1) (by omega) (by omega) (k := g) (by have := (ix_some hg).2.1; omega)
      rw [if_pos kg, r2, q_bd_some]
      cases hd : ix d (tz T 2) with
      | none => exact hw.ok rfl
      | some d =>
        dsimp only
        rw [if_pos (k_5 (by omega) (by omega) (by have := (ix_some hd).2.1; omega)), g_nr kg]
        exact hw.ok rfl
  | some p =>
    dsimp only
    have kp := k_3 (q := p) (by have := (ix_some hp).2.1; omega)
    rw [if_pos kp, r1, q_bd_some]
    cases hg : ix g (tz T 1) with
    | none =>
      dsimp only
      rw [r2, q_bd_some]
      cases hd : ix d (tz T 2) with
      | none => exact hw.ok rfl
      | some d =>
        dsimp only
        rw [if_pos (k_5 (by omega) (by omega) (by have := (ix_some hd).2.1; omega)), g_rn kp]
        exact hw.ok rfl
    | some g =>
      dsimp only
      have kg := k_5 (s := 1) (by omega) (by omega) (k := g) (by have := (ix_some hg).2.1; omega)
      rw [if_pos kg, r2, q_bd_some]
      cases hd : ix d (tz T 2) with
      | none => exact hw.ok rfl
      | some d =>
        dsimp only
        obtain ⟨-, lp, -⟩ := ix_some hp
        obtain ⟨-, lg, -⟩ := ix_some hg
        obtain ⟨-, ld, -⟩ := ix_some hd
        have hP := hT.pal (show p < 2 by omega)
        have hR := hT.rol (s := 1) (by omega) (by omega) lg
        have hD := hT.rol (s := 2) (by omega) (by omega) ld
        have oR := ok.2.2.2.2 1 g (by omega) (by omega) lg
        have oD := ok.2.2.2.2 2 d (by omega) (by omega) ld
        rw [if_pos hD.1, s_goTogether hP hR (oS_lt (Or.inl rfl) oR), q_bd_some]
        cases ht : tog (tP T p) (tR T 1 g) with
        | false => exact hw.ok rfl
        | true =>
          rw [if_neg (by decide), if_pos rfl, hD.2.1.1]
          obtain ⟨M', g1, -⟩ := s_go hP (by omega) hR (by omega) hD (by omega) (gOK.of hP.1.2 oR ht) oD.1 oD.2 (Nat.le_refl _)
          rw [g1]
          exact hw.ok rfl
theorem c_state (hT : rT M 1 T) (ok : tOK T) (p g d n w : Int32) : hw (f_X10_state p g d n w M) (fun v _ => v = sp_state T p g d n w) := by
  have hz := ok.2.2.1
  have z0 := hz 0 (by omega)
  have z1 := hz 1 (by omega)
  have z2 := hz 2 (by omega)
  have r1 := fun x => s_rollAt hT (s := 1) (by omega) (by omega) z1 x
  have r2 := fun x => s_rollAt hT (s := 2) (by omega) (by omega) z2 x
  unfold f_X10_state sp_state
  rw [s_paletteAt hT z0, q_bd_some]
  rw [show (1 : Int32) = nI 1 from rfl, show (2 : Int32) = nI 2 from rfl]
  cases hp : ix p (tz T 0) with
  | none =>
    dsimp only
    rw [r1, q_bd_some]
    cases hg : ix g (tz T 1) with
    | none =>
      dsimp only
      rw [r2, q_bd_some]
      cases hd : ix d (tz T 2) with
      | none => exact hw.ok rfl
      | some d =>
        dsimp only
        rw [if_pos (k_5 (by omega) (by omega) (by have := (ix_some hd).2.1; omega)), g_nn]
        exact hw.ok rfl
    | some g =>
      dsimp only
      have kg := k_5 (s := 1) (by omega) (by omega) (k := g) (by have := (ix_some hg).2.1; omega)
      rw [if_pos kg, r2, q_bd_some]
      cases hd : ix d (tz T 2) with
      | none => exact hw.ok rfl
      | some d =>
        dsimp only
        rw [if_pos (k_5 (by omega) (by omega) (by have := (ix_some hd).2.1; omega)), g_nr kg]
        exact hw.ok rfl
  | some p =>
    dsimp only
    have kp := k_3 (q := p) (by have := (ix_some hp).2.1; omega)
    rw [if_pos kp, r1, q_bd_some]
    cases hg : ix g (tz T 1) with
    | none =>
      dsimp only
      rw [r2, q_bd_some]
      cases hd : ix d (tz T 2) with
      | none => exact hw.ok rfl
      | some d =>
        dsimp only
        rw [if_pos (k_5 (by omega) (by omega) (by have := (ix_some hd).2.1; omega)), g_rn kp]
        exact hw.ok rfl
    | some g =>
      dsimp only
      have kg := k_5 (s := 1) (by omega) (by omega) (k := g) (by have := (ix_some hg).2.1; omega)
      rw [if_pos kg, r2, q_bd_some]
      cases hd : ix d (tz T 2) with
      | none => exact hw.ok rfl
      | some d =>
        dsimp only
        obtain ⟨-, lp, -⟩ := ix_some hp
        obtain ⟨-, lg, -⟩ := ix_some hg
        obtain ⟨-, ld, -⟩ := ix_some hd
        have hP := hT.pal (show p < 2 by omega)
        have hR := hT.rol (s := 1) (by omega) (by omega) lg
        have hD := hT.rol (s := 2) (by omega) (by omega) ld
        have oR := ok.2.2.2.2 1 g (by omega) (by omega) lg
        have oD := ok.2.2.2.2 2 d (by omega) (by omega) ld
        have h40 : oN (tR T 2 d) ≤ 40 := oD.1
        rw [if_pos hD.1, s_goTogether hP hR (oS_lt (Or.inl rfl) oR), q_bd_some]
        cases ht : tog (tP T p) (tR T 1 g) with
        | false => exact hw.ok rfl
        | true =>
          rw [if_neg (by decide), if_pos rfl, hD.2.1.1]
          cases hn : ix n (oN (tR T 2 d) + 1) with
          | none =>
            rcases ix_none hn (by omega) with h0 | ⟨j, h1, rfl, h2⟩
            · rw [if_pos h0]
              exact hw.ok rfl
            · rw [if_neg (show ¬ nI j < 0 from nI_pos h1), if_neg (fun z => by have := (q_le (by omega) (by omega)).mp z; omega)]
              exact hw.ok rfl
          | some n =>
            obtain ⟨rfl, ln, -⟩ := ix_some hn
            have hg := gOK.of hP.1.2 oR ht
            obtain ⟨M', g1, g2, g3, g4⟩ := s_go hP (by omega) hR (by omega) hD (by omega) hg oD.1 oD.2 (show n ≤ oN (tR T 2 d) by omega)
            rw [if_neg (show ¬ nI n < 0 from nI_pos (by omega)), if_pos ((q_le (by omega) (by omega)).mpr (by omega)), g1, q_bd_some]
            have hle : doneS (tP T p) (tR T 1 g) (tR T 2 d) n ≤ n := by
              unfold doneS
              cases hq : fst1 (fun k => (goS (tP T p) (tR T 1 g) (tR T 2 d) (begW (tR T 1 g)) (k + 1)).isNone) n with
              | none => exact Nat.le_refl _
              | some c => have := (fst1_some hq).1; show c ≤ n; omega
            cases hw1 : goS (tP T p) (tR T 1 g) (tR T 2 d) (begW (tR T 1 g)) n with
            | none =>
              rw [hw1] at g3
              rw [if_neg (fun z => by
                have := (q_le (by omega) (by omega)).mp z
                have := g3.mp (by omega)
                cases this)]
              refine hw.ok ?_
              dsimp only
              rw [hw1]
              rfl
            | some W =>
              rw [hw1] at g3
              rw [g3.mpr rfl, if_pos ((q_le (by omega) (by omega)).mpr (Nat.le_refl _))]
              have hPM := rP_ag hP (g4.agr (n := 249) rfl) (Nat.zero_le _) (by omega)
              have hRM := rR_ag hR (g4.agr (n := 249) rfl) (Nat.zero_le _) (by omega)
              have hW := goS_ok oD.2 (W := begW (tR T 1 g)) (P := tP T p) ⟨fun k _ => Or.inl rfl, fun p _ => Or.inl rfl⟩ (show n ≤ oN (tR T 2 d) by omega) hw1
              exact hw.bd ((s_answerW hPM (by omega) hRM (by omega) hg hW (g2 W hw1) w).mono (fun v M'' e => hw.ok (by dsimp only; rw [hw1]; exact e)))
end CLS
