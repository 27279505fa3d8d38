/-! THE MODEL'S STATE -/
section ANS
variable {M : PM} {q g : Nat} {P : Pal} {R : Rol} {W : Wk}
theorem m_ansW (hB : mB M q P g R) (hg : gOK P R) (hW : wOK P W) (hC : mW M R W) (w : Int32) : hw (hr_bd (f_X11_pictures M) (fun v18 M18 =>
          hr_bd (f_X11_in w 10 (9 + v18) M18) (fun v20 M20 =>
          if v20 = 0 then
            hr_bd (f_X11_pictures M20) (fun v23 M23 =>
            hr_bd (f_X11_in w 20 (19 + v23) M23) (fun v25 M25 =>
            if v25 = 0 then
              hr_bd (f_X11_in w 30 35 M25) (fun v28 M28 =>
              if v28 = 0 then
                hr_bd (f_X11_in w 40 45 M28) (fun v31 M31 =>
                if v31 = 0 then
                  hr_bd (f_X11_in w 50 55 M31) (fun v34 M34 =>
                  if v34 = 0 then
                    hr_bd (f_X11_in w 60 63 M34) (fun v37 M37 =>
                    if v37 = 0 then
                      if w = 0 then
                        some ((M37.1 275 35), M37)
                      else
                        if w = 1 then
                          some ((M37.1 275 36), M37)
                        else
                          if w = 2 then
                            some ((M37.1 275 37), M37)
                          else
                            if w = 3 then
                              some ((M37.1 275 38), M37)
                            else
                              some ((-2), M37)
                    else
                      hr_bd (f_X11_rash (w - 60) M37) (fun v49 M49 =>
                      some (v49, M49)))
                  else
                    if inB (w - 50) 6 = true then 
                    some ((M34.1 294 (w - 50).toNatClampNeg), M34) else none)
                else
                  if inB (w - 40) 6 = true then 
                  some ((M31.1 293 (w - 40).toNatClampNeg), M31) else none)
              else
                if inB (w - 30) 6 = true then 
                some ((M28.1 292 (w - 30).toNatClampNeg), M28) else none)
            else
              if inB (w - 20) 9 = true then 
              some ((M25.1 291 (w - 20).toNatClampNeg), M25) else none))
          else
            if inB (w - 10) 9 = true then 
            some ((M20.1 290 (w - 10).toNatClampNeg), M20) else none))) (fun v _ => v = ansS P R W w) := by
  have h9 : oN R ≤ 9 := hg.1.2.1
  have c0 := hC.1
  have c1 : M.1 275 35 = (wF W).1 := by rw [← c0]
  have c2 : M.1 275 36 = (wF W).2.1 := by rw [← c0]
  have c3 : M.1 275 37 = (wF W).2.2.1 := by rw [← c0]
  have c4 : M.1 275 38 = (wF W).2.2.2 := by rw [← c0]
  have hi : ∀ (x y : Int32) (a c : Nat), a < 2147483648 → c < 2147483648 → x = nI a → y = nI c → f_X11_in w x y M = some (bI (decide (¬ w < 0 ∧ a ≤ w.toNatClampNeg ∧ w.toNatClampNeg ≤ c)), M) := by
    rintro x y a c ha hc rfl rfl
    exact s_inab _ _ ha hc
  rw [s_pictures hB.2, q_bd_some, hi 10 (9 + nI (oN R)) 10 (9 + oN R) (by omega) (by omega) rfl (q_add 9 _), q_bd_some, s_pictures hB.2]
  rcases q_any w with h0 | ⟨m, h1, rfl⟩
  · have no : ∀ a c : Nat, decide (¬ w < 0 ∧ a ≤ w.toNatClampNeg ∧ w.toNatClampNeg ≤ c) = false := fun a c => decide_eq_false (fun z => z.1 h0)
    have b0 : bI false = 0 := rfl
    rw [no, if_pos b0, q_bd_some, hi 20 (19 + nI (oN R)) 20 (19 + oN R) (by omega) (by omega) rfl (q_add 19 _), q_bd_some, no, if_pos b0]
    rw [hi 30 35 30 35 (by omega) (by omega) rfl rfl, q_bd_some, no, if_pos b0, hi 40 45 40 45 (by omega) (by omega) rfl rfl, q_bd_some, no, if_pos b0, hi 50 55 50 55 (by omega) (by omega) rfl rfl, q_bd_some, no, if_pos b0, hi 60 63 60 63 (by omega) (by omega) rfl rfl, q_bd_some, no, if_pos b0]
    rw [if_neg (show ¬ w = 0 from q_neg_ne h0 (k := 0) (by omega)), if_neg (show ¬ w = 1 from q_neg_ne h0 (k := 1) (by omega)), if_neg (show ¬ w = 2 from q_neg_ne h0 (k := 2) (by omega)), if_neg (show ¬ w = 3 from q_neg_ne h0 (k := 3) (by omega))]
    unfold ansS
    rw [if_pos h0]
    exact hw.ok rfl
  · rw [ansS_n _ _ _ h1]
    have hd : ∀ a c : Nat, decide (¬ nI m < 0 ∧ a ≤ (nI m).toNatClampNeg ∧ (nI m).toNatClampNeg ≤ c) = decide (a ≤ m ∧ m ≤ c) := by
      intro a c
      rw [q_cl h1]
      have : ¬ nI m < 0 := nI_pos h1
      simp [this]
    have b0 : bI false = 0 := rfl
    have b1 : ¬ bI true = 0 := by decide
    have sb : ∀ (x : Int32) (a : Nat), x = nI a → a ≤ m → nI m - x = nI (m - a) := by
      rintro x a rfl h
      exact q_sub h
    rw [hd]
    by_cases g1 : 10 ≤ m ∧ m ≤ 9 + oN R
    · rw [decide_eq_true g1, if_neg b1, sb 10 10 rfl (by omega), if_pos (q_in (by omega) (by omega)), q_cl (by omega)]
      rw [if_neg (show ¬ m = 0 by omega), if_neg (show ¬ m = 1 by omega), if_neg (show ¬ m = 2 by omega), if_neg (show ¬ m = 3 by omega), if_pos (show m / 10 = 1 by omega), if_pos (show m % 10 < oN R by omega)]
      refine hw.ok ?_
      rw [hC.2.1 (m - 10) (by omega), show m % 10 = m - 10 by omega]
    rw [decide_eq_false g1, if_pos b0, q_bd_some, hi 20 (19 + nI (oN R)) 20 (19 + oN R) (by omega) (by omega) rfl (q_add 19 _), q_bd_some, hd]
    by_cases g2 : 20 ≤ m ∧ m ≤ 19 + oN R
    · rw [decide_eq_true g2, if_neg b1, sb 20 20 rfl (by omega), if_pos (q_in (by omega) (by omega)), q_cl (by omega)]
      rw [if_neg (show ¬ m = 0 by omega), if_neg (show ¬ m = 1 by omega), if_neg (show ¬ m = 2 by omega), if_neg (show ¬ m = 3 by omega), if_neg (show ¬ m / 10 = 1 by omega), if_pos (show m / 10 = 2 by omega), if_pos (show m % 10 < oN R by omega)]
      refine hw.ok ?_
      rw [hC.2.2.1 (m - 20) (by omega), show m % 10 = m - 20 by omega]
    rw [decide_eq_false g2, if_pos b0, hi 30 35 30 35 (by omega) (by omega) rfl rfl, q_bd_some, hd]
    by_cases g3 : 30 ≤ m ∧ m ≤ 35
    · rw [decide_eq_true g3, if_neg b1, sb 30 30 rfl (by omega), if_pos (q_in (by omega) (by omega)), q_cl (by omega)]
      rw [if_neg (show ¬ m = 0 by omega), if_neg (show ¬ m = 1 by omega), if_neg (show ¬ m = 2 by omega), if_neg (show ¬ m = 3 by omega), if_neg (show ¬ m / 10 = 1 by omega), if_neg (show ¬ m / 10 = 2 by omega), if_pos (show m / 10 = 3 by omega), if_pos (show m % 10 < 6 by omega)]
      refine hw.ok ?_
      rw [(hC.2.2.2 (m - 30) (by omega)).1, show m % 10 = m - 30 by omega]
    rw [decide_eq_false g3, if_pos b0, hi 40 45 40 45 (by omega) (by omega) rfl rfl, q_bd_some, hd]
    by_cases g4 : 40 ≤ m ∧ m ≤ 45
    · rw [decide_eq_true g4, if_neg b1, sb 40 40 rfl (by omega), if_pos (q_in (by omega) (by omega)), q_cl (by omega)]
      rw [if_neg (show ¬ m = 0 by omega), if_neg (show ¬ m = 1 by omega), if_neg (show ¬ m = 2 by omega), if_neg (show ¬ m = 3 by omega), if_neg (show ¬ m / 10 = 1 by omega), if_neg (show ¬ m / 10 = 2 by omega), if_neg (show ¬ m / 10 = 3 by omega), if_pos (show m / 10 = 4 by omega), if_pos (show m % 10 < 6 by omega)]
      refine hw.ok ?_
      rw [(hC.2.2.2 (m - 40) (by omega)).2.1, show m % 10 = m - 40 by omega]
    rw [decide_eq_false g4, if_pos b0, hi 50 55 50 55 (by omega) (by omega) rfl rfl, q_bd_some, hd]
    by_cases g5 : 50 ≤ m ∧ m ≤ 55
    · rw [decide_eq_true g5, if_neg b1, sb 50 50 rfl (by omega), if_pos (q_in (by omega) (by omega)), q_cl (by omega)]
      rw [if_neg (show ¬ m = 0 by omega), if_neg (show ¬ m = 1 by omega), if_neg (show ¬ m = 2 by omega), if_neg (show ¬ m = 3 by omega), if_neg (show ¬ m / 10 = 1 by omega), if_neg (show ¬ m / 10 = 2 by omega), if_neg (show ¬ m / 10 = 3 by omega), if_neg (show ¬ m / 10 = 4 by omega), if_pos (show m / 10 = 5 by omega), if_pos (show m % 10 < 6 by omega)]
      refine hw.ok ?_
      rw [(hC.2.2.2 (m - 50) (by omega)).2.2, show m % 10 = m - 50 by omega]
    rw [decide_eq_false g5, if_pos b0, hi 60 63 60 63 (by omega) (by omega) rfl rfl, q_bd_some, hd]
    by_cases g6 : 60 ≤ m ∧ m ≤ 63
    · rw [decide_eq_true g6, if_neg b1, sb 60 60 rfl (by omega), s_rash11 hB hg hW hC, q_bd_some]
      rw [if_neg (show ¬ m = 0 by omega), if_neg (show ¬ m = 1 by omega), if_neg (show ¬ m = 2 by omega), if_neg (show ¬ m = 3 by omega), if_neg (show ¬ m / 10 = 1 by omega), if_neg (show ¬ m / 10 = 2 by omega), if_neg (show ¬ m / 10 = 3 by omega), if_neg (show ¬ m / 10 = 4 by omega), if_neg (show ¬ m / 10 = 5 by omega), if_pos (show m / 10 = 6 by omega), if_pos (show m % 10 < 4 by omega)]
      refine hw.ok ?_
      rw [show m % 10 = m - 60 by omega]
    rw [decide_eq_false g6, if_pos b0, c1, c2, c3, c4]
    have el : ∀ k : Nat, k < 2147483648 → (nI m = nI k ↔ m = k) := fun k hk => q_eq h1 hk
    by_cases n0 : m = 0
    · rw [if_pos n0, if_pos (show nI m = 0 from (el 0 (by omega)).mpr n0)]; exact hw.ok rfl
    rw [if_neg n0, if_neg (show ¬ nI m = 0 from fun z => n0 ((el 0 (by omega)).mp z))]
    by_cases n1 : m = 1
    · rw [if_pos n1, if_pos (show nI m = 1 from (el 1 (by omega)).mpr n1)]; exact hw.ok rfl
    rw [if_neg n1, if_neg (show ¬ nI m = 1 from fun z => n1 ((el 1 (by omega)).mp z))]
    by_cases n2 : m = 2
    · rw [if_pos n2, if_pos (show nI m = 2 from (el 2 (by omega)).mpr n2)]; exact hw.ok rfl
    rw [if_neg n2, if_neg (show ¬ nI m = 2 from fun z => n2 ((el 2 (by omega)).mp z))]
    by_cases n3 : m = 3
    · rw [if_pos n3, if_pos (show nI m = 3 from (el 3 (by omega)).mpr n3)]; exact hw.ok rfl
    rw [if_neg n3, if_neg (show ¬ nI m = 3 from fun z => n3 ((el 3 (by omega)).mp z))]
    refine hw.ok ?_
    by_cases k1 : m / 10 = 1
    · rw [if_pos k1, if_neg (by omega)]; rfl
    rw [if_neg k1]
    by_cases k2 : m / 10 = 2
    · rw [if_pos k2, if_neg (by omega)]; rfl
    rw [if_neg k2]
    by_cases k3 : m / 10 = 3
    · rw [if_pos k3, if_neg (by omega)]; rfl
    rw [if_neg k3]
    by_cases k4 : m / 10 = 4
    · rw [if_pos k4, if_neg (by omega)]; rfl
    rw [if_neg k4]
    by_cases k5 : m / 10 = 5
    · rw [if_pos k5, if_neg (by omega)]; rfl
    rw [if_neg k5]
    by_cases k6 : m / 10 = 6
    · rw [if_pos k6, if_neg (by omega)]; rfl
    rw [if_neg k6]
    rfl
end ANS
section MOD
variable {M : PM} {T : Tol}
theorem m_state (hT : mT M 0 T) (ok : tOK T) (p g d n w : Int32) : hw (f_X11_state p g d n w M) (fun v _ => v = sp_state T p g d n w) := by
  unfold f_X11_state sp_state
  obtain ⟨e1, e2⟩ := m_hasDay (hT.si (k := 0) (v := 0)) ok d
  rw [e1, q_bd_some]
  cases hd : ix d (tz T 2) with
  | none => exact hw.ok rfl
  | some d =>
    obtain ⟨rfl, ld, -⟩ := ix_some hd
    rw [if_neg (show ¬ bI (some d).isSome = 0 from (by decide : ¬ nI 1 = 0))]
    refine hw.bd ((m_layGallery ((hT.si (k := 0) (v := 0)).si (k := 29) (v := nI d)) ok p g).mono (fun v M' h => ?_))
    obtain ⟨h, hf⟩ := h
    cases hg : ix g (tz T 1) with
    | none =>
      rw [hg] at h
      dsimp only at h
      rw [h]
      cases ix p (tz T 0) <;> exact hw.ok rfl
    | some g =>
      cases hp : ix p (tz T 0) with
      | none =>
        rw [hg, hp] at h
        dsimp only at h
        rw [h]
        exact hw.ok rfl
      | some p =>
        rw [hg, hp] at h
        dsimp only at h ⊢
        obtain ⟨rfl, hH, hG⟩ := h
        have hDM : gD M' d (tR T 2 d) := (e2 d rfl ld).at (hf.row 283 (fun _ => rfl)) (hf.at 275 29 rfl)
        have h40 : oN (tR T 2 d) ≤ 40 := hDM.1.2.1
        have h9 : oN (tR T 1 g) ≤ 9 := hG.1.2.1
        cases ht : tog (tP T p) (tR T 1 g) with
        | false => exact hw.ok rfl
        | true =>
          rw [if_neg (show ¬ bI true = 0 by decide), if_pos rfl, s_deeds hDM, q_bd_some, show (0 : Int32) = nI 0 from rfl, s_inc M' n (by omega), q_bd_some]
          cases hn : ix n (oN (tR T 2 d) + 1) with
          | none => exact hw.ok rfl
          | some n =>
            obtain ⟨rfl, ln, -⟩ := ix_some hn
            have hgk := gOK.of hH.1.1.2 hG.1.2 ht
            obtain ⟨M2, g1, g2, g3, g4⟩ := m_play ⟨hH, hG⟩ hDM hgk (show n ≤ oN (tR T 2 d) by omega)
            rw [if_neg (show ¬ bI (some n).isSome = nI 0 from (by decide : ¬ nI 1 = 0)), g1, q_bd_some]
            have hle : doneS (tP T p) (tR T 1 g) (tR T 2 d) n ≤ n := by
              unfold doneS
              cases hq : fst1 (fun k => (goS (tP T p) (tR T 1 g) (tR T 2 d) (begW (tR T 1 g)) (k + 1)).isNone) n with
              | none => exact Nat.le_refl _
              | some c => have := (fst1_some hq).1; show c ≤ n; omega
            cases hw1 : goS (tP T p) (tR T 1 g) (tR T 2 d) (begW (tR T 1 g)) n with
            | none =>
              rw [hw1] at g3
              rw [if_neg (fun z => by
                have := (q_le (by omega) (by omega)).mp z
                have := g3.mp (by omega)
                cases this)]
              refine hw.ok ?_
              dsimp only
              rw [hw1]
              rfl
            | some W =>
              rw [hw1] at g3
              rw [g3.mpr rfl, if_pos ((q_le (by omega) (by omega)).mpr (Nat.le_refl _))]
              dsimp only
              rw [hw1]
              dsimp only
              have hB : mB M2 p (tP T p) g (tR T 1 g) := mB.fr ⟨hH, hG⟩ g4 rfl
              have hW := goS_ok hDM.1.2.2 (W := begW (tR T 1 g)) (P := tP T p) ⟨fun k _ => Or.inl rfl, fun p _ => Or.inl rfl⟩ (show n ≤ oN (tR T 2 d) by omega) hw1
              exact m_ansW hB hgk hW (g2 W hw1) w
end MOD
