/-! ROWS, ROW, LOOM AND THREAD, by the model -/
section MOD
variable {M : PM} {T : Tol}
theorem hM.fr' {M M' : PM} {q : Nat} {P : Pal} (h : hM M q P) {V : List (Nat × Nat)} (hf : hr_fr V M M') (h1 : ∀ k, hr_in V 281 k = false) (h2 : hr_in V 275 24 = false) (h3 : hr_in V 275 25 = false) (h4 : ∀ k, hr_in V 288 k = false) : hM M' q P := h.at (hf.row 281 h1) (hf.at 275 24 h2) (hf.at 275 25 h3) (hf.row 288 h4)
theorem hM.eq1 {M M' : PM} {q : Nat} {P : Pal} (h : hM M q P) (e : M'.1 = M.1) : hM M' q P := by unfold hM mP at *; rw [e]; exact h
theorem tK.eq1 {M M' : PM} {P : Pal} {n : Nat} {hs : Nat → Nat} (h : tK M P n hs) (e : M'.1 = M.1) : tK M' P n hs := by unfold tK at *; rw [e]; exact h
theorem lN_n0 {x : Nat} (h : x < 2147483648) : lN x = 0 ↔ x = 0 := lN_eq (a := x) (b := 0) (by omega) (by omega)
theorem m_rows (hT : mT M 0 T) (ok : tOK T) (p g : Int32) : hw (f_X11_rows p g M) (fun v _ => v = sp_rows T p g) := by
  unfold f_X11_rows sp_rows
  refine hw.bd ((m_layGallery (hT.si (k := 0) (v := 0)) ok p g).mono (fun v M' h => ?_))
  obtain ⟨h, hf⟩ := h
  cases hg : ix g (tz T 1) with
  | none =>
    rw [hg] at h
    dsimp only at h
    rw [h]
    cases ix p (tz T 0) <;> exact hw.ok rfl
  | some g =>
    cases hp : ix p (tz T 0) with
    | none =>
      rw [hg, hp] at h
      dsimp only at h
      rw [h]
      exact hw.ok rfl
    | some p =>
      rw [hg, hp] at h
      dsimp only at h ⊢
      obtain ⟨rfl, hH, hG⟩ := h
      cases ht : tog (tP T p) (tR T 1 g) with
      | false => exact hw.ok rfl
      | true =>
        have hgk := gOK.of hH.1.1.2 hG.1.2 ht
        rw [if_neg (show ¬ bI true = 0 by decide), if_pos rfl]
        obtain ⟨M1, g1, g2, g3⟩ := s_layPictures ⟨hH, hG⟩ hgk
        have hH1 := hH.fr' g3 (fun _ => rfl) rfl rfl (fun _ => rfl)
        obtain ⟨M2, d1, -⟩ := s_allRows hH1 g2
        rw [g1, q_bd_some, d1]
        exact hw.ok rfl
theorem m_row (hT : mT M 0 T) (ok : tOK T) (p g k : Int32) : hw (f_X11_row p g k M) (fun v _ => v = sp_row T p g k) := by
  unfold f_X11_row sp_row
  refine hw.bd ((m_layGallery (hT.si (k := 0) (v := 0)) ok p g).mono (fun v M' h => ?_))
  obtain ⟨h, hf⟩ := h
  cases hg : ix g (tz T 1) with
  | none =>
    rw [hg] at h
    dsimp only at h
    rw [h]
    cases ix p (tz T 0) <;> exact hw.ok rfl
  | some g =>
    cases hp : ix p (tz T 0) with
    | none =>
      rw [hg, hp] at h
      dsimp only at h
      rw [h]
      exact hw.ok rfl
    | some p =>
      rw [hg, hp] at h
      dsimp only at h ⊢
      obtain ⟨rfl, hH, hG⟩ := h
      cases ht : tog (tP T p) (tR T 1 g) with
      | false => exact hw.ok rfl
      | true =>
        have hgk := gOK.of hH.1.1.2 hG.1.2 ht
        have h9 := hgk.1.2.1
        rw [if_neg (show ¬ bI true = 0 by decide), if_pos rfl, s_pictures hG, q_bd_some, q_lit 1, gO, q_nsub, show (0 : Int32) = nI 0 from rfl, show ((oN (tR T 1 g) : Nat) : Int) - (1 : Nat) = (oN (tR T 1 g) : Int) - 1 from rfl, s_in0 M' k (by omega), q_bd_some]
        unfold plS
        cases hk : ix k (oN (tR T 1 g)) with
        | none => exact hw.ok rfl
        | some k =>
          obtain ⟨rfl, lk, -⟩ := ix_some hk
          rw [if_neg (show ¬ bI (some k).isSome = nI 0 from (by decide : ¬ nI 1 = 0))]
          obtain ⟨M1, g1, g2, g3⟩ := s_layPictures ⟨hH, hG⟩ hgk
          have hH1 := hH.fr' g3 (fun _ => rfl) rfl rfl (fun _ => rfl)
          obtain ⟨M2, d1, d2, d3⟩ := s_allRows hH1 g2
          have hor := orS_le (eF (tP T p) (hsR (tR T 1 g))) (show oN (tR T 1 g) ≤ 10 by omega)
          rw [g1, q_bd_some, d1, q_bd_some]
          dsimp only
          by_cases h0 : 0 < orS (eF (tP T p) (hsR (tR T 1 g))) (oN (tR T 1 g))
          · rw [if_neg (fun z => by rw [lc1 (by omega)] at z; omega), s_rowAt (hH1.eq1 d3) (g2.eq1 d3) d2 h0 lk, q_bd_some, if_pos h0]
            exact hw.ok rfl
          · rw [if_pos (by rw [lc1 (by omega)]; omega), if_neg h0]
            exact hw.ok rfl
theorem m_loom (hT : mT M 0 T) (ok : tOK T) (p s : Int32) : hw (f_X11_loom p s M) (fun v _ => v = sp_loom T p s) := by
  unfold f_X11_loom sp_loom
  refine hw.bd ((m_hand (hT.si (k := 0) (v := 0)) ok p).mono (fun v M' h => ?_))
  replace h := h.1
  cases hp : ix p (tz T 0) with
  | none =>
    rw [hp] at h
    rw [h.1]
    exact hw.ok rfl
  | some p =>
    rw [hp] at h
    obtain ⟨rfl, hH⟩ := h
    dsimp only
    obtain ⟨M1, g1, g2, g3⟩ := s_layThreads hH s
    have hH1 := hH.fr' g3 (fun _ => rfl) rfl rfl (fun _ => rfl)
    obtain ⟨M2, d1, -⟩ := s_allRows hH1 g2
    rw [if_neg (show ¬ nI 1 = 0 by decide), g1, q_bd_some, d1]
    exact hw.ok rfl
theorem m_thread (hT : mT M 0 T) (ok : tOK T) (p s k : Int32) : hw (f_X11_thread p s k M) (fun v _ => v = sp_thread T p s k) := by
  unfold f_X11_thread sp_thread
  refine hw.bd ((m_hand (hT.si (k := 0) (v := 0)) ok p).mono (fun v M' h => ?_))
  replace h := h.1
  cases hp : ix p (tz T 0) with
  | none =>
    rw [hp] at h
    rw [h.1]
    exact hw.ok rfl
  | some p =>
    rw [hp] at h
    obtain ⟨rfl, hH⟩ := h
    dsimp only
    obtain ⟨M1, g1, g2, g3⟩ := s_layThreads hH s
    have hH1 := hH.fr' g3 (fun _ => rfl) rfl rfl (fun _ => rfl)
    have hn := g2.1.1
    rw [if_neg (show ¬ nI 1 = 0 by decide), g1, q_bd_some, g2.1.2, q_lit 1, gO, q_nsub, show (0 : Int32) = nI 0 from rfl, show ((hN (tP T p) (memS (tP T p) s) : Nat) : Int) - (1 : Nat) = (hN (tP T p) (memS (tP T p) s) : Int) - 1 from rfl, s_in0 M1 k (by omega), q_bd_some]
    unfold plS
    cases hk : ix k (hN (tP T p) (memS (tP T p) s)) with
    | none => exact hw.ok rfl
    | some k =>
      obtain ⟨rfl, lk, -⟩ := ix_some hk
      rw [if_neg (show ¬ bI (some k).isSome = nI 0 from (by decide : ¬ nI 1 = 0))]
      obtain ⟨M2, d1, d2, d3⟩ := s_allRows hH1 g2
      have hor := orS_le (eF (tP T p) (hL (tP T p) (memS (tP T p) s))) hn
      rw [d1, q_bd_some]
      dsimp only
      by_cases h0 : 0 < orS (eF (tP T p) (hL (tP T p) (memS (tP T p) s))) (hN (tP T p) (memS (tP T p) s))
      · have lo := (od_ok hn h0 k lk).2.2.2.2.1
        rw [if_neg (fun z => by rw [lc1 (by omega)] at z; omega), s_rowAt (hH1.eq1 d3) (g2.eq1 d3) d2 h0 lk, q_bd_some, if_pos (q_in (by omega) (by omega)), q_cl (by omega), (((g2.eq1 d3)).2 _ lo).1, if_pos h0]
        exact hw.ok rfl
      · rw [if_pos (by rw [lc1 (by omega)]; omega), if_neg h0]
        exact hw.ok rfl
end MOD
