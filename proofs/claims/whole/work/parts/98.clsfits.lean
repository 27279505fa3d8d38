/-! FITS, by the class -/
/-- a slot that is filled -/
def gval (M : PM) (t : Nat) (P : Pal) (R : Rol) : Prop := gAll M t P R ∧ M.1 266 t = ocI (telS P R)
/-- slots that are filled tell truly -/
def Gk (M : PM) (T : Tol) : Prop := ∀ p s, p < 2 → s < 2 → M.1 265 (2 * p + s) = zI (-1) ∨ (p < tz T 0 ∧ s < tz T 3) ∧ gval M (2 * p + s) (tP T p) (tR T 3 s)
section CLS
variable {a b : Nat} {P : Pal} {R : Rol} {M0 : PM} {t : Nat}
theorem s_look109 {M : PM} (hP : rP M0 a P) (ha : a + 9 ≤ 240) (hR : rR M0 b R) (hb : b + 4 ≤ 240) (hs : sOK P R) (ht : t < 4) (hI : gI M0 M t) (hg : gst M t P R 1567) : ∃ M', f_X2_look_109 (nI t) a b FU (nI 0) M = some ((), M') ∧ gval M' t P R ∧ gI M0 M' t := by
  refine hr_for (σ := PM) (fun f p N => f_X2_look_109 (nI t) a b f (nI p) N) 3 (fun p N => gI M0 N t ∧ gst N t P R (1567 + p)) (fun r => ∃ M', r = some ((), M') ∧ gval M' t P R ∧ gI M0 M' t) ?_ ?_ FU 0 M (by omega) (FU_ok (by omega)) ⟨hI, hg⟩
  · rintro f p N hp ⟨hI, hg⟩
    right
    obtain ⟨e1, e2, e3⟩ := cd_like hp
    obtain ⟨N', g1, g2, g3⟩ := s_propose hP ha hR hb hs ht (show 1567 + p < 1570 by omega) hg hI
    rw [e1, e2, e3, ← q_nz p] at g1
    show ∃ s', f_X2_look_109 (nI t) a b (f + 1) (nI p) N = f_X2_look_109 (nI t) a b f (nI (p + 1)) s' ∧ _
    rw [f_X2_look_109.eq_2, q_lit 3, gO 3, if_neg (fun z => by have := (q_le (by omega) (by omega)).mp z; omega), show (2 : Int32) = zI 2 from rfl, show (-1 : Int32) = zI (-1) by decide, g1, q_bd_some, q_lit 1, gO 1, q_add]
    exact ⟨N', rfl, g3, g2⟩
  · rintro f N ⟨hI, hg⟩
    obtain ⟨N', g1, g2, g3⟩ := s_mostTelling hP ha ht hI (show gAll N t P R from hg)
    show ∃ M', f_X2_look_109 (nI t) a b (f + 1) (nI 3) N = _ ∧ _
    rw [f_X2_look_109.eq_2, q_lit 3, gO 3, if_pos (Int32.le_refl _), g1, q_bd_some, if_pos (q_in (by omega) (by omega)), q_cl (by omega)]
    refine ⟨_, rfl, ⟨?_, by rw [si_same, if_pos rfl]⟩, g2.1.si (by omega), g2.2.si (Or.inr (Or.inl ⟨rfl, rfl⟩))⟩
    unfold gAll gst at g3 ⊢
    rw [si_ne _ _ _ (show 265 ≠ 266 by omega), si_ne _ _ _ (show 267 ≠ 266 by omega), si_ne _ _ _ (show 268 ≠ 266 by omega), si_ne _ _ _ (show 269 ≠ 266 by omega)]
    exact g3
theorem s_look66 {M : PM} (hP : rP M0 a P) (ha : a + 9 ≤ 240) (hR : rR M0 b R) (hb : b + 4 ≤ 240) (hs : sOK P R) (ht : t < 4) (hI : gI M0 M t) (hg : gst M t P R 1540) : ∃ M', f_X2_look_66 (nI t) a b FU (nI 0) M = some ((), M') ∧ gval M' t P R ∧ gI M0 M' t := by
  refine hr_for (σ := PM) (fun f p N => f_X2_look_66 (nI t) a b f (nI p) N) 3 (fun p N => gI M0 N t ∧ gst N t P R (1540 + 9 * p)) (fun r => ∃ M', r = some ((), M') ∧ gval M' t P R ∧ gI M0 M' t) ?_ ?_ FU 0 M (by omega) (FU_ok (by omega)) ⟨hI, hg⟩
  · rintro f p N hp ⟨hI, hg⟩
    right
    show ∃ s', f_X2_look_66 (nI t) a b (f + 1) (nI p) N = f_X2_look_66 (nI t) a b f (nI (p + 1)) s' ∧ _
    rw [f_X2_look_66.eq_2, q_lit 3, gO 3, if_neg (fun z => by have := (q_le (by omega) (by omega)).mp z; omega), q_lit 1, gO 1]
    refine hr_for (σ := PM) (fun g n N => f_X2_look_75 (nI t) a b (fun x4 M => f_X2_look_66 (nI t) a b f x4 M) g (nI p) (nI n) N) 10 (fun n N => 1 ≤ n ∧ gI M0 N t ∧ gst N t P R (1540 + 9 * p + (n - 1))) (fun r => ∃ s', r = f_X2_look_66 (nI t) a b f (nI (p + 1)) s' ∧ gI M0 s' t ∧ gst s' t P R (1540 + 9 * (p + 1))) ?_ ?_ FU 1 N (by omega) (FU_ok (by omega)) ⟨Nat.le_refl _, hI, hg⟩
    · rintro g n N hn ⟨h1, hI, hg⟩
      right
      obtain ⟨e1, e2, e3⟩ := cd_gap hp h1 (show n ≤ 9 by omega)
      obtain ⟨N', g1, g2, g3⟩ := s_propose hP ha hR hb hs ht (show 1540 + 9 * p + (n - 1) < 1570 by omega) hg hI
      rw [e1, e2, e3, ← q_nz p, ← q_nz n] at g1
      show ∃ s', f_X2_look_75 (nI t) a b _ (g + 1) (nI p) (nI n) N = f_X2_look_75 (nI t) a b _ g (nI p) (nI (n + 1)) s' ∧ _
      rw [f_X2_look_75.eq_2, q_lit 9, gO 9, if_neg (fun z => by have := (q_lt (by omega) (by omega)).mp z; omega), show (1 : Int32) = zI 1 from rfl, g1, q_bd_some, show zI 1 = nI 1 from rfl, q_add]
      exact ⟨N', rfl, by omega, g3, by rw [show 1540 + 9 * p + (n + 1 - 1) = 1540 + 9 * p + (n - 1) + 1 by omega]; exact g2⟩
    · rintro g N ⟨h1, hI, hg⟩
      show ∃ s', f_X2_look_75 (nI t) a b _ (g + 1) (nI p) (nI 10) N = _ ∧ _
      rw [f_X2_look_75.eq_2, q_lit 9, gO 9, if_pos ((q_lt (by omega) (by omega)).mpr (by omega)), q_lit 1, gO 1, q_add]
      exact ⟨N, rfl, hI, by rw [show 1540 + 9 * (p + 1) = 1540 + 9 * p + (10 - 1) by omega]; exact hg⟩
  · rintro f N ⟨hI, hg⟩
    show ∃ M', f_X2_look_66 (nI t) a b (f + 1) (nI 3) N = _ ∧ _
    rw [f_X2_look_66.eq_2, q_lit 3, gO 3, if_pos (Int32.le_refl _)]
    exact s_look109 hP ha hR hb hs ht hI hg
theorem s_look21 {M : PM} (hP : rP M0 a P) (ha : a + 9 ≤ 240) (hR : rR M0 b R) (hb : b + 4 ≤ 240) (hs : sOK P R) (ht : t < 4) (hI : gI M0 M t) (hg : gst M t P R 0) : ∃ M', f_X2_look_21 (nI t) a b FU (nI 0) M = some ((), M') ∧ gval M' t P R ∧ gI M0 M' t := by
  refine hr_for (σ := PM) (fun f p N => f_X2_look_21 (nI t) a b f (nI p) N) 55 (fun p N => gI M0 N t ∧ gst N t P R (offS p)) (fun r => ∃ M', r = some ((), M') ∧ gval M' t P R ∧ gI M0 M' t) ?_ ?_ FU 0 M (by omega) (FU_ok (by omega)) ⟨hI, hg⟩
  · rintro f p N hp ⟨hI, hg⟩
    right
    show ∃ s', f_X2_look_21 (nI t) a b (f + 1) (nI p) N = f_X2_look_21 (nI t) a b f (nI (p + 1)) s' ∧ _
    rw [f_X2_look_21.eq_2, q_lit 54, gO 54, if_neg (fun z => by have := (q_lt (by omega) (by omega)).mp z; omega)]
    refine hr_for (σ := PM) (fun g n N => f_X2_look_32 (nI t) a b (fun x4 M => f_X2_look_21 (nI t) a b f x4 M) g (nI p) (nI n) N) 55 (fun n N => p ≤ n ∧ gI M0 N t ∧ gst N t P R (offS p + (n - p))) (fun r => ∃ s', r = f_X2_look_21 (nI t) a b f (nI (p + 1)) s' ∧ gI M0 s' t ∧ gst s' t P R (offS (p + 1))) ?_ ?_ FU p N (by omega) (FU_ok (by omega)) ⟨Nat.le_refl _, hI, by rw [Nat.sub_self]; exact hg⟩
    · rintro g n N hn ⟨h1, hI, hg⟩
      right
      obtain ⟨e1, e2, e3⟩ := cd_sum h1 (show n < 55 by omega)
      have e4 := (sgl_at p hp n hn h1).2
      obtain ⟨N', g1, g2, g3⟩ := s_propose hP ha hR hb hs ht (show offS p + (n - p) < 1570 by omega) hg hI
      rw [e1, e2, e3, ← q_nz p, ← q_nz n] at g1
      show ∃ s', f_X2_look_32 (nI t) a b _ (g + 1) (nI p) (nI n) N = f_X2_look_32 (nI t) a b _ g (nI p) (nI (n + 1)) s' ∧ _
      rw [f_X2_look_32.eq_2, q_lit 54, gO 54, if_neg (fun z => by have := (q_lt (by omega) (by omega)).mp z; omega), show (0 : Int32) = zI 0 from rfl, g1, q_bd_some, q_lit 1, gO 1, q_add]
      exact ⟨N', rfl, by omega, g3, by rw [show offS p + (n + 1 - p) = offS p + (n - p) + 1 by omega]; exact g2⟩
    · rintro g N ⟨h1, hI, hg⟩
      show ∃ s', f_X2_look_32 (nI t) a b _ (g + 1) (nI p) (nI 55) N = _ ∧ _
      rw [f_X2_look_32.eq_2, q_lit 54, gO 54, if_pos ((q_lt (by omega) (by omega)).mpr (by omega)), q_lit 1, gO 1, q_add]
      exact ⟨N, rfl, hI, hg⟩
  · rintro f N ⟨hI, hg⟩
    show ∃ M', f_X2_look_21 (nI t) a b (f + 1) (nI 55) N = _ ∧ _
    rw [f_X2_look_21.eq_2, q_lit 54, gO 54, if_pos ((q_lt (by omega) (by omega)).mpr (by omega))]
    exact s_look66 hP ha hR hb hs ht hI (by rw [← off_55]; exact hg)
theorem s_look (hP : rP M0 a P) (ha : a + 9 ≤ 240) (hR : rR M0 b R) (hb : b + 4 ≤ 240) (hs : sOK P R) (ht : t < 4) (hg : M0.1 265 t = zI (-1) ∨ gval M0 t P R) : ∃ M', f_X2_look (nI t) a b M0 = some ((), M') ∧ gval M' t P R ∧ gI M0 M' t := by
  unfold f_X2_look
  rw [if_pos hP.1.1, if_pos hR.1, if_pos (q_in (by omega) (by omega)), q_cl (by omega), show (-1 : Int32) = zI (-1) by decide]
  by_cases z : M0.1 265 t = zI (-1)
  · rw [if_pos z, if_pos (q_in (by omega) (by omega))]
    refine s_look21 hP ha hR hb hs ht ⟨(agr.rf _ _ _).si (by omega), (osl.rf _ _).si (Or.inl ⟨rfl, rfl⟩)⟩ ⟨by rw [si_same, if_pos rfl]; rfl, fun j hj => absurd hj (Nat.not_lt_zero _)⟩
  · rw [if_neg z]
    exact ⟨M0, rfl, hg.resolve_left z, agr.rf _ _ _, osl.rf _ _⟩
end CLS
theorem gval.osl {M M' : PM} {t u : Nat} {P : Pal} {R : Rol} (h : gval M u P R) (ho : osl t M M') (hu : u < 4) (hn : u ≠ t) : gval M' u P R := by
  obtain ⟨o1, o2, o3⟩ := ho u hu hn
  obtain ⟨⟨g1, g2⟩, g3⟩ := h
  refine ⟨⟨by rw [o1]; exact g1, fun j hj => ?_⟩, by rw [o2]; exact g3⟩
  have hc := cnt_le (fit P R) 1570
  obtain ⟨p1, p2, p3⟩ := o3 j (by omega)
  rw [p1, p2, p3]
  exact g2 j hj
theorem c_fits {M : PM} {T : Tol} (hT : rT M 1 T) (ok : tOK T) (hk : Gk M T) (p s k w : Int32) : hw (f_X10_fits p s k w M) (fun v M' => v = sp_fits T p s k w ∧ Gk M' T) := by
  have hz := ok.2.2.1
  have z0 := hz 0 (by omega)
  have z3 := hz 3 (by omega)
  unfold f_X10_fits sp_fits
  rw [s_paletteAt hT z0, q_bd_some, show (-2 : Int32) = zI (-2) by decide, show (3 : Int32) = nI 3 from rfl]
  cases hp : ix p (tz T 0) with
  | none =>
    dsimp only
    rw [s_rollAt hT (by omega) (by omega) z3, q_bd_some]
    cases hs : ix s (tz T 3) with
    | none => exact hw.ok ⟨rfl, hk⟩
    | some s =>
      dsimp only
      obtain ⟨rfl, ls, -⟩ := ix_some hs
      have hR := hT.rol (s := 3) (by omega) (by omega) ls
      rw [if_pos hR.1]
      unfold f_X10_goTogether
      dsimp only
      rw [if_pos hR.1, q_bd_some, if_pos rfl]
      exact hw.ok ⟨rfl, hk⟩
  | some p =>
    dsimp only
    obtain ⟨rfl, lp, -⟩ := ix_some hp
    have hP := hT.pal (show p < 2 by omega)
    rw [if_pos hP.1.1, s_rollAt hT (by omega) (by omega) z3, q_bd_some]
    cases hs : ix s (tz T 3) with
    | none =>
      dsimp only
      unfold f_X10_goTogether
      dsimp only
      rw [if_pos hP.1.1, q_bd_some, if_pos rfl]
      exact hw.ok ⟨rfl, hk⟩
    | some s =>
      dsimp only
      obtain ⟨rfl, ls, -⟩ := ix_some hs
      have hR := hT.rol (s := 3) (by omega) (by omega) ls
      have oR := ok.2.2.2.2 3 s (by omega) (by omega) ls
      rw [if_pos hR.1, s_goTogether hP hR (oS_lt (Or.inr (Or.inl rfl)) oR), q_bd_some]
      cases ht : tog (tP T p) (tR T 3 s) with
      | false =>
        rw [if_pos (show bI false = 0 from rfl), if_neg (by simp)]
        exact hw.ok ⟨rfl, hk⟩
      | true =>
        have hsO := sOK.of hP.1.2 oR ht
        rw [if_neg (show ¬ bI true = 0 by decide), if_pos rfl, q_lit 2, gO 2, q_mul, q_add]
        obtain ⟨M1, l1, l2, l3⟩ := s_look (t := 2 * p + s) hP (by omega) hR (by omega) hsO (by omega) (by
          rcases hk p s (by omega) (by omega) with h | h
          · exact Or.inl h
          · exact Or.inr h.2)
        have hk1 : Gk M1 T := by
          intro p' s' hp' hs'
          by_cases e : p' = p ∧ s' = s
          · obtain ⟨rfl, rfl⟩ := e
            exact Or.inr ⟨⟨lp, ls⟩, l2⟩
          · have ne : 2 * p' + s' ≠ 2 * p + s := by omega
            rcases hk p' s' hp' hs' with h | h
            · exact Or.inl (by rw [(l3.2 _ (by omega) ne).1]; exact h)
            · exact Or.inr ⟨h.1, h.2.osl l3.2 (by omega) ne⟩
        obtain ⟨⟨v1, v2⟩, v3⟩ := l2
        have hc := cnt_le (fit (tP T p) (tR T 3 s)) 1570
        rw [l1, q_bd_some]
        unfold fitS
        rw [show (-1 : Int32) = zI (-1) by decide]
        by_cases k1 : k = zI (-1)
        · rw [if_pos k1, if_pos k1]
          by_cases w0 : w = nI 0
          · rw [if_pos (show w = 0 from w0), if_pos w0, if_pos (q_in (by omega) (by omega)), q_cl (by omega), v1]
            exact hw.ok ⟨rfl, hk1⟩
          · rw [if_neg (show ¬ w = 0 from w0), if_neg w0]
            by_cases w1 : w = nI 1
            · rw [if_pos (show w = 1 from w1), if_pos w1, if_pos (q_in (by omega) (by omega)), q_cl (by omega), v3]
              exact hw.ok ⟨rfl, hk1⟩
            · rw [if_neg (show ¬ w = 1 from w1), if_neg w1]
              exact hw.ok ⟨rfl, hk1⟩
        · rw [if_neg k1, if_neg k1]
          unfold f_X2_fitting
          rw [show (-2 : Int32) = zI (-2) by decide, show (0 : Int32) = nI 0 from rfl, show (1 : Int32) = nI 1 from rfl, show (2 : Int32) = nI 2 from rfl]
          cases hx : ix k (cnt (fit (tP T p) (tR T 3 s)) 1570) with
          | none =>
            rcases ix_none hx (by omega) with h0 | ⟨j, h1, rfl, h2⟩
            · rw [if_pos (show k < nI 0 from h0), q_bd_some]
              exact hw.ok ⟨rfl, hk1⟩
            · rw [if_neg (show ¬ nI j < nI 0 from nI_pos h1), if_pos (q_in (by omega) (by omega)), q_cl (by omega), v1, if_neg (fun z => by have := (q_lt (by omega) (by omega)).mp z; omega), q_bd_some]
              exact hw.ok ⟨rfl, hk1⟩
          | some j =>
            obtain ⟨rfl, lj, lj2⟩ := ix_some hx
            obtain ⟨b1, b2, b3⟩ := v2 j lj
            rw [if_neg (show ¬ nI j < nI 0 from nI_pos (by omega)), if_pos (q_in (by omega) (by omega)), q_cl (by omega), v1, if_pos ((q_lt (by omega) (by omega)).mpr lj), q_lit 1570, gO 1570, q_mul, q_add, if_pos (q_in (by omega) (by omega)), if_pos (q_in (by omega) (by omega)), if_pos (q_in (by omega) (by omega)), q_cl (by omega), Nat.mul_comm (2 * p + s) 1570, b1, b2, b3]
            dsimp only
            by_cases w0 : w = nI 0
            · rw [if_pos w0, if_pos w0, q_bd_some]
              exact hw.ok ⟨rfl, hk1⟩
            · rw [if_neg w0, if_neg w0]
              by_cases w1 : w = nI 1
              · rw [if_pos w1, if_pos w1, q_bd_some]
                exact hw.ok ⟨rfl, hk1⟩
              · rw [if_neg w1, if_neg w1]
                by_cases w2 : w = nI 2
                · rw [if_pos w2, if_pos w2, q_bd_some]
                  exact hw.ok ⟨rfl, hk1⟩
                · rw [if_neg w2, if_neg w2, q_bd_some]
                  exact hw.ok ⟨rfl, hk1⟩
