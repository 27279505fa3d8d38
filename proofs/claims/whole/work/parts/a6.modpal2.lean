/-! THE MODEL'S READER: which line of a palette -/
theorem cw_0 : (6845797 : Int64) = lN (wcK 0) := by decide +kernel
theorem cw_1 : (7566701 : Int64) = lN (wcK 1) := by decide +kernel
theorem cw_2 : (6775152 : Int64) = lN (wcK 2) := by decide +kernel
theorem cw_3 : (1818848101 : Int64) = lN (wcK 3) := by decide +kernel
theorem cw_4 : (1885432178 : Int64) = lN (wcK 4) := by decide +kernel
theorem cw_5 : (1668641381 : Int64) = lN (wcK 5) := by decide +kernel
theorem cw_6 : (465625113971 : Int64) = lN (wcK 6) := by decide +kernel
theorem tb_s0 : ∀ k, k < 18 → (kc k / 10 = 0 ↔ k ≤ 6) := by decide +kernel
section MOD
variable {B : Nat → Nat} {L : Nat}
theorem ln_wrap {M : PM} {s p : Nat} {X : Txt} {R : PM → Txt → Prop} {r : Option (Int32 × PM)} (h : lnOut M B L s p X R r) : lnOut M B L s p X R (hr_bd r (fun v M => if v = 0 ∨ v = 1 then some (v, M) else none)) := by
  rcases h with ⟨h1, M', h2, h3⟩ | ⟨h1, M', h2, h3⟩
  · exact Or.inl ⟨h1, M', by rw [h2, q_bd_some, if_pos (Or.inl rfl)], h3⟩
  · exact Or.inr ⟨h1, M', by rw [h2, q_bd_some, if_pos (Or.inr rfl)], h3⟩
theorem ln_none {M : PM} {s p : Nat} {X : Txt} {R : PM → Txt → Prop} (h : lkS B L s p = none) (ht : mTk M B L p) : lnOut M B L s p X R (hr_bd (f_X11_fails M) (fun v M => if v = 0 ∨ v = 1 then some (v, M) else none)) := by
  have e : preS B L s p X = (false, p, X) := by unfold preS; rw [h]
  apply ln_wrap
  unfold f_X11_fails
  exact Or.inl ⟨by rw [e], _, rfl, hr_fr.si rfl (hr_fr.rf _ _), by rw [si_same, if_pos rfl, e]; exact ht.2.1⟩
theorem m_palRule {M : PM} {X : Txt} {p k : Nat} (hr : mrd M B L) (hL : L ≤ 600) (hB : ∀ i, B i < 256) (hp : p ≤ L) (hs : mSt M B L p (xF X) (xQ X)) (h : mX0 M X) (ok : xOK 0 X) (hk : lkS B L 0 p = some k) (h15 : 1 ≤ k ∧ k ≤ 5) : lnOut M B L 0 p X mX0 (f_X11_paletteLine_61 (lN (wdN B L p)) (nI (sT B L p)) (nI (kc k)) M) := by
  obtain ⟨yes, no⟩ := w_some hL hp hk
  obtain ⟨⟨t1, t3⟩, t2, t4, t5⟩ := tb_rule k (by omega) h15.1
  have k1 := lkS_1 hk
  have s6 := (tok_ok (B := B) hL hp).2.1
  have n0 : ¬ lg_cmp (lN (wdN B L p)) 6845797 = 0 := by rw [cw_0]; exact no 0 (by omega) (by omega)
  have n6 : ¬ lg_cmp (lN (wdN B L p)) 465625113971 = 0 := by rw [cw_6]; exact no 6 (by omega) (by omega)
  have nm : ¬ nI (kc k) = -1 := fun w => by
    rw [show (-1 : Int32) = zI (-1) by decide] at w
    have := (q_nzeq (by omega) (by omega)).mp w
    omega
  obtain ⟨⟨n, m, z, ⟨d1, d2⟩, ⟨d3, d4⟩, d5, d6⟩, hE⟩ := h
  obtain ⟨M1, f1, f2, f3⟩ := s_fullM (c := 1) (n := m) (lim := 6) hs.2 (by omega) (by omega) d3 (by omega) (by omega)
  have g1 := mTk.fr hs.1 f2 rfl rfl rfl rfl rfl
  obtain ⟨M2, t1', t2', t3'⟩ := tok_next (hr.fr f2 rfl (fun _ => rfl)) hL hB hp g1 (by omega) f3
  have hd : xF X = 0 → decide (m = 6) = fullX k X := fun hz => by
    obtain ⟨⟨E1, E2⟩, -⟩ := hE hz
    have hm : m = pR (xP X) := (q_eq (by omega) (by have := ok.1.2.1; omega)).mp (d3.symm.trans E2)
    have := ok.1.2.1
    unfold fullX
    rw [if_neg (by omega), if_neg (by omega), if_pos t1, decide_eq_decide]
    omega
  unfold f_X11_paletteLine_61
  rw [if_neg nm]
  unfold f_X11_paletteLine_90
  rw [if_neg n0, if_neg n6, show (1 : Int32) = nI 1 from rfl, show (6 : Int32) = nI 6 from rfl, f1, q_bd_some]
  unfold f_X11_paletteLine_125
  rw [t1', q_bd_some, if_neg nm, if_pos (show inB 2 4 = true from q_in (i := 2) (by omega) (by omega)), show (2 : Int32).toNatClampNeg = 2 from rfl, show (-1 : Int32) = zI (-1) by decide]
  generalize hN : hr_si M2 287 2 (zI (-1)) = N
  have fN : hr_fr [(287, 0)] M2 N := by rw [← hN]; exact hr_fr.si rfl (hr_fr.rf _ _)
  have hall : hr_fr lmW M N := ((hr_fr.mono rfl f2).tr (hr_fr.mono rfl t2')).tr (hr_fr.mono rfl fN)
  have hst : mSt N B L (nT B L p) (fl2 (xF X) (xQ X) (decide (m = 6)) 3 (sT B L p)).1 (fl2 (xF X) (xQ X) (decide (m = 6)) 3 (sT B L p)).2 := ⟨mTk.fr t3'.1 fN rfl rfl rfl rfl rfl, t3'.2.fr fN rfl rfl⟩
  have hx : mX0 N X := mX0_eq (M := M) ⟨⟨n, m, z, ⟨d1, d2⟩, ⟨d3, d4⟩, d5, d6⟩, hE⟩ (by rw [fN.row 286 (fun _ => rfl), t2'.row 286 (fun _ => rfl), f2.row 286 (fun _ => rfl)]) (by rw [fN.at 275 22 rfl, t2'.at 275 22 rfl, f2.at 275 22 rfl])
  have hrN : mrd N B L := hr.fr hall rfl (fun _ => rfl)
  exact m_ruleL hrN hL hB ((tok_ok (B := B) hL hp).2.2.2.1) h15 hx ok hd (by rw [← hN, si_same, if_pos rfl]) hst (lN (wdN B L p)) (nI (sT B L p)) (Q := lnOut M B L 0 p X mX0) (ln_fail hk (by omega) hall) (ln_ok hk (by omega) hall rfl)
theorem m_pal {M : PM} {X : Txt} {p : Nat} (hr : mrd M B L) (hL : L ≤ 600) (hB : ∀ i, B i < 256) (hp : p ≤ L) (hs : mSt M B L p (xF X) (xQ X)) (h : mX0 M X) (ok : xOK 0 X) (hg : M.1 275 23 = nI 1) : lnOut M B L 0 p X mX0 (f_X11_paletteLine (lN (wdN B L p)) (nI (sT B L p)) M) := by
  cases hk : lkS B L 0 p with
  | none =>
    have hn := w_none hL hp hk
    unfold f_X11_paletteLine
    rw [cw_1, cw_2, cw_3, cw_4, cw_5, if_neg (hn 1 (by omega) (by decide +kernel)), if_neg (hn 2 (by omega) (by decide +kernel)), if_neg (hn 3 (by omega) (by decide +kernel)), if_neg (hn 4 (by omega) (by decide +kernel)), if_neg (hn 5 (by omega) (by decide +kernel))]
    unfold f_X11_paletteLine_61
    rw [if_pos rfl, cw_0, cw_6, if_neg (hn 0 (by omega) (by decide +kernel)), if_neg (hn 6 (by omega) (by decide +kernel))]
    exact ln_none hk hs.1
  | some k =>
    obtain ⟨h1, h2, h3⟩ := lkS_iff.mp hk
    have k6 := (tb_s0 k h1).mp h2
    obtain ⟨yes, no⟩ := w_some hL hp hk
    have k1 := lkS_1 hk
    have s6 := (tok_ok (B := B) hL hp).2.1
    by_cases h15 : 1 ≤ k ∧ k ≤ 5
    · have key := m_palRule hr hL hB hp hs h ok hk h15
      unfold f_X11_paletteLine
      rw [cw_1, cw_2, cw_3, cw_4, cw_5]
      have kk : k = 1 ∨ k = 2 ∨ k = 3 ∨ k = 4 ∨ k = 5 := by omega
      rcases kk with rfl | rfl | rfl | rfl | rfl
      · rw [if_pos yes]
        rw [show nI (kc 1) = 0 by decide +kernel] at key
        exact key
      · rw [if_neg (no 1 (by omega) (by omega)), if_pos yes]
        rw [show nI (kc 2) = 1 by decide +kernel] at key
        exact key
      · rw [if_neg (no 1 (by omega) (by omega)), if_neg (no 2 (by omega) (by omega)), if_pos yes]
        rw [show nI (kc 3) = 2 by decide +kernel] at key
        exact key
      · rw [if_neg (no 1 (by omega) (by omega)), if_neg (no 2 (by omega) (by omega)), if_neg (no 3 (by omega) (by omega)), if_pos yes]
        rw [show nI (kc 4) = 3 by decide +kernel] at key
        exact key
      · rw [if_neg (no 1 (by omega) (by omega)), if_neg (no 2 (by omega) (by omega)), if_neg (no 3 (by omega) (by omega)), if_neg (no 4 (by omega) (by omega)), if_pos yes]
        rw [show nI (kc 5) = 4 by decide +kernel] at key
        exact key
    · unfold f_X11_paletteLine
      rw [cw_1, cw_2, cw_3, cw_4, cw_5, if_neg (no 1 (by omega) (by omega)), if_neg (no 2 (by omega) (by omega)), if_neg (no 3 (by omega) (by omega)), if_neg (no 4 (by omega) (by omega)), if_neg (no 5 (by omega) (by omega))]
      unfold f_X11_paletteLine_61
      rw [if_pos rfl, cw_0, cw_6]
      obtain ⟨⟨n, m, z, ⟨d1, d2⟩, ⟨d3, d4⟩, d5, d6⟩, hE⟩ := h
      have hx0 : mX0 M X := ⟨⟨n, m, z, ⟨d1, d2⟩, ⟨d3, d4⟩, d5, d6⟩, hE⟩
      by_cases h0 : k = 0
      · subst h0
        have e0 : kc 0 = 5 ∧ kn 0 = 3 := by decide +kernel
        obtain ⟨M1, f1, f2, f3⟩ := s_fullM (c := 0) (n := n) (lim := 10) hs.2 (by omega) (by omega) d1 (by omega) (by omega)
        have g1 := mTk.fr hs.1 f2 rfl rfl rfl rfl rfl
        obtain ⟨M2, t1', t2', t3'⟩ := tok_next (hr.fr f2 rfl (fun _ => rfl)) hL hB hp g1 (by omega) f3
        have hd : xF X = 0 → decide (n = 10) = fullX 0 X := fun hz => by
          obtain ⟨⟨E1, E2⟩, -⟩ := hE hz
          have hm : n = pH (xP X) := (q_eq (by omega) (by have := ok.1.1; omega)).mp (d1.symm.trans E1)
          have := ok.1.1
          unfold fullX
          rw [if_neg (by omega), if_pos e0.1, decide_eq_decide]
          omega
        rw [if_pos yes]
        unfold f_X11_paletteLine_90
        rw [cw_0, if_pos yes, show (0 : Int32) = nI 0 from rfl, show (10 : Int32) = nI 10 from rfl, f1, q_bd_some]
        unfold f_X11_paletteLine_125
        rw [t1', q_bd_some, if_pos rfl, cw_0, if_pos (show lg_cmp (lN (wdN B L p)) (lN (wcK 0)) = 0 from yes)]
        have hall : hr_fr lmW M M2 := (hr_fr.mono rfl f2).tr (hr_fr.mono rfl t2')
        have hx : mX0 M2 X := mX0_eq hx0 (by rw [t2'.row 286 (fun _ => rfl), f2.row 286 (fun _ => rfl)]) (by rw [t2'.at 275 22 rfl, f2.at 275 22 rfl])
        apply ln_wrap
        have lf := ln_fail (X := X) (R := mX0) hk (by omega) hall
        rw [e0.2] at lf
        exact m_hue (hr.fr hall rfl (fun _ => rfl)) hL hB ((tok_ok (B := B) hL hp).2.2.2.1) hx ok hd t3' (Q := lnOut M B L 0 p X mX0) lf (ln_ok hk (by omega) hall e0.2.symm)
      · have h6 : k = 6 := by omega
        subst h6
        have e0 : kn 6 = 3 := by decide +kernel
        rw [if_neg (no 0 (by omega) (by omega)), if_pos yes]
        unfold f_X11_paletteLine_90
        rw [cw_0, cw_6, if_neg (no 0 (by omega) (by omega)), if_pos yes]
        unfold f_X11_paletteLine_125
        obtain ⟨M2, t1', t2', t3'⟩ := tok_next hr hL hB hp hs.1 (by omega) (hs.2.up (by omega))
        rw [t1', q_bd_some, if_pos rfl, cw_0, if_neg (no 0 (by omega) (by omega))]
        have hall : hr_fr lmW M M2 := hr_fr.mono rfl t2'
        have hx : mX0 M2 X := mX0_fr hx0 t2' (fun _ => rfl) rfl
        apply ln_wrap
        have lf := ln_fail (X := X) (R := mX0) hk (by omega) hall
        rw [e0] at lf
        have ef : fl2 (xF X) (xQ X) false 3 (sT B L p) = (xF X, xQ X) := if_neg (fun u => by cases u.2)
        exact m_likes (hr.fr hall rfl (fun _ => rfl)) hL hB ((tok_ok (B := B) hL hp).2.2.2.1) hx ok (by rw [t2'.at 275 23 rfl]; exact hg) (by rw [ef]; exact t3') (Q := lnOut M B L 0 p X mX0) lf (ln_ok hk (by omega) hall e0.symm)
end MOD
