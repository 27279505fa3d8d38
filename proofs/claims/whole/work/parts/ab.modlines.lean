/-! THE MODEL'S READER: all lines -/
def mX (s : Nat) (M : PM) (X : Txt) : Prop := match s with
  | 0 => mX0 M X
  | 1 => mX1 M X
  | 2 => mX2 40 M X
  | 3 => mX2 12 M X
  | _ => mX4 M X
theorem mX_eq {s : Nat} {M M' : PM} {X : Txt} (h : mX s M X) (h1 : M'.1 286 = M.1 286) (h2 : M'.1 275 22 = M.1 275 22) : mX s M' X := by
  match s with
  | 0 => exact mX0_eq h h1 h2
  | 1 => exact mX1_eq h h1
  | 2 => exact mX2_eq h h1
  | 3 => exact mX2_eq h h1
  | _ + 4 => exact mX4_eq h h1
section MOD
variable {B : Nat → Nat} {L : Nat}
theorem m_dine {M : PM} {X : Txt} {p : Nat} (hr : mrd M B L) (hL : L ≤ 600) (hB : ∀ i, B i < 256) (hp : p ≤ L) (hs : mSt M B L p (xF X) (xQ X)) (h : mX4 M X) (ok : xOK 4 X) : lnOut M B L 4 p X mX4 (f_X11_dinnerLine (lN (wdN B L p)) (nI (sT B L p)) M) := by
  have p4 := (tok_ok (B := B) hL hp).2.2.2.1
  unfold f_X11_dinnerLine
  rw [cw_17]
  cases hk : lkS B L 4 p with
  | none =>
    rw [if_neg (w_none hL hp hk 17 (by omega) (by decide +kernel))]
    exact ln_none hk hs.1
  | some k =>
    obtain ⟨h1, h2, h3⟩ := lkS_iff.mp hk
    have k17 := (tb_s1 k h1).2.2.2.mp h2
    subst k17
    obtain ⟨yes, no⟩ := w_some hL hp hk
    have k1 := lkS_1 hk
    have s6 := (tok_ok (B := B) hL hp).2.1
    obtain ⟨⟨n, d1, d2⟩, hE⟩ := h
    have oR := (ok.2.1 (by omega)).1
    have o9 : oN (xR X) ≤ 8 := oR.1
    obtain ⟨M1, f1, f2, f3⟩ := s_fullM (c := 0) (n := n) (lim := 8) hs.2 (by omega) (by omega) d1 (by omega) (by omega)
    obtain ⟨M2, t1', t2', t3'⟩ := tok_next (hr.fr f2 rfl (fun _ => rfl)) hL hB hp (mTk.fr hs.1 f2 rfl rfl rfl rfl rfl) (by omega) f3
    have hd : xF X = 0 → decide (n = 8) = decide (8 ≤ oN (xR X)) := fun hz => by
      have hm : n = oN (xR X) := (q_eq (by omega) (by omega)).mp (d1.symm.trans (hE hz).1)
      rw [decide_eq_decide]
      omega
    have hall : hr_fr lmW M M2 := (hr_fr.mono rfl f2).tr (hr_fr.mono rfl t2')
    have r86 : M2.1 286 = M.1 286 := by rw [t2'.row 286 (fun _ => rfl), f2.row 286 (fun _ => rfl)]
    have hrN : mrd M2 B L := hr.fr hall rfl (fun _ => rfl)
    rw [if_pos yes, show f_X11_full 0 8 (nI (sT B L p)) M = some ((), M1) from f1, q_bd_some, t1', q_bd_some]
    by_cases z : kT B L (nT B L p) = 2
    · have e : preS B L 4 p X = (true, (gdS B L 601 (nT B L p) 0 none).1, gefX (sT B L p) (gdS B L 601 (nT B L p) 0 none).2.1 (gdS B L 601 (nT B L p) 0 none).2.2 X) := by
        unfold preS; rw [hk]; dsimp only; rw [if_pos rfl, if_neg (fun w => w z)]
      refine m_guestL (X := X) (Q := lnOut M B L 4 p X mX4) hrN hL hB p4 t3' (by rw [r86]; exact d1) d2 (fun hz => (mX4_eq (M := M) ⟨⟨n, d1, d2⟩, hE⟩ r86).2 hz) o9 z _ _ ?_
      intro M' g1 g2 g3 g4 g5
      obtain ⟨e1, e2, e3⟩ := gf_fin (X := X) (ws := sT B L p) (s := (gdS B L 601 (nT B L p) 0 none).2.1) (b := (gdS B L 601 (nT B L p) 0 none).2.2) hd rfl rfl
      refine Or.inr ⟨by rw [e], M', rfl, hall.tr g1, by rw [e]; exact ⟨g2, flm_eq g3 e1 e2⟩, ?_⟩
      rw [e]
      refine ⟨g4, fun hz => ?_⟩
      obtain ⟨x1, x2, x3⟩ := e3 hz
      have hm : n = oN (xR X) := (q_eq (by omega) (by omega)).mp (d1.symm.trans (hE x1).1)
      dsimp only
      rw [x3]
      exact g5 x1 (by omega)
    · have e : preS B L 4 p X = (false, nT B L p, X) := by
        unfold preS; rw [hk]; dsimp only; rw [if_pos rfl, if_pos z]
      obtain ⟨g1, -⟩ := s_tkB (i := 1) (lo := 0) (hi := 9) (but := -1) hrN hL hB p4 t3' (by omega) (by omega) (by omega) (by omega)
      obtain ⟨M', k1', k2', k3'⟩ := g1 z
      have et : f_X11_take 1 0 9 M2 = some (0, M') := s_takeM (Or.inl rfl) k1'
      obtain ⟨f, hf⟩ : ∃ f, FU = f + 1 := ⟨FU - 1, by unfold FU; rfl⟩
      rw [hf, f_X11_dinnerLine_28.eq_2, et, q_bd_some, if_pos rfl]
      exact Or.inl ⟨by rw [e], M', rfl, hall.tr (hr_fr.mono rfl k2'), by rw [e]; exact k3'⟩
theorem m_line {M : PM} {X : Txt} {s p : Nat} (hr : mrd M B L) (hL : L ≤ 600) (hB : ∀ i, B i < 256) (hp : p ≤ L) (hs5 : s < 5) (hs : mSt M B L p (xF X) (xQ X)) (h : mX s M X) (ok : xOK s X) (hg : M.1 275 23 = nI 1) : lnOut M B L s p X (mX s) (f_X11_lineOf (nI s) (lN (wdN B L p)) (nI (sT B L p)) M) := by
  unfold f_X11_lineOf
  have ss : s = 0 ∨ s = 1 ∨ s = 2 ∨ s = 3 ∨ s = 4 := by omega
  rcases ss with rfl | rfl | rfl | rfl | rfl
  · rw [if_pos (show nI 0 = 0 from rfl)]
    exact ln_wrap (m_pal hr hL hB hp hs h ok hg)
  · rw [if_neg (show ¬ nI 1 = 0 by decide), if_pos (show nI 1 = 1 from rfl)]
    exact ln_wrap (m_gal hr hL hB hp hs h ok)
  · rw [if_neg (show ¬ nI 2 = 0 by decide), if_neg (show ¬ nI 2 = 1 by decide), if_pos (show nI 2 = 2 from rfl)]
    exact ln_wrap (m_day hr hL hB hp hs h ok)
  · rw [if_neg (show ¬ nI 3 = 0 by decide), if_neg (show ¬ nI 3 = 1 by decide), if_neg (show ¬ nI 3 = 2 by decide), if_pos (show nI 3 = 3 from rfl)]
    exact ln_wrap (m_sight hr hL hB hp hs h ok)
  · rw [if_neg (show ¬ nI 4 = 0 by decide), if_neg (show ¬ nI 4 = 1 by decide), if_neg (show ¬ nI 4 = 2 by decide), if_neg (show ¬ nI 4 = 3 by decide)]
    exact ln_wrap (m_dine hr hL hB hp hs h ok)
theorem mKd_i {k j : Nat} (hk : k ≤ 4) (hj : j ≤ 4) : nI (mKd k) = nI (mKd j) ↔ k = j := by
  have : ∀ k, k < 5 → ∀ j, j < 5 → (nI (mKd k) = nI (mKd j) ↔ k = j) := by decide +kernel
  exact this k (by omega) j (by omega)
theorem kT_le (p : Nat) : kT B L p ≤ 4 := by unfold kT; split <;> (try split) <;> (try split) <;> (try split) <;> omega
/-- the lines end so -/
def lsOut (M0 : PM) (B : Nat → Nat) (L s : Nat) (r : Option (Int32 × PM)) : Prop := ∃ M', r = some (bI (readS B L s).1, M') ∧ hr_fr lmW M0 M' ∧ ((readS B L s).1 = false → M'.1 275 17 = nI (sT B L (readS B L s).2.1)) ∧ ((readS B L s).1 = true → mSt M' B L (readS B L s).2.1 (xF (readS B L s).2.2) (xQ (readS B L s).2.2) ∧ mX s M' (readS B L s).2.2 ∧ kT B L (readS B L s).2.1 = 0)
theorem m_lines {M0 : PM} {s : Nat} (hr : mrd M0 B L) (hL : L ≤ 600) (hB : ∀ i, B i < 256) (hs5 : s < 5) (hst : mSt M0 B L 0 0 0) (hX : mX s M0 txt0) : lsOut M0 B L s (f_X11_lines (nI s) M0) := by
  unfold f_X11_lines
  refine hr_for (σ := PM × Bool) (fun f _ st => f_X11_lines_2 (nI s) f (bI st.2) st.1) 301 (fun i st => hr_fr lmW M0 st.1 ∧ (st.2 = true → ∃ p X, p ≤ L ∧ 2 * i ≤ p ∧ mSt st.1 B L p (xF X) (xQ X) ∧ mX s st.1 X ∧ xOK s X ∧ readS B L s = linesS B L s (601 - i) p X) ∧ (st.2 = false → (readS B L s).1 = false ∧ st.1.1 275 17 = nI (sT B L (readS B L s).2.1))) (fun r => lsOut M0 B L s r) ?_ ?_ FU 0 (M0, true) (Nat.zero_le _) (FU_ok (by omega)) ⟨hr_fr.rf _ _, fun _ => ⟨0, txt0, Nat.zero_le _, by omega, hst, hX, txt0_ok hs5, rfl⟩, fun h => by cases h⟩
  · rintro f i ⟨N, v⟩ hi ⟨hf, hT, hF⟩
    dsimp only at hf hT hF
    show lsOut M0 B L s (f_X11_lines_2 (nI s) (f + 1) (bI v) N) ∨ ∃ s' : PM × Bool, f_X11_lines_2 (nI s) (f + 1) (bI v) N = f_X11_lines_2 (nI s) f (bI s'.2) s'.1 ∧ _
    rw [f_X11_lines_2.eq_2]
    cases v with
    | false =>
      left
      obtain ⟨g1, g2⟩ := hF rfl
      rw [if_pos (show bI false = 0 from rfl), if_pos (show bI false = 0 ∨ bI false = 1 from Or.inl rfl)]
      exact ⟨N, by rw [g1], hf, fun _ => g2, fun h => by rw [g1] at h; cases h⟩
    | true =>
      obtain ⟨p, X, hp, hip, hs, hx, ok, he⟩ := hT rfl
      obtain ⟨d, hd⟩ : ∃ d, 601 - i = d + 1 := ⟨600 - i, by omega⟩
      have hd2 : 601 - (i + 1) = d := by omega
      rw [hd] at he
      have e4 : linesS B L s (d + 1) p X = if kT B L p = 0 then (true, p, X) else if (lineS B L s p X).1 = true then linesS B L s d (lineS B L s p X).2.1 (lineS B L s p X).2.2 else (false, (lineS B L s p X).2.1, X) := rfl
      rw [e4] at he
      have kp := kT_le (B := B) (L := L) p
      rw [if_neg (show ¬ bI true = 0 by decide), hs.1.2.2.1]
      by_cases z : kT B L p = 0
      · left
        rw [if_pos z] at he
        rw [if_pos (show nI (mKd (kT B L p)) = 0 by rw [z]; rfl), if_pos (show bI true = 0 ∨ bI true = 1 from Or.inr rfl)]
        exact ⟨N, by rw [he], hf, (fun h => by rw [he] at h; cases h), fun _ => by rw [he]; exact ⟨hs, hx, z⟩⟩
      · right
        rw [if_neg z] at he
        rw [if_neg (show ¬ nI (mKd (kT B L p)) = 0 from fun w => z ((mKd_i (j := 0) kp (by omega)).mp w))]
        generalize hN1 : hr_si N 275 23 1 = N1
        have f1 : hr_fr [(275, 24)] N N1 := by rw [← hN1]; exact hr_fr.si rfl (hr_fr.rf _ _)
        have hs1 : mSt N1 B L p (xF X) (xQ X) := ⟨mTk.fr hs.1 f1 rfl rfl rfl rfl rfl, hs.2.fr f1 rfl rfl⟩
        have hx1 : mX s N1 X := mX_eq hx (f1.row 286 (fun _ => rfl)) (f1.at 275 22 rfl)
        have hf1 : hr_fr lmW M0 N1 := hf.tr (hr_fr.mono rfl f1)
        have hr1 : mrd N1 B L := hr.fr hf1 rfl (fun _ => rfl)
        have e23 : N1.1 275 23 = nI 1 := by rw [← hN1, si_same, if_pos rfl]; rfl
        have key := m_line hr1 hL hB hp hs5 hs1 hx1 ok e23
        -- the word that is read
        have ew : (if N1.1 275 14 = 2 then f_X11_lines_41 (nI s) (fun x2 M => f_X11_lines_2 (nI s) f x2 M) (N.1 275 13) (N1.2.1 275 16) (nI s) N1 else f_X11_lines_41 (nI s) (fun x2 M => f_X11_lines_2 (nI s) f x2 M) (N.1 275 13) 0 (nI s) N1) = f_X11_lines_41 (nI s) (fun x2 M => f_X11_lines_2 (nI s) f x2 M) (nI (sT B L p)) (lN (wdN B L p)) (nI s) N1 := by
          rw [hs1.1.2.2.1, hs.1.2.1]
          unfold wdN
          by_cases y : kT B L p = 1
          · rw [if_pos (show nI (mKd (kT B L p)) = 2 by rw [y]; rfl), if_pos y, hs1.1.2.2.2.2 y]
          · rw [if_neg (show ¬ nI (mKd (kT B L p)) = 2 from fun w => y ((mKd_i (j := 1) kp (by omega)).mp w)), if_neg y]
            rfl
        rw [ew]
        unfold f_X11_lines_41
        have el := preS_line (B := B) (L := L) (s := s) (p := p) (X := X)
        obtain ⟨l1, l2, l3⟩ := lineS_ok (B := B) hL hp hs5 ok
        rcases key with ⟨a1, M', a2, a3, a4⟩ | ⟨a1, M', a2, a3, a4, a5⟩
        · rw [if_pos a1] at el
          have efl : (lineS B L s p X).1 = false := by rw [el]
          rw [if_neg (by rw [efl]; simp)] at he
          rw [a2, q_bd_some, if_pos rfl]
          unfold f_X11_lines_63
          rw [if_pos rfl]
          refine ⟨(M', false), rfl, hf1.tr a3, (fun h => by cases h), fun _ => ⟨by rw [he], ?_⟩⟩
          rw [he, el]
          exact a4
        · rw [if_neg (by rw [a1]; simp)] at el
          rw [a2, q_bd_some, if_neg (show ¬ (1 : Int32) = 0 by decide), a4.1.2.2.1]
          generalize hq : (preS B L s p X).2.1 = q at *
          have kq := kT_le (B := B) (L := L) q
          have hM' : hr_fr lmW M0 M' := hf1.tr a3
          by_cases y : kT B L q = 3
          · rw [if_neg (fun w => w y)] at el
            have efl : (lineS B L s p X).1 = true := by rw [el]
            rw [if_pos efl] at he
            have hq1 : (lineS B L s p X).2.1 = nT B L q := by rw [el]
            have hY1 : (lineS B L s p X).2.2 = (preS B L s p X).2.2 := by rw [el]
            rw [hq1] at l1 he l3
            rw [hY1] at l2 he
            have l3' := l3 efl
            obtain ⟨M2, t1, t2, t3⟩ := s_token (M0 := M') (hr.fr hM' rfl (fun _ => rfl)) hL hB (p := nT B L q) l1 a4.1.1
            rw [if_pos (show nI (mKd (kT B L q)) = 4 by rw [y]; rfl)]
            unfold f_X11_lines_63
            rw [if_neg (show ¬ (1 : Int32) = 0 by decide), t1, q_bd_some]
            have fm : flm M2 (xF (preS B L s p X).2.2) (xQ (preS B L s p X).2.2) (sT B L (nT B L q)) := by
              refine (a4.2.fr t2 rfl rfl).up ?_
              have hq9 : q ≤ L := by
                rcases Nat.lt_or_ge L q with w | w
                · have e1 : nT B L q ≤ L := l1
                  have hstop : ∀ f x, L ≤ x → stp B L blk f x = x := fun f x hx => by
                    cases f with
                    | zero => rfl
                    | succ f => unfold stp; rw [if_neg (by omega)]
                  have e2 : sT B L q = q := hstop 601 q (by omega)
                  have e3 : kT B L q = 0 := by unfold kT; rw [if_pos (by rw [e2]; omega)]
                  omega
                · exact w
              have := sT_mono (B := B) hL hq9 (by omega)
              omega
            exact ⟨(M2, true), rfl, hM'.tr (hr_fr.mono rfl t2), fun _ => ⟨nT B L q, (preS B L s p X).2.2, l1, by omega, ⟨t3, fm⟩, mX_eq a5 (t2.row 286 (fun _ => rfl)) (t2.at 275 22 rfl), l2, by rw [hd2]; exact he⟩, fun h => by cases h⟩
          · rw [if_pos y] at el
            have efl : (lineS B L s p X).1 = false := by rw [el]
            rw [if_neg (by rw [efl]; simp)] at he
            rw [if_neg (show ¬ nI (mKd (kT B L q)) = 4 from fun w => y ((mKd_i (j := 3) kq (by omega)).mp w))]
            unfold f_X11_fails f_X11_lines_63
            rw [q_bd_some, if_pos rfl]
            refine ⟨(hr_si M' 275 17 (M'.1 275 13), false), rfl, hr_fr.si rfl hM', (fun h => by cases h), fun _ => ⟨by rw [he], ?_⟩⟩
            show (hr_si M' 275 17 (M'.1 275 13)).1 275 17 = _
            rw [si_same, if_pos rfl, he, el]
            exact a4.1.2.1
  · rintro f ⟨N, v⟩ ⟨hf, hT, hF⟩
    dsimp only at hf hT hF
    show lsOut M0 B L s (f_X11_lines_2 (nI s) (f + 1) (bI v) N)
    rw [f_X11_lines_2.eq_2]
    cases v with
    | false =>
      obtain ⟨g1, g2⟩ := hF rfl
      rw [if_pos (show bI false = 0 from rfl), if_pos (show bI false = 0 ∨ bI false = 1 from Or.inl rfl)]
      exact ⟨N, by rw [g1], hf, fun _ => g2, fun h => by rw [g1] at h; cases h⟩
    | true =>
      obtain ⟨p, X, hp, hip, -⟩ := hT rfl
      omega
end MOD
