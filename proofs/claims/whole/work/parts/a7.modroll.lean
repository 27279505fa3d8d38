/-! THE MODEL'S READER: lines of galleries, days, sights -/
theorem cw_7 : (31641073268126309 : Int64) = lN (wcK 7) := by decide +kernel
theorem cw_8 : (465625246068 : Int64) = lN (wcK 8) := by decide +kernel
theorem cw_9 : (1751215719 : Int64) = lN (wcK 9) := by decide +kernel
theorem cw_10 : (1952541541 : Int64) = lN (wcK 10) := by decide +kernel
theorem cw_11 : (2003132786 : Int64) = lN (wcK 11) := by decide +kernel
theorem cw_12 : (435644818802 : Int64) = lN (wcK 12) := by decide +kernel
theorem cw_13 : (465557354085 : Int64) = lN (wcK 13) := by decide +kernel
theorem cw_14 : (1752135026 : Int64) = lN (wcK 14) := by decide +kernel
theorem cw_15 : (1667329133 : Int64) = lN (wcK 15) := by decide +kernel
theorem cw_16 : (32491004094997860 : Int64) = lN (wcK 16) := by decide +kernel
theorem cw_17 : (444351214452 : Int64) = lN (wcK 17) := by decide +kernel
theorem tb_s1 : ∀ k, k < 18 → (kc k / 10 = 1 ↔ k = 7 ∨ k = 8) ∧ (kc k / 10 = 2 ↔ 9 ≤ k ∧ k ≤ 14) ∧ (kc k / 10 = 3 ↔ k = 15 ∨ k = 16) ∧ (kc k / 10 = 4 ↔ k = 17) := by decide +kernel
def mE1 (M : PM) (X : Txt) : Prop := (M.1 286 0 = nI (oN (xR X)) ∧ M.1 286 1 = nI (oL (xR X))) ∧ ∀ i, i < oN (xR X) → M.1 286 (2 + 2 * i) = zI (oA (xR X) i) ∧ M.1 286 (3 + 2 * i) = zI (oB (xR X) i)
def mX1 (M : PM) (X : Txt) : Prop := (∃ n, M.1 286 0 = nI n ∧ n ≤ 9) ∧ (xF X = 0 → mE1 M X)
def mE2 (M : PM) (X : Txt) : Prop := M.1 286 0 = nI (oN (xR X)) ∧ ∀ i, i < oN (xR X) → M.1 286 (1 + 3 * i) = zI (oC (xR X) i) ∧ M.1 286 (1 + 3 * i + 1) = zI (oA (xR X) i) ∧ M.1 286 (1 + 3 * i + 2) = zI (oB (xR X) i)
def mX2 (lim : Nat) (M : PM) (X : Txt) : Prop := (∃ n, M.1 286 0 = nI n ∧ n ≤ lim) ∧ (xF X = 0 → mE2 M X)
theorem mX1_eq {M M' : PM} {X : Txt} (h : mX1 M X) (h1 : M'.1 286 = M.1 286) : mX1 M' X := by
  unfold mX1 mE1 at h ⊢
  rw [h1]
  exact h
theorem mX2_eq {M M' : PM} {X : Txt} {lim : Nat} (h : mX2 lim M X) (h1 : M'.1 286 = M.1 286) : mX2 lim M' X := by
  unfold mX2 mE2 at h ⊢
  rw [h1]
  exact h
section MOD
variable {B : Nat → Nat} {L : Nat}
theorem st_fin {M1 M4 : PM} {q0 : Nat} {F : Nat × Nat} {Y : Txt} {W : List (Nat × Nat)} (c : mSt M1 B L q0 F.1 F.2) (hf : hr_fr W M1 M4) (h1 : hr_in W 275 11 = false) (h2 : hr_in W 275 13 = false) (h3 : hr_in W 275 14 = false) (h4 : hr_in W 275 15 = false) (h5 : hr_in W 275 16 = false) (h6 : hr_in W 275 18 = false) (h7 : hr_in W 275 19 = false) (e1 : F.1 = xF Y) (e2 : F.1 ≠ 0 → F.2 = xQ Y) : mSt M4 B L q0 (xF Y) (xQ Y) :=
  ⟨mTk.fr c.1 hf h1 h2 h3 h4 h5, flm_eq (flm.fr c.2 hf h6 h7) e1 e2⟩
theorem m_gal {M : PM} {X : Txt} {p : Nat} (hr : mrd M B L) (hL : L ≤ 600) (hB : ∀ i, B i < 256) (hp : p ≤ L) (hs : mSt M B L p (xF X) (xQ X)) (h : mX1 M X) (ok : xOK 1 X) : lnOut M B L 1 p X mX1 (f_X11_galleryLine (lN (wdN B L p)) (nI (sT B L p)) M) := by
  have p4 := (tok_ok (B := B) hL hp).2.2.2.1
  cases hk : lkS B L 1 p with
  | none =>
    have hn := w_none hL hp hk
    unfold f_X11_galleryLine
    rw [cw_7, cw_8, if_neg (hn 7 (by omega) (by decide +kernel)), if_neg (hn 8 (by omega) (by decide +kernel))]
    exact ln_none hk hs.1
  | some k =>
    obtain ⟨h1, h2, h3⟩ := lkS_iff.mp hk
    have k78 := (tb_s1 k h1).1.mp h2
    obtain ⟨yes, no⟩ := w_some hL hp hk
    have k1 := lkS_1 hk
    have s6 := (tok_ok (B := B) hL hp).2.1
    obtain ⟨⟨n, d1, d2⟩, hE⟩ := h
    have oR := (ok.2.1 (by omega)).1
    have o9 : oN (xR X) ≤ 9 := oR.1
    rcases k78 with rfl | rfl
    · have ek : kn 7 = 2 ∧ kc 7 = 10 ∧ kfm 7 = 9 ∧ ksl 7 = 1 ∧ ksm 7 = 9 := by decide +kernel
      obtain ⟨q1, q2, q3, q4, q5⟩ := ek
      have fu : fullX 7 X = decide (9 ≤ oN (xR X)) := by
        unfold fullX
        rw [q2, if_neg (by omega), if_neg (by omega), if_neg (by omega)]
        rfl
      obtain ⟨M1, f1, f2, f3⟩ := s_fullM (c := 0) (n := n) (lim := 9) hs.2 (by omega) (by omega) d1 (by omega) (by omega)
      obtain ⟨M2, t1', t2', t3'⟩ := tok_next (hr.fr f2 rfl (fun _ => rfl)) hL hB hp (mTk.fr hs.1 f2 rfl rfl rfl rfl rfl) (by omega) f3
      have hd : xF X = 0 → decide (n = 9) = fullX 7 X := fun hz => by
        have hm : n = oN (xR X) := (q_eq (by omega) (by omega)).mp (d1.symm.trans (hE hz).1.1)
        rw [fu, decide_eq_decide]
        omega
      have hall : hr_fr lmW M M2 := (hr_fr.mono rfl f2).tr (hr_fr.mono rfl t2')
      have r86 : M2.1 286 = M.1 286 := by rw [t2'.row 286 (fun _ => rfl), f2.row 286 (fun _ => rfl)]
      unfold f_X11_galleryLine
      rw [cw_7, if_pos yes]
      unfold f_X11_galleryLine_21
      rw [cw_7, if_pos yes, show (0 : Int32) = nI 0 from rfl, show (9 : Int32) = nI 9 from rfl, f1, q_bd_some]
      unfold f_X11_galleryLine_37
      rw [t1', q_bd_some, cw_8, show (0 : Int32) = nI 0 from rfl, if_neg (show ¬ lg_cmp (lN (wdN B L p)) (lN (wcK 8)) = nI 0 from no 8 (by omega) (by omega))]
      have hrN : mrd M2 B L := hr.fr hall rfl (fun _ => rfl)
      have lf := ln_fail (X := X) (R := mX1) hk (by omega) hall
      have lo := ln_ok (X := X) (R := mX1) hk (by omega) hall q1.symm
      rw [q1] at lf
      generalize hpp : nT B L p = pp at *
      generalize hv0 : vT B L (ps B L pp 0) = v0 at lo
      generalize hv1 : vT B L (ps B L pp 1) = v1 at lo
      generalize hv2 : vT B L (ps B L pp 2) = v2 at lo
      have b0 : badK 7 v0 v1 v2 0 = decide (9 < v0) := by unfold badK; rw [if_pos rfl, q3]
      have b1 : badK 7 v0 v1 v2 1 = bad2 7 v0 v1 := by unfold badK; rw [if_neg (by omega), if_pos rfl]
      refine num_take (Q := lnOut M B L 1 p X mX1) (m := 2) hrN hL hB p4 (j := 0) (d := 0) (by omega) (by omega) (nst_0 (bad := badK 7 v0 v1 v2) t3') 0 9 rfl rfl rfl (by omega) (by omega) (fun _ => by rw [hv0, b0]; unfold bdN; rw [decide_eq_decide]; omega) lf ?_
      intro N1 n1
      refine num_take (Q := lnOut M B L 1 p X mX1) (m := 2) hrN hL hB p4 (j := 1) (d := 0) (by omega) (by omega) n1 1 9 rfl rfl rfl (by omega) (by omega) (fun _ => by
        rw [hv1, b1]
        unfold bdN bad2
        rw [q4, q5, q2, if_neg (by omega), ← Bool.decide_or, decide_eq_decide]
        omega) lf ?_
      intro N2 n2
      have n2' := n2
      obtain ⟨c1, c2, c3, c4, c5, c6⟩ := n2
      have w86 : N2.1 286 = M.1 286 := by rw [c2.row 286 (fun _ => rfl), r86]
      have a0 : N2.1 287 0 = nI v0 := by rw [← hv0]; exact c3 0 (by omega)
      have a1 : N2.1 287 1 = nI v1 := by rw [← hv1]; exact c3 1 (by omega)
      obtain ⟨e1, e2, e3⟩ := nm_fin (B := B) (L := L) (p := pp) (k := 7) (ws := sT B L p) (X := X) (df := decide (n = 9)) (by omega) hd (v0 := v0) (v1 := v1) (v2 := v2) (F := fqS B L (fl2 (xF X) (xQ X) (decide (n = 9)) 3 (sT B L p)) (badK 7 v0 v1 v2) pp 2) (by rw [q1]) rfl (keep_F 7)
      obtain ⟨M4, g1, g2, g3, g4⟩ := s_keepM (M := N2) (c := 0) (b := 2) (w := 2) (n := n) (lim := 9) (by rw [w86]; exact d1) (by omega) d2 (by omega) (by omega) (by omega)
      have f4 : hr_fr [(286, 0)] N2 M4 := g2.fr1 rfl
      rw [show (2 : Int32) = nI 2 from rfl, show (9 : Int32) = nI 9 from rfl, g1, q_bd_some]
      refine lo M4 _ rfl (nm_done n2') ((hr_fr.mono rfl c2).tr (hr_fr.mono rfl f4)) (st_fin c1 f4 rfl rfl rfl rfl rfl rfl rfl e1 e2) ⟨?_, fun hz => ?_⟩
      · by_cases y : n = 9
        · rw [g3 y]; exact ⟨n, by rw [w86]; exact d1, d2⟩
        · exact ⟨n + 1, by rw [g4 (by omega), if_pos rfl], by omega⟩
      · obtain ⟨x1, x2, x3, x4, x5⟩ := e3 hz
        obtain ⟨⟨E1, E2⟩, E3⟩ := hE x1
        have hm : n = oN (xR X) := (q_eq (by omega) (by omega)).mp (d1.symm.trans E1)
        rw [fu] at x2
        have := of_decide_eq_false x2
        have g4' := g4 (by omega)
        have en0 : nu 7 0 v0 = v0 := by unfold nu; rw [if_pos (by omega)]
        have en1 : nu 7 1 v1 = v1 := by unfold nu; rw [if_pos (by omega)]
        rw [x4]
        unfold keepX
        rw [q2, if_neg (by omega), if_neg (by omega), if_neg (by omega), if_neg (by omega), en0, en1]
        refine ⟨⟨?_, ?_⟩, fun i hi => ?_⟩
        · show M4.1 286 0 = nI (oN (xR X) + 1)
          rw [g4', if_pos rfl, hm]
        · show M4.1 286 1 = nI (oL (xR X))
          rw [g4', if_neg (by omega), if_neg (by omega), w86]; exact E2
        · have hi' : i < oN (xR X) + 1 := hi
          show M4.1 286 (2 + 2 * i) = zI (if i = oN (xR X) then (v0 : Int) else oA (xR X) i) ∧ M4.1 286 (3 + 2 * i) = zI (if i = oN (xR X) then (v1 : Int) else oB (xR X) i)
          have w1 : M4.1 286 (2 + 2 * i) = if 2 + 2 * oN (xR X) ≤ 2 + 2 * i ∧ 2 + 2 * i < 2 + 2 * oN (xR X) + 2 then N2.1 287 (2 + 2 * i - (2 + 2 * oN (xR X))) else N2.1 286 (2 + 2 * i) := by rw [g4', if_neg (show ¬ 2 + 2 * i = 0 by omega), hm]
          have w2 : M4.1 286 (3 + 2 * i) = if 2 + 2 * oN (xR X) ≤ 3 + 2 * i ∧ 3 + 2 * i < 2 + 2 * oN (xR X) + 2 then N2.1 287 (3 + 2 * i - (2 + 2 * oN (xR X))) else N2.1 286 (3 + 2 * i) := by rw [g4', if_neg (show ¬ 3 + 2 * i = 0 by omega), hm]
          rw [w1, w2]
          by_cases y : i = oN (xR X)
          · rw [if_pos (show 2 + 2 * oN (xR X) ≤ 2 + 2 * i ∧ 2 + 2 * i < 2 + 2 * oN (xR X) + 2 by omega), if_pos (show 2 + 2 * oN (xR X) ≤ 3 + 2 * i ∧ 3 + 2 * i < 2 + 2 * oN (xR X) + 2 by omega), if_pos y, if_pos y, show 2 + 2 * i - (2 + 2 * oN (xR X)) = 0 by omega, show 3 + 2 * i - (2 + 2 * oN (xR X)) = 1 by omega, a0, a1, q_nz, q_nz]
            exact ⟨rfl, rfl⟩
          · rw [if_neg (show ¬ (2 + 2 * oN (xR X) ≤ 2 + 2 * i ∧ 2 + 2 * i < 2 + 2 * oN (xR X) + 2) by omega), if_neg (show ¬ (2 + 2 * oN (xR X) ≤ 3 + 2 * i ∧ 3 + 2 * i < 2 + 2 * oN (xR X) + 2) by omega), if_neg y, if_neg y, w86]
            exact E3 i (by omega)
    · have ek : kn 8 = 1 ∧ kc 8 = 11 ∧ kfm 8 = 99 := by decide +kernel
      obtain ⟨q1, q2, q3⟩ := ek
      obtain ⟨M2, t1', t2', t3'⟩ := tok_next hr hL hB hp hs.1 (by omega) (hs.2.up (by omega))
      have hall : hr_fr lmW M M2 := hr_fr.mono rfl t2'
      have hd : xF X = 0 → false = fullX 8 X := fun _ => by unfold fullX; rw [if_pos (Or.inr q2)]
      have ef : fl2 (xF X) (xQ X) false 3 (sT B L p) = (xF X, xQ X) := if_neg (fun u => by cases u.2)
      have r86 : M2.1 286 = M.1 286 := t2'.row 286 (fun _ => rfl)
      unfold f_X11_galleryLine
      rw [cw_7, cw_8, if_neg (no 7 (by omega) (by omega)), if_pos yes]
      unfold f_X11_galleryLine_21
      rw [cw_7, if_neg (no 7 (by omega) (by omega))]
      unfold f_X11_galleryLine_37
      rw [t1', q_bd_some, cw_8, if_pos yes]
      have hrN : mrd M2 B L := hr.fr hall rfl (fun _ => rfl)
      have lf := ln_fail (X := X) (R := mX1) hk (by omega) hall
      have lo := ln_ok (X := X) (R := mX1) hk (by omega) hall q1.symm
      rw [q1] at lf
      generalize hpp : nT B L p = pp at *
      generalize hv0 : vT B L (ps B L pp 0) = v0 at lo
      generalize hv1 : vT B L (ps B L pp 1) = v1 at lo
      generalize hv2 : vT B L (ps B L pp 2) = v2 at lo
      have b0 : badK 8 v0 v1 v2 0 = decide (99 < v0) := by unfold badK; rw [if_pos rfl, q3]
      refine num_take (Q := lnOut M B L 1 p X mX1) (m := 1) hrN hL hB p4 (j := 0) (d := 0) (by omega) (by omega) (nst_0 (F := fl2 (xF X) (xQ X) false 3 (sT B L p)) (bad := badK 8 v0 v1 v2) (by rw [ef]; exact t3')) 0 99 rfl rfl rfl (by omega) (by omega) (fun _ => by rw [hv0, b0]; unfold bdN; rw [decide_eq_decide]; omega) lf ?_
      intro N2 n2
      have n2' := n2
      obtain ⟨c1, c2, c3, c4, c5, c6⟩ := n2
      have w86 : N2.1 286 = M.1 286 := by rw [c2.row 286 (fun _ => rfl), r86]
      have a0 : N2.1 287 0 = nI v0 := by rw [← hv0]; exact c3 0 (by omega)
      obtain ⟨e1, e2, e3⟩ := nm_fin (B := B) (L := L) (p := pp) (k := 8) (ws := sT B L p) (X := X) (df := false) (by omega) hd (v0 := v0) (v1 := v1) (v2 := v2) (F := fqS B L (fl2 (xF X) (xQ X) false 3 (sT B L p)) (badK 8 v0 v1 v2) pp 1) (by rw [q1]) rfl (keep_F 8)
      rw [if_pos (show inB 0 4 = true from q_in (i := 0) (by omega) (by omega)), if_pos (show inB 1 121 = true from q_in (i := 1) (by omega) (by omega)), show (0 : Int32).toNatClampNeg = 0 from rfl, show (1 : Int32).toNatClampNeg = 1 from rfl, a0]
      have f4 : hr_fr [(286, 0)] N2 (hr_si N2 286 1 (nI v0)) := hr_fr.si rfl (hr_fr.rf _ _)
      have g4 : ∀ j, (hr_si N2 286 1 (nI v0)).1 286 j = if j = 1 then nI v0 else M.1 286 j := fun j => by rw [si_same, w86]
      refine lo _ _ rfl (nm_done n2') ((hr_fr.mono rfl c2).tr (hr_fr.mono rfl f4)) (st_fin c1 f4 rfl rfl rfl rfl rfl rfl rfl e1 e2) ⟨⟨n, by rw [g4, if_neg (by omega)]; exact d1, d2⟩, fun hz => ?_⟩
      obtain ⟨x1, x2, x3, x4, x5⟩ := e3 hz
      obtain ⟨⟨E1, E2⟩, E3⟩ := hE x1
      rw [x4]
      unfold keepX
      rw [q2, if_neg (by omega), if_neg (by omega), if_neg (by omega), if_pos rfl]
      refine ⟨⟨?_, ?_⟩, fun i hi => ?_⟩
      · rw [g4, if_neg (by omega)]; exact E1
      · rw [g4, if_pos rfl]; rfl
      · have hi' : i < oN (xR X) := hi
        rw [g4, g4, if_neg (show ¬ 2 + 2 * i = 1 by omega), if_neg (show ¬ 3 + 2 * i = 1 by omega)]; exact E3 i hi'
end MOD
