/-! THE MODEL'S READER: lines of sights and dinners -/
def mE4 (M : PM) (X : Txt) : Prop := M.1 286 0 = nI (oN (xR X)) ∧ ∀ i, i < oN (xR X) → M.1 286 (1 + i) = zI (oA (xR X) i)
def mX4 (M : PM) (X : Txt) : Prop := (∃ n, M.1 286 0 = nI n ∧ n ≤ 8) ∧ (xF X = 0 → mE4 M X)
theorem mX4_eq {M M' : PM} {X : Txt} (h : mX4 M X) (h1 : M'.1 286 = M.1 286) : mX4 M' X := by
  unfold mX4 mE4 at h ⊢
  rw [h1]
  exact h
section MOD
variable {B : Nat → Nat} {L : Nat}
theorem m_sight {M : PM} {X : Txt} {p : Nat} (hr : mrd M B L) (hL : L ≤ 600) (hB : ∀ i, B i < 256) (hp : p ≤ L) (hs : mSt M B L p (xF X) (xQ X)) (h : mX2 12 M X) (ok : xOK 3 X) : lnOut M B L 3 p X (mX2 12) (f_X11_sightLine (lN (wdN B L p)) (nI (sT B L p)) M) := by
  have p4 := (tok_ok (B := B) hL hp).2.2.2.1
  cases hk : lkS B L 3 p with
  | none =>
    have hn := w_none hL hp hk
    unfold f_X11_sightLine
    rw [cw_15, cw_16, if_neg (hn 16 (by omega) (by decide +kernel)), if_neg (hn 15 (by omega) (by decide +kernel))]
    exact ln_none hk hs.1
  | some k =>
    obtain ⟨h1, h2, h3⟩ := lkS_iff.mp hk
    have k78 := (tb_s1 k h1).2.2.1.mp h2
    obtain ⟨yes, no⟩ := w_some hL hp hk
    have k1 := lkS_1 hk
    have s6 := (tok_ok (B := B) hL hp).2.1
    obtain ⟨⟨n, d1, d2⟩, hE⟩ := h
    have oR := (ok.2.1 (by omega)).1
    have o9 : oN (xR X) ≤ 12 := oR.1
    have ek : kn k = 2 ∧ kc k = 15 + k ∧ kfm k = 9 ∧ ksl k = 0 ∧ ksm k = 9 := by
      have : ∀ k, k < 18 → k = 15 ∨ k = 16 → kn k = 2 ∧ kc k = 15 + k ∧ kfm k = 9 ∧ ksl k = 0 ∧ ksm k = 9 := by decide +kernel
      exact this k h1 k78
    obtain ⟨q1, q2, q3, q4, q5⟩ := ek
    have fu : fullX k X = decide (12 ≤ oN (xR X)) := by
      unfold fullX
      rw [if_neg (by omega), if_neg (by omega), if_neg (by omega), show kc k / 10 = 3 by omega]
      rfl
    have e21 : f_X11_sightLine (lN (wdN B L p)) (nI (sT B L p)) M = f_X11_sightLine_21 (lN (wdN B L p)) (nI (sT B L p)) M := by
      unfold f_X11_sightLine
      rw [cw_15, cw_16]
      rcases k78 with rfl | rfl
      · rw [if_neg (no 16 (by omega) (by omega)), if_pos yes]
      · rw [if_pos yes]
    obtain ⟨M1, f1, f2, f3⟩ := s_fullM (c := 0) (n := n) (lim := 12) hs.2 (by omega) (by omega) d1 (by omega) (by omega)
    obtain ⟨M2, t1', t2', t3'⟩ := tok_next (hr.fr f2 rfl (fun _ => rfl)) hL hB hp (mTk.fr hs.1 f2 rfl rfl rfl rfl rfl) (by omega) f3
    have hd : xF X = 0 → decide (n = 12) = fullX k X := fun hz => by
      have hm : n = oN (xR X) := (q_eq (by omega) (by omega)).mp (d1.symm.trans (hE hz).1)
      rw [fu, decide_eq_decide]
      omega
    have hall : hr_fr lmW M M2 := (hr_fr.mono rfl f2).tr (hr_fr.mono rfl t2')
    have r86 : M2.1 286 = M.1 286 := by rw [t2'.row 286 (fun _ => rfl), f2.row 286 (fun _ => rfl)]
    rw [e21]
    unfold f_X11_sightLine_21
    rw [show (0 : Int32) = nI 0 from rfl, show (12 : Int32) = nI 12 from rfl, f1, q_bd_some, t1', q_bd_some]
    have hrN : mrd M2 B L := hr.fr hall rfl (fun _ => rfl)
    have lf := ln_fail (X := X) (R := mX2 12) hk (by omega) hall
    have lo := ln_ok (X := X) (R := mX2 12) hk (by omega) hall q1.symm
    rw [q1] at lf
    generalize hpp : nT B L p = pp at *
    generalize hv0 : vT B L (ps B L pp 0) = v0 at lo
    generalize hv1 : vT B L (ps B L pp 1) = v1 at lo
    generalize hv2 : vT B L (ps B L pp 2) = v2 at lo
    have b0 : badK k v0 v1 v2 0 = decide (9 < v0) := by unfold badK; rw [if_pos rfl, q3]
    have b1 : badK k v0 v1 v2 1 = bad2 k v0 v1 := by unfold badK; rw [if_neg (by omega), if_pos rfl]
    refine num_take (Q := lnOut M B L 3 p X (mX2 12)) (m := 2) hrN hL hB p4 (j := 0) (d := 1) (by omega) (by omega) (nst_0 (bad := badK k v0 v1 v2) t3') 0 9 rfl rfl rfl (by omega) (by omega) (fun _ => by rw [hv0, b0]; unfold bdN; rw [decide_eq_decide]; omega) lf ?_
    intro N1 n1
    have w0 : N1.1 287 1 = nI v0 := by rw [← hv0]; exact n1.2.2.1 0 (by omega)
    have u0 := vT_le hL (ps_le (B := B) hL p4 0) (n1.2.2.2.2.2 0 (by omega))
    rw [hv0] at u0
    rw [if_pos (show inB 1 4 = true from q_in (i := 1) (by omega) (by omega)), show (1 : Int32).toNatClampNeg = 1 from rfl, w0]
    refine num_takeB (Q := lnOut M B L 3 p X (mX2 12)) (m := 2) hrN hL hB p4 (j := 1) (d := 1) (by omega) (by omega) n1 0 9 (v0 : Int) rfl rfl rfl (q_nz v0) (by omega) (by omega) (by omega) (fun _ => by
      rw [hv1, b1]
      unfold bdN bad2
      rw [q4, q5, q2, if_neg (by omega), ← Bool.decide_or, decide_eq_decide]
      omega) lf ?_
    intro N2 n2
    have n2' := n2
    obtain ⟨c1, c2, c3, c4, c5, c6⟩ := n2
    have a1 : N2.1 287 1 = nI v0 := by rw [← hv0]; exact c3 0 (by omega)
    have a2 : N2.1 287 2 = nI v1 := by rw [← hv1]; exact c3 1 (by omega)
    have en0 : nu k 0 v0 = v0 := by unfold nu; rw [if_pos (by omega)]
    have en1 : nu k 1 v1 = v1 := by unfold nu; rw [if_pos (by omega)]
    obtain ⟨e1, e2, e3⟩ := nm_fin (B := B) (L := L) (p := pp) (k := k) (ws := sT B L p) (X := X) (df := decide (n = 12)) (by omega) hd (v0 := v0) (v1 := v1) (v2 := v2) (F := fqS B L (fl2 (xF X) (xQ X) (decide (n = 12)) 3 (sT B L p)) (badK k v0 v1 v2) pp 2) (by rw [q1]) rfl (keep_F k)
    have fin : lnOut M B L 3 p X (mX2 12) (f_X11_sightLine_81 (lN (wdN B L p)) (nI (sT B L p)) (nI (k - 15)) 0 N2) := by
      unfold f_X11_sightLine_81
      rw [if_pos (show inB 0 4 = true from q_in (i := 0) (by omega) (by omega)), show (0 : Int32).toNatClampNeg = 0 from rfl]
      generalize hN3 : hr_si N2 287 0 (nI (k - 15)) = N3
      have f3' : hr_fr [(287, 0)] N2 N3 := by rw [← hN3]; exact hr_fr.si rfl (hr_fr.rf _ _)
      have w86 : N3.1 286 = M.1 286 := by rw [f3'.row 286 (fun _ => rfl), c2.row 286 (fun _ => rfl), r86]
      have w87 : ∀ j, N3.1 287 j = if j = 0 then nI (k - 15) else N2.1 287 j := fun j => by rw [← hN3, si_same]
      obtain ⟨M4, g1, g2, g3⟩ := m_keep3 (N := N3) (X := X) (Y := effX k (sT B L p) v0 v1 v2 (sT B L (ps B L pp 0)) (sT B L (ps B L pp 1)) (sT B L (ps B L pp 2)) X) (n := n) (lim := 12) (by rw [w86]; exact d1) d2 (by omega) (fun hz => by
        obtain ⟨x1, x2, x3, x4, x5⟩ := e3 hz
        rw [fu] at x2
        have := of_decide_eq_false x2
        refine ⟨(mX2_eq (M := M) (M' := N3) (lim := 12) ⟨⟨n, d1, d2⟩, hE⟩ w86).2 x1, by omega, ((kc k % 10 : Nat) : Int), nu k 0 v0, nu k 1 v1, ⟨2 ^ v0 ||| 2 ^ v1, ?_⟩, ?_, ?_, ?_⟩
        · rw [x4]
          unfold keepX
          rw [if_neg (by omega), if_neg (by omega), if_neg (by omega), if_neg (by omega), if_neg (by omega), if_pos (by omega)]
          rfl
        · rw [w87, if_pos rfl, q_nz]
          congr 1
          omega
        · rw [w87, if_neg (by omega), a1, en0, q_nz]
        · rw [w87, if_neg (by omega), a2, en1, q_nz])
      have f4 : hr_fr [(287, 0), (286, 0)] N2 M4 := (hr_fr.mono rfl f3').tr (g2.fr1 rfl)
      rw [show f_X11_keep 0 1 3 12 N3 = some ((), M4) from g1, q_bd_some]
      exact lo M4 _ rfl (nm_done n2') ((hr_fr.mono rfl c2).tr (hr_fr.mono rfl f4)) (st_fin c1 f4 rfl rfl rfl rfl rfl rfl rfl e1 e2) g3
    rw [cw_16]
    rcases k78 with rfl | rfl
    · rw [if_neg (show ¬ lg_cmp (lN (wdN B L p)) (lN (wcK 16)) = nI 0 from no 16 (by omega) (by omega))]
      exact fin
    · rw [if_pos (show lg_cmp (lN (wdN B L p)) (lN (wcK 16)) = nI 0 from yes)]
      exact fin
end MOD
