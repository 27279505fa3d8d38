/-! THE MODEL'S READER: lines of days and sights -/
section MOD
variable {B : Nat → Nat} {L : Nat}
theorem m_keep3 {N : PM} {X Y : Txt} {n lim : Nat} (d1 : N.1 286 0 = nI n) (d2 : n ≤ lim) (hl : lim ≤ 40) (hY : xF Y = 0 → mE2 N X ∧ oN (xR X) < lim ∧ ∃ c a b, (∃ nm, xR Y = addO (xR X) c a b nm) ∧ N.1 287 0 = zI c ∧ N.1 287 1 = zI a ∧ N.1 287 2 = zI b) : ∃ M4, f_X11_keep (nI 0) (nI 1) (nI 3) (nI lim) N = some ((), M4) ∧ rng 286 286 N M4 ∧ mX2 lim M4 Y := by
  obtain ⟨M4, g1, g2, g3, g4⟩ := s_keepM (M := N) (c := 0) (b := 1) (w := 3) (n := n) (lim := lim) d1 (by omega) d2 (by omega) (by omega) (by omega)
  refine ⟨M4, g1, g2, ?_, fun hz => ?_⟩
  · by_cases y : n = lim
    · rw [g3 y]; exact ⟨n, d1, d2⟩
    · exact ⟨n + 1, by rw [g4 (by omega), if_pos rfl], by omega⟩
  · obtain ⟨⟨E1, E3⟩, h1, c, a, b, ⟨nm, h2⟩, h3, h4, h5⟩ := hY hz
    have hm : n = oN (xR X) := (q_eq (by omega) (by omega)).mp (d1.symm.trans E1)
    have g4' := g4 (by omega)
    unfold mE2
    rw [h2]
    refine ⟨?_, fun i hi => ?_⟩
    · show M4.1 286 0 = nI (oN (xR X) + 1)
      rw [g4', if_pos rfl, hm]
    · have hi' : i < oN (xR X) + 1 := hi
      show M4.1 286 (1 + 3 * i) = zI (if i = oN (xR X) then c else oC (xR X) i) ∧ M4.1 286 (1 + 3 * i + 1) = zI (if i = oN (xR X) then a else oA (xR X) i) ∧ M4.1 286 (1 + 3 * i + 2) = zI (if i = oN (xR X) then b else oB (xR X) i)
      have w : ∀ t, t < 3 → M4.1 286 (1 + 3 * i + t) = if i = oN (xR X) then N.1 287 t else N.1 286 (1 + 3 * i + t) := fun t ht => by
        rw [g4', if_neg (show ¬ 1 + 3 * i + t = 0 by omega), hm]
        by_cases y : i = oN (xR X)
        · rw [if_pos (show 1 + 3 * oN (xR X) ≤ 1 + 3 * i + t ∧ 1 + 3 * i + t < 1 + 3 * oN (xR X) + 3 by omega), if_pos y, show 1 + 3 * i + t - (1 + 3 * oN (xR X)) = t by omega]
        · rw [if_neg (show ¬ (1 + 3 * oN (xR X) ≤ 1 + 3 * i + t ∧ 1 + 3 * i + t < 1 + 3 * oN (xR X) + 3) by omega), if_neg y]
      have w0 := w 0 (by omega)
      rw [Nat.add_zero] at w0
      rw [w0, w 1 (by omega), w 2 (by omega)]
      by_cases y : i = oN (xR X)
      · rw [if_pos y, if_pos y, if_pos y, if_pos y, if_pos y, if_pos y]
        exact ⟨h3, h4, h5⟩
      · rw [if_neg y, if_neg y, if_neg y, if_neg y, if_neg y, if_neg y]
        exact E3 i (by omega)
theorem tb_deed : ∀ k, k < 15 → 9 ≤ k → kc k = 20 + (k - 9) ∧ kn k ≤ 2 ∧ kc k % 10 = k - 9 := by decide +kernel
/-- a deed's numbers -/
theorem m_deedNums {M0 : PM} {p k : Nat} {F : Nat × Nat} (hr : mrd M0 B L) (hL : L ≤ 600) (hB : ∀ i, B i < 256) (hp : p ≤ L) (hk : 9 ≤ k ∧ k ≤ 14) (hs : mSt M0 B L p F.1 F.2) : ∀ {Q : Option (Int32 × PM) → Prop} (_ : ∀ M', (nmS B L (kn k) p).1 = false → hr_fr tmW M0 M' → M'.1 275 17 = nI (sT B L (nmS B L (kn k) p).2) → Q (some (0, M'))) (_ : ∀ M', nst M0 M' B L p 1 F (badK k (vT B L (ps B L p 0)) (vT B L (ps B L p 1)) (vT B L (ps B L p 2))) (kn k) → Q (some (1, M'))), Q (f_X11_deedNumbers (nI (k - 9)) M0) := by
  intro Q hfail hok
  have e9 : kn 9 = 2 ∧ kc 9 = 20 ∧ kfm 9 = 8 ∧ ksl 9 = 0 ∧ ksm 9 = 3 := by decide +kernel
  have e10 : kn 10 = 1 ∧ kc 10 = 21 ∧ kfm 10 = 8 := by decide +kernel
  have e11 : kn 11 = 2 ∧ kc 11 = 22 ∧ kfm 11 = 5 ∧ ksl 11 = 0 ∧ ksm 11 = 9 := by decide +kernel
  have e12 : kn 12 = 2 ∧ kc 12 = 23 ∧ kfm 12 = 5 ∧ ksl 12 = 0 ∧ ksm 12 = 3 := by decide +kernel
  have e13 : kn 13 = 1 ∧ kc 13 = 24 ∧ kfm 13 = 5 := by decide +kernel
  have e14 : kn 14 = 0 ∧ kc 14 = 25 := by decide +kernel
  generalize hv0 : vT B L (ps B L p 0) = v0 at hok
  generalize hv1 : vT B L (ps B L p 1) = v1 at hok
  generalize hv2 : vT B L (ps B L p 2) = v2 at hok
  have b0 : ∀ k, badK k v0 v1 v2 0 = decide (kfm k < v0) := fun k => by unfold badK; rw [if_pos rfl]
  have b1 : ∀ k, badK k v0 v1 v2 1 = bad2 k v0 v1 := fun k => by unfold badK; rw [if_neg (by omega), if_pos rfl]
  -- of one number
  have one : ∀ k hi, kn k = 1 → kfm k = hi → hi ≤ 99 → (∀ M', (nmS B L (kn k) p).1 = false → hr_fr tmW M0 M' → M'.1 275 17 = nI (sT B L (nmS B L (kn k) p).2) → Q (some (0, M'))) → (∀ M', nst M0 M' B L p 1 F (badK k v0 v1 v2) (kn k) → Q (some (1, M'))) → Q (hr_bd (f_X11_take (nI 1) (nI 0) (nI hi) M0) (fun v M => if v = 0 ∨ v = 1 then some (v, M) else none)) := by
    intro k hi k1 k3 hh hfail hok
    rw [k1] at hfail hok
    have n0 := nst_0 (bad := badK k v0 v1 v2) (d := 1) hs
    have hb : kT B L (ps B L p 0) = 2 → bdN 0 hi (vT B L (ps B L p 0)) (-1) = badK k v0 v1 v2 0 := fun _ => by rw [hv0, b0, k3]; unfold bdN; rw [decide_eq_decide]; omega
    have et' : f_X11_take (nI 1) (nI 0) (nI hi) M0 = f_X11_takeBut (nI (1 + 0)) (nI 0) (nI hi) (zI (-1)) M0 := nst_eq hr hL hB hp (by omega) n0 (lo := 0) (hi := hi) (by omega) hh hb
    obtain ⟨g1, g2⟩ := nst_step hr hL hB hp n0 (by omega) (lo := 0) (hi := hi) (by omega) hh (but := -1) (by omega) hb
    rw [et']
    by_cases z : kT B L (ps B L p 0) = 2
    · obtain ⟨M', h1, h2⟩ := g2 z
      rw [h1, q_bd_some, if_pos (Or.inr rfl)]
      exact hok M' h2
    · obtain ⟨M', h1, h2, h3⟩ := g1 z
      have e := nm_fail n0 (m := 1) (by omega) z
      rw [h1, q_bd_some, if_pos (Or.inl rfl)]
      exact hfail M' (by rw [e]) h2 (by rw [e]; exact h3)
  unfold f_X11_deedNumbers
  have kk : k = 9 ∨ k = 10 ∨ k = 11 ∨ k = 12 ∨ k = 13 ∨ k = 14 := by omega
  rcases kk with rfl | rfl | rfl | rfl | rfl | rfl
  · obtain ⟨k1, k2, k3, k4, k5⟩ := e9
    rw [k1] at hfail hok
    rw [if_pos (show nI (9 - 9) = 0 from rfl)]
    refine num_take (Q := Q) (m := 2) hr hL hB hp (j := 0) (d := 1) (by omega) (by omega) (nst_0 (bad := badK 9 v0 v1 v2) hs) 0 8 rfl rfl rfl (by omega) (by omega) (fun _ => by rw [hv0, b0, k3]; unfold bdN; rw [decide_eq_decide]; omega) hfail ?_
    intro M1 n1
    refine num_take (Q := Q) (m := 2) hr hL hB hp (j := 1) (d := 1) (by omega) (by omega) n1 0 3 rfl rfl rfl (by omega) (by omega) (fun _ => ?_) hfail (fun M2 n2 => hok M2 n2)
    rw [hv1, b1]
    unfold bdN bad2
    rw [k4, k5, k2, if_neg (by omega), ← Bool.decide_or, decide_eq_decide]
    omega
  · obtain ⟨k1, k2, k3⟩ := e10
    rw [if_neg (show ¬ nI (10 - 9) = 0 by decide), if_pos (show nI (10 - 9) = 1 from rfl)]
    exact one 10 8 k1 k3 (by omega) hfail hok
  · obtain ⟨k1, k2, k3, k4, k5⟩ := e11
    rw [k1] at hfail hok
    rw [if_neg (show ¬ nI (11 - 9) = 0 by decide), if_neg (show ¬ nI (11 - 9) = 1 by decide), if_pos (show nI (11 - 9) = 2 from rfl)]
    refine num_take (Q := Q) (m := 2) hr hL hB hp (j := 0) (d := 1) (by omega) (by omega) (nst_0 (bad := badK 11 v0 v1 v2) hs) 0 5 rfl rfl rfl (by omega) (by omega) (fun _ => by rw [hv0, b0, k3]; unfold bdN; rw [decide_eq_decide]; omega) hfail ?_
    intro M1 n1
    refine num_take (Q := Q) (m := 2) hr hL hB hp (j := 1) (d := 1) (by omega) (by omega) n1 0 9 rfl rfl rfl (by omega) (by omega) (fun _ => ?_) hfail (fun M2 n2 => hok M2 n2)
    rw [hv1, b1]
    unfold bdN bad2
    rw [k4, k5, k2, if_neg (by omega), ← Bool.decide_or, decide_eq_decide]
    omega
  · obtain ⟨k1, k2, k3, k4, k5⟩ := e12
    rw [k1] at hfail hok
    rw [if_neg (show ¬ nI (12 - 9) = 0 by decide), if_neg (show ¬ nI (12 - 9) = 1 by decide), if_neg (show ¬ nI (12 - 9) = 2 by decide), if_pos (show nI (12 - 9) = 3 from rfl)]
    refine num_take (Q := Q) (m := 2) hr hL hB hp (j := 0) (d := 1) (by omega) (by omega) (nst_0 (bad := badK 12 v0 v1 v2) hs) 0 5 rfl rfl rfl (by omega) (by omega) (fun _ => by rw [hv0, b0, k3]; unfold bdN; rw [decide_eq_decide]; omega) hfail ?_
    intro M1 n1
    refine num_take (Q := Q) (m := 2) hr hL hB hp (j := 1) (d := 1) (by omega) (by omega) n1 0 3 rfl rfl rfl (by omega) (by omega) (fun _ => ?_) hfail (fun M2 n2 => hok M2 n2)
    rw [hv1, b1]
    unfold bdN bad2
    rw [k4, k5, k2, if_neg (by omega), ← Bool.decide_or, decide_eq_decide]
    omega
  · obtain ⟨k1, k2, k3⟩ := e13
    rw [if_neg (show ¬ nI (13 - 9) = 0 by decide), if_neg (show ¬ nI (13 - 9) = 1 by decide), if_neg (show ¬ nI (13 - 9) = 2 by decide), if_neg (show ¬ nI (13 - 9) = 3 by decide), if_pos (show nI (13 - 9) = 4 from rfl)]
    exact one 13 5 k1 k3 (by omega) hfail hok
  · rw [e14.1] at hok
    rw [if_neg (show ¬ nI (14 - 9) = 0 by decide), if_neg (show ¬ nI (14 - 9) = 1 by decide), if_neg (show ¬ nI (14 - 9) = 2 by decide), if_neg (show ¬ nI (14 - 9) = 3 by decide), if_neg (show ¬ nI (14 - 9) = 4 by decide)]
    exact hok M0 (nst_0 hs)
theorem m_deedBy {M : PM} {p : Nat} (hL : L ≤ 600) (hp : p ≤ L) : f_X11_deedBy (lN (wdN B L p)) M = some (match lkS B L 2 p with | none => zI (-1) | some k => nI (k - 9), M) := by
  unfold f_X11_deedBy
  rw [cw_9, cw_10, cw_11, cw_12, cw_13, cw_14]
  cases hk : lkS B L 2 p with
  | none =>
    have hn := w_none hL hp hk
    rw [if_neg (hn 9 (by omega) (by decide +kernel)), if_neg (hn 10 (by omega) (by decide +kernel)), if_neg (hn 11 (by omega) (by decide +kernel)), if_neg (hn 12 (by omega) (by decide +kernel)), if_neg (hn 13 (by omega) (by decide +kernel)), if_neg (hn 14 (by omega) (by decide +kernel)), show (-1 : Int32) = zI (-1) by decide]
  | some k =>
    obtain ⟨h1, h2, h3⟩ := lkS_iff.mp hk
    have k9 := (tb_s1 k h1).2.1.mp h2
    obtain ⟨yes, no⟩ := w_some hL hp hk
    have kk : k = 9 ∨ k = 10 ∨ k = 11 ∨ k = 12 ∨ k = 13 ∨ k = 14 := by omega
    rcases kk with rfl | rfl | rfl | rfl | rfl | rfl
    · rw [if_pos yes]; rfl
    · rw [if_neg (no 9 (by omega) (by omega)), if_pos yes]; rfl
    · rw [if_neg (no 9 (by omega) (by omega)), if_neg (no 10 (by omega) (by omega)), if_pos yes]; rfl
    · rw [if_neg (no 9 (by omega) (by omega)), if_neg (no 10 (by omega) (by omega)), if_neg (no 11 (by omega) (by omega)), if_pos yes]; rfl
    · rw [if_neg (no 9 (by omega) (by omega)), if_neg (no 10 (by omega) (by omega)), if_neg (no 11 (by omega) (by omega)), if_neg (no 12 (by omega) (by omega)), if_pos yes]; rfl
    · rw [if_neg (no 9 (by omega) (by omega)), if_neg (no 10 (by omega) (by omega)), if_neg (no 11 (by omega) (by omega)), if_neg (no 12 (by omega) (by omega)), if_neg (no 13 (by omega) (by omega)), if_pos yes]; rfl
def deedK (v2 : Int32) : Int32 → PM → Option (Int32 × PM) := fun v11 M11 => if v11 = 0 then some (0, M11) else if inB 0 4 = true then hr_bd (f_X11_keep 0 1 3 40 (hr_si M11 287 (0 : Int32).toNatClampNeg v2)) (fun _ M15 => some (1, M15)) else none
theorem m_day {M : PM} {X : Txt} {p : Nat} (hr : mrd M B L) (hL : L ≤ 600) (hB : ∀ i, B i < 256) (hp : p ≤ L) (hs : mSt M B L p (xF X) (xQ X)) (h : mX2 40 M X) (ok : xOK 2 X) : lnOut M B L 2 p X (mX2 40) (f_X11_dayLine (lN (wdN B L p)) (nI (sT B L p)) M) := by
  have p4 := (tok_ok (B := B) hL hp).2.2.2.1
  unfold f_X11_dayLine
  rw [m_deedBy hL hp, q_bd_some]
  cases hk : lkS B L 2 p with
  | none =>
    rw [if_pos (show zI (-1) = -1 by decide)]
    exact ln_none hk hs.1
  | some k =>
    obtain ⟨h1, h2, h3⟩ := lkS_iff.mp hk
    have k9 := (tb_s1 k h1).2.1.mp h2
    obtain ⟨t1, t2, t3⟩ := tb_deed k (by omega) k9.1
    have k1 := lkS_1 hk
    have s6 := (tok_ok (B := B) hL hp).2.1
    obtain ⟨⟨n, d1, d2⟩, hE⟩ := h
    have oR := (ok.2.1 (by omega)).1
    have o9 : oN (xR X) ≤ 40 := oR.1
    have fu : fullX k X = decide (40 ≤ oN (xR X)) := by
      unfold fullX
      rw [if_neg (by omega), if_neg (by omega), if_neg (by omega), show kc k / 10 = 2 by omega]
      rfl
    obtain ⟨M1, f1, f2, f3⟩ := s_fullM (c := 0) (n := n) (lim := 40) hs.2 (by omega) (by omega) d1 (by omega) (by omega)
    obtain ⟨M2, t1', t2', t3'⟩ := tok_next (hr.fr f2 rfl (fun _ => rfl)) hL hB hp (mTk.fr hs.1 f2 rfl rfl rfl rfl rfl) (by omega) f3
    have hd : xF X = 0 → decide (n = 40) = fullX k X := fun hz => by
      have hm : n = oN (xR X) := (q_eq (by omega) (by omega)).mp (d1.symm.trans (hE hz).1)
      rw [fu, decide_eq_decide]
      omega
    dsimp only
    rw [if_neg (show ¬ nI (k - 9) = -1 from fun w => by
      rw [show (-1 : Int32) = zI (-1) by decide] at w
      have := (q_nzeq (by omega) (by omega)).mp w
      omega), show (0 : Int32) = nI 0 from rfl, show (40 : Int32) = nI 40 from rfl, f1, q_bd_some, t1', q_bd_some, if_pos (show inB 1 4 = true from q_in (i := 1) (by omega) (by omega)), if_pos (show inB 2 4 = true from q_in (i := 2) (by omega) (by omega)), show (1 : Int32).toNatClampNeg = 1 from rfl, show (2 : Int32).toNatClampNeg = 2 from rfl, show (-1 : Int32) = zI (-1) by decide]
    generalize hN : hr_si (hr_si M2 287 1 (zI (-1))) 287 2 (zI (-1)) = N
    have fN : hr_fr [(287, 0)] M2 N := by rw [← hN]; exact hr_fr.si rfl (hr_fr.si rfl (hr_fr.rf _ _))
    have hall : hr_fr lmW M N := ((hr_fr.mono rfl f2).tr (hr_fr.mono rfl t2')).tr (hr_fr.mono rfl fN)
    have r86 : N.1 286 = M.1 286 := by rw [fN.row 286 (fun _ => rfl), t2'.row 286 (fun _ => rfl), f2.row 286 (fun _ => rfl)]
    have i1 : N.1 287 1 = zI (-1) := by rw [← hN, si_same, if_neg (by omega), si_same, if_pos rfl]
    have i2 : N.1 287 2 = zI (-1) := by rw [← hN, si_same, if_pos rfl]
    have hst : mSt N B L (nT B L p) (fl2 (xF X) (xQ X) (decide (n = 40)) 3 (sT B L p)).1 (fl2 (xF X) (xQ X) (decide (n = 40)) 3 (sT B L p)).2 := ⟨mTk.fr t3'.1 fN rfl rfl rfl rfl rfl, t3'.2.fr fN rfl rfl⟩
    have hrN : mrd N B L := hr.fr hall rfl (fun _ => rfl)
    have lf := ln_fail (X := X) (R := mX2 40) hk (by omega) hall
    have lo := ln_ok (X := X) (R := mX2 40) hk (by omega) hall rfl
    generalize hpp : nT B L p = pp at *
    show lnOut M B L 2 p X (mX2 40) (hr_bd (f_X11_deedNumbers (nI (k - 9)) N) (deedK (nI (k - 9))))
    refine m_deedNums (Q := fun r => lnOut M B L 2 p X (mX2 40) (hr_bd r (deedK (nI (k - 9))))) hrN hL hB p4 k9 hst ?_ ?_
    · intro M' g1 g2 g3
      have : lnOut M B L 2 p X (mX2 40) (some (0, M')) := lf M' g1 g2 g3
      exact this
    intro N2 n2
    show lnOut M B L 2 p X (mX2 40) (deedK (nI (k - 9)) 1 N2)
    have n2' := n2
    obtain ⟨c1, c2, c3, c4, c5, c6⟩ := n2
    generalize hv0 : vT B L (ps B L pp 0) = v0 at *
    generalize hv1 : vT B L (ps B L pp 1) = v1 at *
    generalize hv2 : vT B L (ps B L pp 2) = v2 at *
    have a1 : N2.1 287 1 = zI (nu k 0 v0) := by
      unfold nu
      by_cases z : 0 < kn k
      · rw [if_pos z, ← q_nz, ← hv0]; exact c3 0 z
      · rw [if_neg z, c4 1 (by omega)]; exact i1
    have a2 : N2.1 287 2 = zI (nu k 1 v1) := by
      unfold nu
      by_cases z : 1 < kn k
      · rw [if_pos z, ← q_nz, ← hv1]; exact c3 1 z
      · rw [if_neg z, c4 2 (by omega)]; exact i2
    obtain ⟨e1, e2, e3⟩ := nm_fin (B := B) (L := L) (p := pp) (k := k) (ws := sT B L p) (X := X) (df := decide (n = 40)) (by omega) hd (v0 := v0) (v1 := v1) (v2 := v2) (F := fqS B L (fl2 (xF X) (xQ X) (decide (n = 40)) 3 (sT B L p)) (badK k v0 v1 v2) pp (kn k)) rfl rfl (keep_F k)
    unfold deedK
    rw [if_neg (show ¬ (1 : Int32) = 0 by decide), if_pos (show inB 0 4 = true from q_in (i := 0) (by omega) (by omega)), show (0 : Int32).toNatClampNeg = 0 from rfl]
    generalize hN3 : hr_si N2 287 0 (nI (k - 9)) = N3
    have f3' : hr_fr [(287, 0)] N2 N3 := by rw [← hN3]; exact hr_fr.si rfl (hr_fr.rf _ _)
    have w86 : N3.1 286 = M.1 286 := by rw [f3'.row 286 (fun _ => rfl), c2.row 286 (fun _ => rfl), r86]
    have w87 : ∀ j, N3.1 287 j = if j = 0 then nI (k - 9) else N2.1 287 j := fun j => by rw [← hN3, si_same]
    obtain ⟨M4, g1, g2, g3⟩ := m_keep3 (N := N3) (X := X) (Y := effX k (sT B L p) v0 v1 v2 (sT B L (ps B L pp 0)) (sT B L (ps B L pp 1)) (sT B L (ps B L pp 2)) X) (n := n) (lim := 40) (by rw [w86]; exact d1) d2 (by omega) (fun hz => by
      obtain ⟨x1, x2, x3, x4, x5⟩ := e3 hz
      rw [fu] at x2
      have := of_decide_eq_false x2
      refine ⟨(mX2_eq (M := M) (M' := N3) (lim := 40) ⟨⟨n, d1, d2⟩, hE⟩ w86).2 x1, by omega, ((kc k % 10 : Nat) : Int), nu k 0 v0, nu k 1 v1, ⟨0, ?_⟩, ?_, ?_, ?_⟩
      · rw [x4]
        unfold keepX
        rw [if_neg (by omega), if_neg (by omega), if_neg (by omega), if_neg (by omega), if_neg (by omega), if_neg (by omega)]
        rfl
      · rw [w87, if_pos rfl, t3, q_nz]
      · rw [w87, if_neg (by omega)]; exact a1
      · rw [w87, if_neg (by omega)]; exact a2)
    have f4 : hr_fr [(287, 0), (286, 0)] N2 M4 := (hr_fr.mono rfl f3').tr (g2.fr1 rfl)
    rw [show f_X11_keep 0 1 3 40 N3 = some ((), M4) from g1, q_bd_some]
    exact lo M4 _ rfl (nm_done n2') ((hr_fr.mono rfl c2).tr (hr_fr.mono rfl f4)) (st_fin c1 f4 rfl rfl rfl rfl rfl rfl rfl e1 e2) g3
end MOD
