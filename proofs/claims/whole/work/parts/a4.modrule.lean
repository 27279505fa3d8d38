/-! THE MODEL'S READER: likes and rules -/
theorem far_or {n v : Nat} {z : Int} (h : ∀ h : Nat, n < 2 ^ h ↔ z < (h : Int)) : ∀ h : Nat, n ||| 2 ^ v < 2 ^ h ↔ max z (v : Int) < (h : Int) := by
  intro g
  have e : 2 ^ v < 2 ^ g ↔ v < g := Nat.pow_lt_pow_iff_right (by decide)
  have h1 := h g
  constructor
  · intro w
    have a1 : n < 2 ^ g := Nat.lt_of_le_of_lt Nat.left_le_or w
    have a2 : 2 ^ v < 2 ^ g := Nat.lt_of_le_of_lt Nat.right_le_or w
    have := h1.mp a1
    have := e.mp a2
    omega
  · intro w
    exact Nat.or_lt_two_pow (h1.mpr (by omega)) (e.mpr (by omega))
theorem s_greZ (M : PM) {z : Int} {v : Nat} (hz : -1 ≤ z ∧ z ≤ 1000) (hv : v ≤ 1000) : f_X11_greater (zI z) (nI v) M = some (zI (max z (v : Int)), M) := by
  unfold f_X11_greater
  by_cases y : z ≤ (v : Int)
  · rw [if_pos ((q_znle (by omega) (by omega)).mpr y), show max z (v : Int) = v by omega, q_nz]
  · rw [if_neg (fun w => y ((q_znle (by omega) (by omega)).mp w)), show max z (v : Int) = z by omega]
section MOD
variable {B : Nat → Nat} {L : Nat}
theorem m_likes {M0 : PM} {X : Txt} {p ws : Nat} (hr : mrd M0 B L) (hL : L ≤ 600) (hB : ∀ i, B i < 256) (hp : p ≤ L) (h : mX0 M0 X) (ok : xOK 0 X) (hg : M0.1 275 23 = nI 1) (hs : mSt M0 B L p (fl2 (xF X) (xQ X) false 3 ws).1 (fl2 (xF X) (xQ X) false 3 ws).2) {Q : Option (Int32 × PM) → Prop} (hfail : ∀ M', (nmS B L 3 p).1 = false → hr_fr tmW M0 M' → M'.1 275 17 = nI (sT B L (nmS B L 3 p).2) → Q (some (0, M'))) (hok : ∀ M' Y, Y = effX 6 ws (vT B L (ps B L p 0)) (vT B L (ps B L p 1)) (vT B L (ps B L p 2)) (sT B L (ps B L p 0)) (sT B L (ps B L p 1)) (sT B L (ps B L p 2)) X → nmS B L 3 p = (true, ps B L p 3) → hr_fr lmW M0 M' → mSt M' B L (ps B L p 3) (xF Y) (xQ Y) → mX0 M' Y → Q (some (1, M'))) : Q (f_X11_likesLine M0) := by
  have ek : kn 6 = 3 ∧ kc 6 = 6 ∧ kfm 6 = 1 ∧ ksl 6 = 0 ∧ ksm 6 = 9 ∧ ktm 6 = 9 := by decide +kernel
  obtain ⟨k1, k2, k3, k4, k5, k6⟩ := ek
  have hd : xF X = 0 → false = fullX 6 X := fun _ => by unfold fullX; rw [if_pos (Or.inl k2)]
  generalize hv0 : vT B L (ps B L p 0) = v0 at hok
  generalize hv1 : vT B L (ps B L p 1) = v1 at hok
  generalize hv2 : vT B L (ps B L p 2) = v2 at hok
  have b0 : badK 6 v0 v1 v2 0 = decide (1 < v0) := by unfold badK; rw [if_pos rfl, k3]
  have b1 : badK 6 v0 v1 v2 1 = decide (9 < v1) := by
    unfold badK bad2
    rw [if_neg (by omega), if_pos rfl, k4, k5, k2, if_neg (by omega), decide_eq_false (show ¬ (v1 = v0 ∧ (6 = 3 ∨ 6 = 30 ∨ 6 = 31)) by omega), Bool.or_false, decide_eq_decide]
    omega
  have b2 : badK 6 v0 v1 v2 2 = decide (9 < v2) := by unfold badK; rw [if_neg (by omega), if_neg (by omega), k6]
  unfold f_X11_likesLine
  refine num_take (Q := Q) (m := 3) hr hL hB hp (j := 0) (d := 0) (by omega) (by omega) (nst_0 (bad := badK 6 v0 v1 v2) hs) 0 1 rfl rfl rfl (by omega) (by omega) (fun _ => by rw [hv0, b0]; unfold bdN; rw [decide_eq_decide]; omega) hfail ?_
  intro M1 n1
  refine num_take (Q := Q) (m := 3) hr hL hB hp (j := 1) (d := 0) (by omega) (by omega) n1 0 9 rfl rfl rfl (by omega) (by omega) (fun _ => by rw [hv1, b1]; unfold bdN; rw [decide_eq_decide]; omega) hfail ?_
  intro M2 n2
  refine num_take (Q := Q) (m := 3) hr hL hB hp (j := 2) (d := 0) (by omega) (by omega) n2 0 9 rfl rfl rfl (by omega) (by omega) (fun _ => by rw [hv2, b2]; unfold bdN; rw [decide_eq_decide]; omega) hfail ?_
  intro M3 n3
  have n3' := n3
  obtain ⟨c1, c2, c3, c4, c5, c6⟩ := n3
  have u1 := vT_le hL (ps_le (B := B) hL hp 1) (c6 1 (by omega))
  rw [hv1] at u1
  obtain ⟨⟨n, m, z, ⟨d1, d2⟩, ⟨d3, d4⟩, d5, d6⟩, hE⟩ := mX0_fr h c2 (fun _ => rfl) rfl
  have q0 := c3 0 (by omega)
  have q1 := c3 1 (by omega)
  have q2 := c3 2 (by omega)
  rw [hv0] at q0
  rw [hv1] at q1
  rw [hv2] at q2
  have q0' : M3.1 287 0 = nI v0 := q0
  have q1' : M3.1 287 1 = nI v1 := q1
  have q2' : M3.1 287 2 = nI v2 := q2
  have i04 : inB 0 4 = true := q_in (i := 0) (by omega) (by omega)
  have i14 : inB 1 4 = true := q_in (i := 1) (by omega) (by omega)
  have i24 : inB 2 4 = true := q_in (i := 2) (by omega) (by omega)
  obtain ⟨e1, e2, e3⟩ := nm_fin (B := B) (L := L) (p := p) (k := 6) (ws := ws) (X := X) (df := false) (by omega) hd (v0 := v0) (v1 := v1) (v2 := v2) (F := fqS B L (fl2 (xF X) (xQ X) false 3 ws) (badK 6 v0 v1 v2) p 3) (by rw [k1]) rfl (keep_F 6)
  rw [if_pos i14, show (1 : Int32).toNatClampNeg = 1 from rfl, show (0 : Int32).toNatClampNeg = 0 from rfl, show (2 : Int32).toNatClampNeg = 2 from rfl, d5, q1', s_greZ M3 (by omega) (by omega), q_bd_some]
  generalize hN : hr_si M3 275 22 (zI (max z (v1 : Int))) = N
  have r1 : ∀ c, c ≠ 275 → N.1 c = M3.1 c := fun c hc => by rw [← hN, si_ne _ _ _ hc]
  have r2 : ∀ j, j ≠ 22 → N.1 275 j = M3.1 275 j := fun j hj => by rw [← hN, si_same, if_neg hj]
  have r22 : N.1 275 22 = zI (max z (v1 : Int)) := by rw [← hN, si_same, if_pos rfl]
  have fN : hr_fr [(275, 23)] M3 N := by rw [← hN]; exact hr_fr.si rfl (hr_fr.rf _ _)
  have st : ∀ M', hr_fr [(275, 23), (286, 0)] M3 M' → mSt M' B L (ps B L p 3) (xF (effX 6 ws v0 v1 v2 (sT B L (ps B L p 0)) (sT B L (ps B L p 1)) (sT B L (ps B L p 2)) X)) (xQ (effX 6 ws v0 v1 v2 (sT B L (ps B L p 0)) (sT B L (ps B L p 1)) (sT B L (ps B L p 2)) X)) := fun M' hf => by
    refine ⟨?_, flm_eq (flm.fr c1.2 hf rfl rfl) e1 e2⟩
    unfold mTk
    rw [hf.at 275 11 rfl, hf.at 275 13 rfl, hf.at 275 14 rfl, hf.at 275 15 rfl, show M'.2.1 275 16 = M3.2.1 275 16 from (hf.1 275 16 rfl).2]
    exact c1.1
  have hg3 : N.1 275 23 = (if exb (badK 6 v0 v1 v2) 3 = true then nI 0 else nI 1) := by rw [r2 23 (by omega), c5, hg]
  have x3 : exb (badK 6 v0 v1 v2) 3 = (((false || badK 6 v0 v1 v2 0) || badK 6 v0 v1 v2 1) || badK 6 v0 v1 v2 2) := rfl
  rw [hg3]
  cases hx : exb (badK 6 v0 v1 v2) 3 with
  | true =>
    rw [if_pos rfl, if_pos (show nI 0 = 0 from rfl)]
    refine hok N _ rfl (nm_done n3') ((hr_fr.mono rfl c2).tr (hr_fr.mono rfl fN)) (st N (hr_fr.mono rfl fN)) ⟨⟨n, m, max z (v1 : Int), ⟨by rw [r1 286 (by omega)]; exact d1, d2⟩, ⟨by rw [r1 286 (by omega)]; exact d3, d4⟩, r22, by omega, by omega⟩, fun hz => ?_⟩
    obtain ⟨x1, x2, x3, x4, x5⟩ := e3 hz
    rw [k1, hx] at x5
    cases x5
  | false =>
    rw [hx, b0, b1, b2] at x3
    have y0 : v0 ≤ 1 := by
      cases hq : decide (1 < v0) with
      | true => rw [hq] at x3; simp at x3
      | false => have := of_decide_eq_false hq; omega
    have y1 : v1 ≤ 9 := by
      cases hq : decide (9 < v1) with
      | true => rw [hq] at x3; simp at x3
      | false => have := of_decide_eq_false hq; omega
    rw [show (if false = true then nI 0 else nI 1) = nI 1 from rfl, if_neg (show ¬ nI 1 = 0 by decide), if_pos i04, if_pos i14, if_pos i24, r1 287 (by omega), q0', q1', q2', q_lit 50, gO 50, q_lit 10, gO 10, q_mul, q_add, q_add, if_pos (q_in (by omega) (by omega)), q_cl (by omega)]
    generalize hM4 : hr_si N 286 (50 + 10 * v0 + v1) (nI v2) = M4
    have g4 : ∀ j, M4.1 286 j = if j = 50 + 10 * v0 + v1 then nI v2 else M3.1 286 j := fun j => by rw [← hM4, si_same, r1 286 (by omega)]
    have f4 : hr_fr [(275, 23), (286, 0)] M3 M4 := by rw [← hM4]; exact hr_fr.si rfl (hr_fr.mono rfl fN)
    have r4 : M4.1 275 22 = zI (max z (v1 : Int)) := by rw [← hM4, si_ne _ _ _ (by omega)]; exact r22
    refine hok M4 _ rfl (nm_done n3') ((hr_fr.mono rfl c2).tr (hr_fr.mono rfl f4)) (st M4 f4) ⟨⟨n, m, max z (v1 : Int), ⟨by rw [g4, if_neg (by omega)]; exact d1, d2⟩, ⟨by rw [g4, if_neg (by omega)]; exact d3, d4⟩, r4, by omega, by omega⟩, fun hz => ?_⟩
    obtain ⟨x1, x2, x3, x4, x5⟩ := e3 hz
    obtain ⟨⟨E1, E2⟩, ⟨E3, E4, E5⟩, zz, E6, E7, E8⟩ := hE x1
    have l10 := ok.1.1
    have l6 := ok.1.2.1
    rw [x4]
    unfold keepX
    rw [if_neg (show ¬ kc 6 = 5 by omega), if_pos k2]
    have hzz : z = zz := by
      have := d5.symm.trans E6
      exact (q_zeq (by omega) (by omega)).mp this
    refine ⟨⟨?_, ?_⟩, ⟨fun i hi => ?_, fun i hi => ?_, fun i hi => ?_⟩, max zz (v1 : Int), ?_, by omega, ?_⟩
    · rw [g4, if_neg (by omega)]; exact E1
    · rw [g4, if_neg (by omega)]; exact E2
    · have hi' : i < 3 * pH (xP X) := hi
      rw [g4, if_neg (by omega)]; exact E3 i hi
    · have hi' : i < 3 * pR (xP X) := hi
      rw [g4, if_neg (by omega)]; exact E4 i hi
    · show M4.1 286 (50 + i) = nI (if i = 10 * v0 + v1 then v2 else pL (xP X) i)
      rw [g4]
      by_cases y : i = 10 * v0 + v1
      · rw [if_pos y, if_pos (by omega)]
      · rw [if_neg y, if_neg (by omega)]; exact E5 i hi
    · rw [r4, hzz]
    · exact far_or E8
/-- a rule's numbers -/
theorem m_ruleNums {M0 : PM} {p k : Nat} {F : Nat × Nat} (hr : mrd M0 B L) (hL : L ≤ 600) (hB : ∀ i, B i < 256) (hp : p ≤ L) (hk : 1 ≤ k ∧ k ≤ 5) (hs : mSt M0 B L p F.1 F.2) : ∀ {Q : Option (Int32 × PM) → Prop} (_ : ∀ M', (nmS B L (kn k) p).1 = false → hr_fr tmW M0 M' → M'.1 275 17 = nI (sT B L (nmS B L (kn k) p).2) → Q (some (0, M'))) (_ : ∀ M', nst M0 M' B L p 1 F (badK k (vT B L (ps B L p 0)) (vT B L (ps B L p 1)) (vT B L (ps B L p 2))) (kn k) → Q (some (1, M'))), Q (f_X11_ruleNumbers (nI (kc k)) M0) := by
  intro Q hfail hok
  have e1 : kn 1 = 2 ∧ kc 1 = 0 ∧ kfm 1 = 54 ∧ ksl 1 = 0 ∧ ksm 1 = 54 := by decide +kernel
  have e2 : kn 2 = 2 ∧ kc 2 = 1 ∧ kfm 2 = 2 ∧ ksl 2 = 1 ∧ ksm 2 = 9 := by decide +kernel
  have e3 : kn 3 = 1 ∧ kc 3 = 2 ∧ kfm 3 = 2 := by decide +kernel
  have e4 : kn 4 = 2 ∧ kc 4 = 3 ∧ kfm 4 = 9 ∧ ksl 4 = 0 ∧ ksm 4 = 9 := by decide +kernel
  have e5 : kn 5 = 2 ∧ kc 5 = 4 ∧ kfm 5 = 2 ∧ ksl 5 = 1 ∧ ksm 5 = 18 := by decide +kernel
  generalize hv0 : vT B L (ps B L p 0) = v0 at hok
  generalize hv1 : vT B L (ps B L p 1) = v1 at hok
  generalize hv2 : vT B L (ps B L p 2) = v2 at hok
  have b0 : ∀ k, badK k v0 v1 v2 0 = decide (kfm k < v0) := fun k => by unfold badK; rw [if_pos rfl]
  have b1 : ∀ k, badK k v0 v1 v2 1 = bad2 k v0 v1 := fun k => by unfold badK; rw [if_neg (by omega), if_pos rfl]
  have i14 : inB 1 4 = true := q_in (i := 1) (by omega) (by omega)
  unfold f_X11_ruleNumbers
  have kk : k = 1 ∨ k = 2 ∨ k = 3 ∨ k = 4 ∨ k = 5 := by omega
  rcases kk with rfl | rfl | rfl | rfl | rfl
  · obtain ⟨k1, k2, k3, k4, k5⟩ := e1
    rw [k1] at hfail hok
    rw [k2, if_pos (show nI 0 = 0 from rfl)]
    refine num_take (Q := Q) (m := 2) hr hL hB hp (j := 0) (d := 1) (by omega) (by omega) (nst_0 (bad := badK 1 v0 v1 v2) hs) 0 54 rfl rfl rfl (by omega) (by omega) (fun _ => by rw [hv0, b0, k3]; unfold bdN; rw [decide_eq_decide]; omega) hfail ?_
    intro M1 n1
    have q0 : M1.1 287 1 = nI v0 := by rw [← hv0]; exact n1.2.2.1 0 (by omega)
    have u0 := vT_le hL (ps_le (B := B) hL hp 0) (n1.2.2.2.2.2 0 (by omega))
    rw [hv0] at u0
    rw [if_pos i14, show (1 : Int32).toNatClampNeg = 1 from rfl, q0]
    refine num_take (Q := Q) (m := 2) hr hL hB hp (j := 1) (d := 1) (by omega) (by omega) n1 v0 54 rfl rfl rfl (by omega) (by omega) (fun _ => ?_) hfail ?_
    · rw [hv1, b1]
      unfold bdN bad2
      rw [k4, k5, k2, if_pos rfl, ← Bool.decide_or, decide_eq_decide]
      omega
    · intro M2 n2
      exact hok M2 n2
  · obtain ⟨k1, k2, k3, k4, k5⟩ := e2
    rw [k1] at hfail hok
    rw [k2, if_neg (show ¬ nI 1 = 0 by decide), if_pos (show nI 1 = 1 from rfl)]
    refine num_take (Q := Q) (m := 2) hr hL hB hp (j := 0) (d := 1) (by omega) (by omega) (nst_0 (bad := badK 2 v0 v1 v2) hs) 0 2 rfl rfl rfl (by omega) (by omega) (fun _ => by rw [hv0, b0, k3]; unfold bdN; rw [decide_eq_decide]; omega) hfail ?_
    intro M1 n1
    refine num_take (Q := Q) (m := 2) hr hL hB hp (j := 1) (d := 1) (by omega) (by omega) n1 1 9 rfl rfl rfl (by omega) (by omega) (fun _ => ?_) hfail ?_
    · rw [hv1, b1]
      unfold bdN bad2
      rw [k4, k5, k2, if_neg (by omega), ← Bool.decide_or, decide_eq_decide]
      omega
    · intro M2 n2
      exact hok M2 n2
  · obtain ⟨k1, k2, k3⟩ := e3
    rw [k1] at hfail hok
    rw [k2, if_neg (show ¬ nI 2 = 0 by decide), if_neg (show ¬ nI 2 = 1 by decide), if_pos (show nI 2 = 2 from rfl)]
    have n0 := nst_0 (bad := badK 3 v0 v1 v2) (d := 1) hs
    have hb : kT B L (ps B L p 0) = 2 → bdN 0 2 (vT B L (ps B L p 0)) (-1) = badK 3 v0 v1 v2 0 := fun _ => by rw [hv0, b0, k3]; unfold bdN; rw [decide_eq_decide]; omega
    have et := nst_eq hr hL hB hp (by omega) n0 (lo := 0) (hi := 2) (by omega) (by omega) hb
    have et' : f_X11_take 1 0 2 M0 = f_X11_takeBut (nI (1 + 0)) (nI 0) (nI 2) (zI (-1)) M0 := et
    obtain ⟨g1, g2⟩ := nst_step hr hL hB hp n0 (by omega) (lo := 0) (hi := 2) (by omega) (by omega) (but := -1) (by omega) hb
    rw [et']
    by_cases z : kT B L (ps B L p 0) = 2
    · obtain ⟨M', h1, h2⟩ := g2 z
      rw [h1, q_bd_some, if_pos (Or.inr rfl)]
      exact hok M' h2
    · obtain ⟨M', h1, h2, h3⟩ := g1 z
      have e := nm_fail n0 (m := 1) (by omega) z
      rw [h1, q_bd_some, if_pos (Or.inl rfl)]
      exact hfail M' (by rw [e]) h2 (by rw [e]; exact h3)
  · obtain ⟨k1, k2, k3, k4, k5⟩ := e4
    rw [k1] at hfail hok
    rw [k2, if_neg (show ¬ nI 3 = 0 by decide), if_neg (show ¬ nI 3 = 1 by decide), if_neg (show ¬ nI 3 = 2 by decide), if_pos (show nI 3 = 3 from rfl)]
    refine num_take (Q := Q) (m := 2) hr hL hB hp (j := 0) (d := 1) (by omega) (by omega) (nst_0 (bad := badK 4 v0 v1 v2) hs) 0 9 rfl rfl rfl (by omega) (by omega) (fun _ => by rw [hv0, b0, k3]; unfold bdN; rw [decide_eq_decide]; omega) hfail ?_
    intro M1 n1
    have q0 : M1.1 287 1 = nI v0 := by rw [← hv0]; exact n1.2.2.1 0 (by omega)
    have u0 := vT_le hL (ps_le (B := B) hL hp 0) (n1.2.2.2.2.2 0 (by omega))
    rw [hv0] at u0
    rw [if_pos i14, show (1 : Int32).toNatClampNeg = 1 from rfl, q0]
    refine num_takeB (Q := Q) (m := 2) hr hL hB hp (j := 1) (d := 1) (by omega) (by omega) n1 0 9 (v0 : Int) rfl rfl rfl (q_nz v0) (by omega) (by omega) (by omega) (fun _ => ?_) hfail ?_
    · rw [hv1, b1]
      unfold bdN bad2
      rw [k4, k5, k2, if_neg (by omega), ← Bool.decide_or, decide_eq_decide]
      omega
    · intro M2 n2
      exact hok M2 n2
  · obtain ⟨k1, k2, k3, k4, k5⟩ := e5
    rw [k1] at hfail hok
    rw [k2, if_neg (show ¬ nI 4 = 0 by decide), if_neg (show ¬ nI 4 = 1 by decide), if_neg (show ¬ nI 4 = 2 by decide), if_neg (show ¬ nI 4 = 3 by decide)]
    refine num_take (Q := Q) (m := 2) hr hL hB hp (j := 0) (d := 1) (by omega) (by omega) (nst_0 (bad := badK 5 v0 v1 v2) hs) 0 2 rfl rfl rfl (by omega) (by omega) (fun _ => by rw [hv0, b0, k3]; unfold bdN; rw [decide_eq_decide]; omega) hfail ?_
    intro M1 n1
    refine num_take (Q := Q) (m := 2) hr hL hB hp (j := 1) (d := 1) (by omega) (by omega) n1 1 18 rfl rfl rfl (by omega) (by omega) (fun _ => ?_) hfail ?_
    · rw [hv1, b1]
      unfold bdN bad2
      rw [k4, k5, k2, if_neg (by omega), ← Bool.decide_or, decide_eq_decide]
      omega
    · intro M2 n2
      exact hok M2 n2
end MOD
