/-! THE MODEL'S READER: a palette's line -/
def ruleK (a1 : Int64) (a3 x4 : Int32) : Int32 → PM → Option (Int32 × PM) := fun v11 M11 =>
  if v11 = 0 then some (0, M11)
  else if x4 = 3 then
    if inB 1 4 = true then if inB 2 4 = true then
      hr_bd (f_X11_greater (M11.1 287 (1 : Int32).toNatClampNeg) (M11.1 287 (2 : Int32).toNatClampNeg) M11) (fun v16 M16 =>
      hr_bd (f_X11_greater (M11.1 275 22) v16 M16) (fun v17 M17 =>
      f_X11_paletteLine_209 a1 a3 x4 v17 M17)) else none else none
  else f_X11_paletteLine_209 a1 a3 x4 (M11.1 275 22) M11
theorem tb_rule : ∀ k, k < 6 → 1 ≤ k → (kc k < 5 ∧ (kc k = 3 → kn k = 2 ∧ kfm k = 9 ∧ ksm k = 9)) ∧ (kn k = 1 ∨ kn k = 2) ∧ kfm k ≤ 54 ∧ ksm k ≤ 54 := by decide +kernel
section MOD
variable {B : Nat → Nat} {L : Nat}
theorem m_ruleL {M0 : PM} {X : Txt} {p ws k : Nat} {df : Bool} (hr : mrd M0 B L) (hL : L ≤ 600) (hB : ∀ i, B i < 256) (hp : p ≤ L) (hk : 1 ≤ k ∧ k ≤ 5) (h : mX0 M0 X) (ok : xOK 0 X) (hd : xF X = 0 → df = fullX k X) (h2 : M0.1 287 2 = zI (-1)) (hs : mSt M0 B L p (fl2 (xF X) (xQ X) df 3 ws).1 (fl2 (xF X) (xQ X) df 3 ws).2) (a1 : Int64) (a3 : Int32) {Q : Option (Int32 × PM) → Prop} (hfail : ∀ M', (nmS B L (kn k) p).1 = false → hr_fr tmW M0 M' → M'.1 275 17 = nI (sT B L (nmS B L (kn k) p).2) → Q (some (0, M'))) (hok : ∀ M' Y, Y = effX k ws (vT B L (ps B L p 0)) (vT B L (ps B L p 1)) (vT B L (ps B L p 2)) (sT B L (ps B L p 0)) (sT B L (ps B L p 1)) (sT B L (ps B L p 2)) X → nmS B L (kn k) p = (true, ps B L p (kn k)) → hr_fr lmW M0 M' → mSt M' B L (ps B L p (kn k)) (xF Y) (xQ Y) → mX0 M' Y → Q (some (1, M'))) : Q (hr_bd (f_X11_ruleNumbers (nI (kc k)) M0) (ruleK a1 a3 (nI (kc k)))) := by
  obtain ⟨⟨t1, t3⟩, t2, t4, t5⟩ := tb_rule k (by omega) hk.1
  refine m_ruleNums (Q := fun r => Q (hr_bd r (ruleK a1 a3 (nI (kc k))))) hr hL hB hp hk hs ?_ ?_
  · intro M' g1 g2 g3
    have : Q (some (0, M')) := hfail M' g1 g2 g3
    exact this
  intro M1 n1
  show Q (ruleK a1 a3 (nI (kc k)) 1 M1)
  have n1' := n1
  obtain ⟨c1, c2, c3, c4, c5, c6⟩ := n1
  have u0 := vT_le hL (ps_le (B := B) hL hp 0) (c6 0 (by omega))
  have u1 : kn k = 2 → vT B L (ps B L p 1) ≤ 99 := fun hn => vT_le hL (ps_le (B := B) hL hp 1) (c6 1 (by omega))
  have q1 : M1.1 287 1 = nI (vT B L (ps B L p 0)) := c3 0 (by omega)
  have q2 : M1.1 287 2 = zI (nu k 1 (vT B L (ps B L p 1))) := by
    unfold nu
    rcases t2 with hn | hn
    · rw [if_neg (by omega), c4 2 (by omega)]; exact h2
    · rw [if_pos (by omega), ← q_nz]; exact c3 1 (by omega)
  generalize hv0 : vT B L (ps B L p 0) = v0 at *
  generalize hv1 : vT B L (ps B L p 1) = v1 at *
  generalize hv2 : vT B L (ps B L p 2) = v2 at *
  obtain ⟨⟨n, m, z, ⟨d1, d2⟩, ⟨d3, d4⟩, d5, d6⟩, hE⟩ := mX0_fr h c2 (fun _ => rfl) rfl
  obtain ⟨e1, e2, e3⟩ := nm_fin (B := B) (L := L) (p := p) (k := k) (ws := ws) (X := X) (df := df) (by omega) hd (v0 := v0) (v1 := v1) (v2 := v2) (F := fqS B L (fl2 (xF X) (xQ X) df 3 ws) (badK k v0 v1 v2) p (kn k)) rfl rfl (keep_F k)
  have fin : ∀ z' : Int, (-1 ≤ z' ∧ z' ≤ 99) → (xF (effX k ws v0 v1 v2 (sT B L (ps B L p 0)) (sT B L (ps B L p 1)) (sT B L (ps B L p 2)) X) = 0 → z' ≤ 9 ∧ ∀ h : Nat, (if kc k = 3 then xN X ||| (2 ^ v0 ||| 2 ^ v1) else xN X) < 2 ^ h ↔ z' < (h : Int)) → Q (f_X11_paletteLine_209 a1 a3 (nI (kc k)) (zI z') M1) := by
    intro z' hz1 hz2
    unfold f_X11_paletteLine_209
    rw [if_pos (show inB 0 4 = true from q_in (i := 0) (by omega) (by omega)), show (0 : Int32).toNatClampNeg = 0 from rfl]
    generalize hN : hr_si (hr_si M1 275 22 (zI z')) 287 0 (nI (kc k)) = N
    have r86 : N.1 286 = M1.1 286 := by rw [← hN, si_ne _ _ _ (by omega), si_ne _ _ _ (by omega)]
    have r22 : N.1 275 22 = zI z' := by rw [← hN, si_ne _ _ _ (by omega), si_same, if_pos rfl]
    have r87 : ∀ j, N.1 287 j = if j = 0 then nI (kc k) else M1.1 287 j := fun j => by rw [← hN, si_same, si_ne _ _ _ (by omega)]
    have fN : hr_fr [(275, 23), (287, 0)] M1 N := by rw [← hN]; exact hr_fr.si rfl (hr_fr.si rfl (hr_fr.rf _ _))
    obtain ⟨M4, g1, g2, g3, g4⟩ := s_keepM (M := N) (c := 1) (b := 32) (w := 3) (n := m) (lim := 6) (by rw [r86]; exact d3) (by omega) d4 (by omega) (by omega) (by omega)
    rw [show (1 : Int32) = nI 1 from rfl, show (32 : Int32) = nI 32 from rfl, show (3 : Int32) = nI 3 from rfl, show (6 : Int32) = nI 6 from rfl, g1, q_bd_some]
    have f4 : hr_fr [(275, 23), (287, 0), (286, 0)] M1 M4 := (hr_fr.mono rfl fN).tr (g2.fr1 rfl)
    refine hok M4 _ rfl (nm_done n1') ((hr_fr.mono rfl c2).tr (hr_fr.mono rfl f4)) ⟨?_, flm_eq (flm.fr c1.2 f4 rfl rfl) e1 e2⟩ ?_
    · unfold mTk
      rw [f4.at 275 11 rfl, f4.at 275 13 rfl, f4.at 275 14 rfl, f4.at 275 15 rfl, show M4.2.1 275 16 = M1.2.1 275 16 from (f4.1 275 16 rfl).2]
      exact c1.1
    · have d7 : M4.1 275 22 = zI z' := by rw [g2.1 275 (by omega)]; exact r22
      refine ⟨?_, fun hz => ?_⟩
      · by_cases y : m = 6
        · have eM := g3 y
          exact ⟨n, m, z', ⟨by rw [eM, r86]; exact d1, d2⟩, ⟨by rw [eM, r86]; exact d3, d4⟩, d7, hz1.1, hz1.2⟩
        · have g4' := g4 (by omega)
          exact ⟨n, m + 1, z', ⟨by rw [g4', if_neg (by omega), if_neg (by omega), r86]; exact d1, d2⟩, ⟨by rw [g4', if_pos rfl], by omega⟩, d7, hz1.1, hz1.2⟩
      · obtain ⟨x1, x2, x3, x4, x5⟩ := e3 hz
        obtain ⟨w1, w2⟩ := hz2 hz
        obtain ⟨⟨E1, E2⟩, ⟨E3, E4, E5⟩, zz, E6, E7, E8⟩ := hE x1
        have hm : m = pR (xP X) := (q_eq (by omega) (by have := ok.1.2.1; omega)).mp (d3.symm.trans E2)
        have hf : ¬ 6 ≤ pR (xP X) := by
          unfold fullX at x2
          rw [if_neg (by omega), if_neg (by omega), if_pos t1] at x2
          exact of_decide_eq_false x2
        have g4' := g4 (by omega)
        have l10 := ok.1.1
        rw [x4]
        unfold keepX
        rw [if_neg (by omega), if_neg (by omega), if_pos t1]
        refine ⟨⟨?_, ?_⟩, ⟨fun i hi => ?_, fun i hi => ?_, fun i hi => ?_⟩, z', d7, ⟨hz1.1, w1⟩, w2⟩
        · show M4.1 286 0 = nI (pH (xP X))
          rw [g4', if_neg (by omega), if_neg (by omega), r86]; exact E1
        · show M4.1 286 1 = nI (pR (xP X) + 1)
          rw [g4', if_pos rfl, hm]
        · have hi' : i < 3 * pH (xP X) := hi
          show M4.1 286 (2 + i) = nI (pP (xP X) i)
          rw [g4', if_neg (by omega), if_neg (by omega), r86]; exact E3 i hi'
        · have hi' : i < 3 * (pR (xP X) + 1) := hi
          show M4.1 286 (32 + i) = zI (if i = 3 * pR (xP X) then ((kc k : Nat) : Int) else if i = 3 * pR (xP X) + 1 then ((v0 : Nat) : Int) else if i = 3 * pR (xP X) + 2 then nu k 1 v1 else pU (xP X) i)
          rw [g4', if_neg (by omega), hm]
          by_cases y0 : i = 3 * pR (xP X)
          · rw [if_pos (by omega), if_pos y0, show 32 + i - (32 + 3 * pR (xP X)) = 0 by omega, r87, if_pos rfl, q_nz]
          · rw [if_neg y0]
            by_cases y1 : i = 3 * pR (xP X) + 1
            · rw [if_pos (by omega), if_pos y1, show 32 + i - (32 + 3 * pR (xP X)) = 1 by omega, r87, if_neg (by omega), q1, q_nz]
            · rw [if_neg y1]
              by_cases y2 : i = 3 * pR (xP X) + 2
              · rw [if_pos (by omega), if_pos y2, show 32 + i - (32 + 3 * pR (xP X)) = 2 by omega, r87, if_neg (by omega), q2]
              · rw [if_neg (by omega), if_neg y2, r86]; exact E4 i (by omega)
        · show M4.1 286 (50 + i) = nI (pL (xP X) i)
          rw [g4', if_neg (by omega), if_neg (by omega), r86]; exact E5 i hi
  have far : xF (effX k ws v0 v1 v2 (sT B L (ps B L p 0)) (sT B L (ps B L p 1)) (sT B L (ps B L p 2)) X) = 0 → z ≤ 9 ∧ ∀ h : Nat, xN X < 2 ^ h ↔ z < (h : Int) := by
    intro hz
    obtain ⟨x1, -⟩ := e3 hz
    obtain ⟨-, -, zz, E6, E7, E8⟩ := hE x1
    have hzz : z = zz := (q_zeq (by omega) (by omega)).mp (d5.symm.trans E6)
    rw [hzz]
    exact ⟨E7.2, E8⟩
  unfold ruleK
  rw [if_neg (show ¬ (1 : Int32) = 0 by decide)]
  by_cases y : kc k = 3
  · obtain ⟨y1, y2, y3⟩ := t3 y
    have u1' := u1 y1
    have q2' : M1.1 287 2 = nI v1 := by
      rw [q2]
      unfold nu
      rw [if_pos (by omega), q_nz]
    rw [if_pos (show nI (kc k) = 3 by rw [y]; rfl), if_pos (show inB 1 4 = true from q_in (i := 1) (by omega) (by omega)), if_pos (show inB 2 4 = true from q_in (i := 2) (by omega) (by omega)), show (1 : Int32).toNatClampNeg = 1 from rfl, show (2 : Int32).toNatClampNeg = 2 from rfl, q1, q2', s_greN M1 (by omega) (by omega), q_bd_some, d5, s_greZ M1 (by omega) (by omega), q_bd_some]
    refine fin _ (by omega) (fun hz => ?_)
    obtain ⟨w1, w2⟩ := far hz
    obtain ⟨x1, x2, x3, x4, x5⟩ := e3 hz
    obtain ⟨s1, s2, s3⟩ := badX_0 x3
    have s1' := s1 (by omega)
    have s2' := s2 (by omega)
    refine ⟨by omega, fun h => ?_⟩
    rw [if_pos y, ← Nat.or_assoc]
    have := far_or (v := v1) (far_or (v := v0) w2) h
    rw [this]
    omega
  · rw [if_neg (show ¬ nI (kc k) = 3 from fun w => y ((q_eq (b := 3) (by omega) (by omega)).mp w)), d5]
    refine fin z d6 (fun hz => ?_)
    rw [if_neg y]
    exact far hz
theorem tok_next {M : PM} (hr : mrd M B L) (hL : L ≤ 600) (hB : ∀ i, B i < 256) {p : Nat} (hp : p ≤ L) (ht : mTk M B L p) (hk : kT B L p ≠ 0) {f q : Nat} (hf : flm M f q (sT B L p + 1)) : ∃ M', f_X11_token M = some ((), M') ∧ hr_fr tokW M M' ∧ mSt M' B L (nT B L p) f q := by
  obtain ⟨M', g1, g2, g3⟩ := s_token (M0 := M) hr hL hB ((tok_ok (B := B) hL hp).2.2.2.1) ht.1
  exact ⟨M', g1, g2, g3, (hf.fr g2 rfl rfl).up (sT_mono hL hp hk)⟩
theorem preS_k {s p k : Nat} {X : Txt} (h : lkS B L s p = some k) (z : k ≠ 17) : ((nmS B L (kn k) (nT B L p)).1 = false → preS B L s p X = (false, (nmS B L (kn k) (nT B L p)).2, X)) ∧ ((nmS B L (kn k) (nT B L p)).1 = true → preS B L s p X = (true, (nmS B L (kn k) (nT B L p)).2, effX k (sT B L p) (vT B L (ps B L (nT B L p) 0)) (vT B L (ps B L (nT B L p) 1)) (vT B L (ps B L (nT B L p) 2)) (sT B L (ps B L (nT B L p) 0)) (sT B L (ps B L (nT B L p) 1)) (sT B L (ps B L (nT B L p) 2)) X)) := by
  constructor
  · intro y
    unfold preS
    rw [h]
    dsimp only
    rw [if_neg z, if_pos y]
  · intro y
    unfold preS
    rw [h]
    dsimp only
    rw [if_neg z, if_neg (by rw [y]; simp)]
theorem mTk.fr {M M' : PM} {p : Nat} (h : mTk M B L p) {W : List (Nat × Nat)} (hf : hr_fr W M M') (h1 : hr_in W 275 11 = false) (h2 : hr_in W 275 13 = false) (h3 : hr_in W 275 14 = false) (h4 : hr_in W 275 15 = false) (h5 : hr_in W 275 16 = false) : mTk M' B L p := by
  unfold mTk
  rw [hf.at 275 11 h1, hf.at 275 13 h2, hf.at 275 14 h3, hf.at 275 15 h4, (hf.1 275 16 h5).2]
  exact h
/-- what a line's numbers come to is what the line comes to -/
theorem ln_fail {M M0 : PM} {s p k : Nat} {X : Txt} {R : PM → Txt → Prop} (h : lkS B L s p = some k) (z : k ≠ 17) (hf : hr_fr lmW M M0) : ∀ M', (nmS B L (kn k) (nT B L p)).1 = false → hr_fr tmW M0 M' → M'.1 275 17 = nI (sT B L (nmS B L (kn k) (nT B L p)).2) → lnOut M B L s p X R (some (0, M')) := by
  intro M' g1 g2 g3
  have e := (preS_k (X := X) h z).1 g1
  refine Or.inl ⟨by rw [e], M', rfl, hf.tr (hr_fr.mono rfl g2), by rw [e]; exact g3⟩
theorem ln_ok {M M0 : PM} {s p k m : Nat} {X : Txt} {R : PM → Txt → Prop} (h : lkS B L s p = some k) (z : k ≠ 17) (hf : hr_fr lmW M M0) (hm : m = kn k) : ∀ M' Y, Y = effX k (sT B L p) (vT B L (ps B L (nT B L p) 0)) (vT B L (ps B L (nT B L p) 1)) (vT B L (ps B L (nT B L p) 2)) (sT B L (ps B L (nT B L p) 0)) (sT B L (ps B L (nT B L p) 1)) (sT B L (ps B L (nT B L p) 2)) X → nmS B L m (nT B L p) = (true, ps B L (nT B L p) m) → hr_fr lmW M0 M' → mSt M' B L (ps B L (nT B L p) m) (xF Y) (xQ Y) → R M' Y → lnOut M B L s p X R (some (1, M')) := by
  intro M' Y hY g1 g2 g3 g4
  subst hm
  have e := (preS_k (X := X) h z).2 (by rw [g1])
  rw [g1, ← hY] at e
  refine Or.inr ⟨by rw [e], M', rfl, hf.tr g2, by rw [e]; exact g3, by rw [e]; exact g4⟩
end MOD
