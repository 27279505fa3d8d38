/-! THE MODEL'S READER: a whole text -/
/-- what the reading of a text may write in the model -/
abbrev rxW : List (Nat × Nat) := [(275, 12), (275, 14), (275, 15), (275, 16), (275, 17), (275, 18), (275, 19), (275, 20), (275, 23), (275, 24), (278, 1), (279, 1), (286, 0), (287, 0)]
def rdM (M0 : PM) (B : Nat → Nat) (L s : Nat) (r : Option (Int32 × PM)) : Prop := ∃ M', r = some (bI (decide (rdF B L s = 0)), M') ∧ hr_fr rxW M0 M' ∧ M'.1 278 0 = nI (rdF B L s) ∧ M'.1 279 0 = zI (rdQ B L s) ∧ (rdF B L s = 0 → mX s M' (readS B L s).2.2 ∧ xF (readS B L s).2.2 = 0)
theorem m_149 {M0 N : PM} {f : Nat} {q : Int} (hf : hr_fr rxW M0 N) (h : N.1 278 0 = nI f) (hf4 : f ≤ 4) (a1 : Int32) : ∃ M', f_X11_readText_149 a1 (zI q) 0 N = some (bI (decide (f = 0)), M') ∧ hr_fr rxW M0 M' ∧ M'.1 278 0 = nI f ∧ M'.1 279 0 = zI q ∧ M'.1 286 = N.1 286 ∧ M'.1 275 = N.1 275 := by
  have in4 : inB 0 4 = true := q_in (i := 0) (by omega) (by omega)
  unfold f_X11_readText_149
  rw [if_pos in4, if_pos in4, show (0 : Int32).toNatClampNeg = 0 from rfl, si_ne _ _ _ (show 278 ≠ 279 by omega), h]
  have fin : ∀ v, v = bI (decide (f = 0)) → ∃ M', (some (v, hr_si N 279 0 (zI q)) : Option (Int32 × PM)) = some (bI (decide (f = 0)), M') ∧ hr_fr rxW M0 M' ∧ M'.1 278 0 = nI f ∧ M'.1 279 0 = zI q ∧ M'.1 286 = N.1 286 ∧ M'.1 275 = N.1 275 := fun v hv => by
    rw [hv]
    exact ⟨_, rfl, hr_fr.si rfl hf, by rw [si_ne _ _ _ (by omega)]; exact h, by rw [si_same, if_pos rfl], si_ne _ _ _ (by omega), si_ne _ _ _ (by omega)⟩
  by_cases z : f = 0
  · rw [if_pos (show nI f = 0 by rw [z]; rfl)]
    exact fin 1 (by rw [decide_eq_true z]; rfl)
  · rw [if_neg (show ¬ nI f = 0 from fun w => z ((q_eq (b := 0) (by omega) (by omega)).mp w))]
    exact fin 0 (by rw [decide_eq_false z]; rfl)
/-- a text that isn't formed -/
theorem m_100f {M0 N : PM} {q : Nat} (hf : hr_fr rxW M0 N) (h : N.1 275 17 = nI q) (a1 : Int32) : ∃ M', f_X11_readText_100 a1 0 N = some (0, M') ∧ hr_fr rxW M0 M' ∧ M'.1 278 0 = nI 1 ∧ M'.1 279 0 = nI q := by
  have in4 : inB 0 4 = true := q_in (i := 0) (by omega) (by omega)
  unfold f_X11_readText_100
  rw [if_pos rfl]
  unfold f_X11_readText_117
  rw [if_pos in4, if_pos rfl, show (0 : Int32).toNatClampNeg = 0 from rfl, si_ne _ _ _ (show 275 ≠ 278 by omega), h, q_nz]
  obtain ⟨M', g1, g2, g3, g4, -⟩ := m_149 (M0 := M0) (N := hr_si N 278 0 1) (f := 1) (q := q) (hr_fr.si rfl hf) (by rw [si_same, if_pos rfl]; rfl) (by omega) a1
  exact ⟨M', g1, g2, g3, g4⟩
/-- one that is -/
theorem m_100t {M0 N : PM} {f q b : Nat} (hf : hr_fr rxW M0 N) (h : flm N f q b) (hb : b ≤ 601) (a1 : Int32) : ∃ M', f_X11_readText_100 a1 1 N = some (bI (decide (f = 0)), M') ∧ hr_fr rxW M0 M' ∧ M'.1 278 0 = nI f ∧ M'.1 279 0 = zI (if f = 0 then -1 else (q : Int)) ∧ M'.1 286 = N.1 286 ∧ M'.1 275 = N.1 275 := by
  have in4 : inB 0 4 = true := q_in (i := 0) (by omega) (by omega)
  obtain ⟨h1, h2, h3⟩ := h
  unfold f_X11_readText_100
  rw [if_neg (by decide)]
  unfold f_X11_readText_117
  rw [if_pos in4, if_neg (by decide), show (0 : Int32).toNatClampNeg = 0 from rfl, si_ne _ _ _ (show 275 ≠ 278 by omega), h1]
  have hf' : hr_fr rxW M0 (hr_si N 278 0 (nI f)) := hr_fr.si rfl hf
  have h8 : (hr_si N 278 0 (nI f)).1 278 0 = nI f := by rw [si_same, if_pos rfl]
  by_cases z : f = 0
  · rw [if_pos (show nI f ≤ 0 from (nI_le0 (by omega)).mpr z), if_pos z, show (-1 : Int32) = zI (-1) by decide]
    obtain ⟨M', g1, g2, g3, g4, g5, g6⟩ := m_149 (q := -1) hf' h8 h2 a1
    exact ⟨M', g1, g2, g3, g4, g5.trans (si_ne _ _ _ (by omega)), g6.trans (si_ne _ _ _ (by omega))⟩
  · rw [if_neg (show ¬ nI f ≤ 0 from fun w => z ((nI_le0 (by omega)).mp w)), if_neg z, (h3 z).1, q_nz]
    obtain ⟨M', g1, g2, g3, g4, g5, g6⟩ := m_149 (q := q) hf' h8 h2 a1
    exact ⟨M', g1, g2, g3, g4, g5.trans (si_ne _ _ _ (by omega)), g6.trans (si_ne _ _ _ (by omega))⟩
section MOD
variable {B : Nat → Nat} {L : Nat}
theorem m_read37 {M0 N : PM} {s : Nat} (hf : hr_fr rxW M0 N) (hr : mrd N B L) (hL : L ≤ 600) (hB : ∀ i, B i < 256) (hs : s < 5) (hz : ∀ i, i < 121 → N.1 286 i = nI 0) : rdM M0 B L s (f_X11_readText_37 (nI s) (nI (if s = 1 then 10 else 0)) 1 N) := by
  unfold f_X11_readText_37
  rw [if_pos (show inB 1 121 = true from q_in (i := 1) (by omega) (by omega)), show (1 : Int32).toNatClampNeg = 1 from rfl]
  generalize hN1 : hr_si (hr_si (hr_si (hr_si N 286 1 (nI (if s = 1 then 10 else 0))) 275 22 (-1)) 275 11 0) 275 18 0 = N1
  have f1 : hr_fr [(275, 12), (275, 19), (275, 23), (286, 0)] N N1 := by rw [← hN1]; exact hr_fr.si rfl (hr_fr.si rfl (hr_fr.si rfl (hr_fr.si rfl (hr_fr.rf _ _))))
  have e11 : N1.1 275 11 = nI 0 := by rw [← hN1, si_same, if_neg (by omega), si_same, if_pos rfl]; rfl
  have e18 : N1.1 275 18 = nI 0 := by rw [← hN1, si_same, if_pos rfl]; rfl
  have e22 : N1.1 275 22 = zI (-1) := by rw [← hN1, si_same, if_neg (by omega), si_same, if_neg (by omega), si_same, if_pos rfl]; decide
  have e86 : ∀ j, j < 121 → N1.1 286 j = if j = 1 then nI (if s = 1 then 10 else 0) else nI 0 := fun j hj => by
    rw [← hN1, si_ne _ _ _ (by omega), si_ne _ _ _ (by omega), si_ne _ _ _ (by omega), si_same]
    by_cases y : j = 1
    · rw [if_pos y, if_pos y]
    · rw [if_neg y, if_neg y]; exact hz j hj
  have hr1 : mrd N1 B L := hr.fr f1 rfl (fun _ => rfl)
  obtain ⟨M2, t1, t2, t3⟩ := s_token (M0 := N1) hr1 hL hB (p := 0) (Nat.zero_le _) e11
  have hf2 : hr_fr rxW M0 M2 := (hf.tr (hr_fr.mono rfl f1)).tr (hr_fr.mono rfl t2)
  have r86 : M2.1 286 = N1.1 286 := t2.row 286 (fun _ => rfl)
  have r22 : M2.1 275 22 = zI (-1) := (t2.at 275 22 rfl).trans e22
  have hst : mSt M2 B L 0 0 0 := ⟨t3, (t2.at 275 18 rfl).trans e18, by omega, fun h => absurd rfl h⟩
  have z86 : ∀ j, j < 121 → j ≠ 1 → M2.1 286 j = nI 0 := fun j hj h1 => by rw [r86, e86 j hj, if_neg h1]
  have hX : mX s M2 txt0 := by
    have ss : s = 0 ∨ s = 1 ∨ s = 2 ∨ s = 3 ∨ s = 4 := by omega
    have z1 : M2.1 286 1 = nI (if s = 1 then 10 else 0) := by rw [r86, e86 1 (by omega), if_pos rfl]
    rcases ss with rfl | rfl | rfl | rfl | rfl
    · refine ⟨⟨0, 0, -1, ⟨z86 0 (by omega) (by omega), by omega⟩, ⟨z1, by omega⟩, r22, by omega, by omega⟩, fun _ => ⟨⟨z86 0 (by omega) (by omega), z1⟩, ⟨fun i hi => absurd hi (Nat.not_lt_zero _), fun i hi => absurd hi (Nat.not_lt_zero _), fun i hi => z86 (50 + i) (by omega) (by omega)⟩, -1, r22, by omega, fun h => ?_⟩⟩
      have : 0 < 2 ^ h := Nat.two_pow_pos h
      exact ⟨fun _ => by omega, fun _ => this⟩
    · exact ⟨⟨0, z86 0 (by omega) (by omega), by omega⟩, fun _ => ⟨⟨z86 0 (by omega) (by omega), z1⟩, fun i hi => absurd hi (Nat.not_lt_zero _)⟩⟩
    · exact ⟨⟨0, z86 0 (by omega) (by omega), by omega⟩, fun _ => ⟨z86 0 (by omega) (by omega), fun i hi => absurd hi (Nat.not_lt_zero _)⟩⟩
    · exact ⟨⟨0, z86 0 (by omega) (by omega), by omega⟩, fun _ => ⟨z86 0 (by omega) (by omega), fun i hi => absurd hi (Nat.not_lt_zero _)⟩⟩
    · exact ⟨⟨0, z86 0 (by omega) (by omega), by omega⟩, fun _ => ⟨z86 0 (by omega) (by omega), fun i hi => absurd hi (Nat.not_lt_zero _)⟩⟩
  obtain ⟨M4, k1, k2, k3, k4⟩ := m_lines (hr1.fr t2 rfl (fun _ => rfl)) hL hB hs hst hX
  have hf4 : hr_fr rxW M0 M4 := hf2.tr (hr_fr.mono rfl k2)
  obtain ⟨q1, hok⟩ := readS_ok (B := B) (L := L) (s := s) hL hs
  rw [t1, q_bd_some, k1, q_bd_some]
  cases hv : (readS B L s).1 with
  | false =>
    have eF : rdF B L s = 1 := by unfold rdF; rw [if_pos hv]
    have eQ : rdQ B L s = (sT B L (readS B L s).2.1 : Int) := by unfold rdQ; rw [if_pos hv]
    obtain ⟨M', g1, g2, g3, g4⟩ := m_100f hf4 (k3 hv) (nI s)
    rw [if_pos (show bI false = 0 from rfl), show bI false = 0 from rfl, g1]
    exact ⟨M', by rw [eF]; rfl, g2, by rw [eF]; exact g3, by rw [eQ, ← q_nz]; exact g4, fun h => by rw [eF] at h; cases h⟩
  | true =>
    obtain ⟨st, hx, kz⟩ := k4 hv
    generalize hY : (readS B L s).2.2 = Y at *
    generalize hp : (readS B L s).2.1 = p at *
    have sL : sT B L p = L := (tok_ok (B := B) hL q1).2.2.2.2.2 kz
    have eF : rdF B L s = if xF Y ≠ 0 then xF Y else if xN Y < 2 ^ pH (xP Y) then 0 else 4 := by unfold rdF; rw [if_neg (by rw [hv]; simp), hY]
    have eQ : rdQ B L s = if xF Y ≠ 0 then (xQ Y : Int) else if xN Y < 2 ^ pH (xP Y) then -1 else (L : Int) := by unfold rdQ; rw [if_neg (by rw [hv]; simp), hY]
    have f3 := hok.2.2.2.1
    -- nothing more to be found
    have fin : (xF Y = 0 → xN Y < 2 ^ pH (xP Y)) → rdM M0 B L s (f_X11_readText_100 (nI s) 1 M4) := by
      intro hn
      obtain ⟨M', g1, g2, g3, g4, g5, g6⟩ := m_100t hf4 st.2 (by omega) (nI s)
      have eF' : rdF B L s = xF Y := by
        rw [eF]
        by_cases z : xF Y = 0
        · rw [if_neg (fun w => w z), if_pos (hn z), z]
        · rw [if_pos z]
      have eQ' : rdQ B L s = if xF Y = 0 then -1 else (xQ Y : Int) := by
        rw [eQ]
        by_cases z : xF Y = 0
        · rw [if_neg (fun w => w z), if_pos (hn z), if_pos z]
        · rw [if_pos z, if_neg z]
      refine ⟨M', by rw [g1, eF'], g2, by rw [eF']; exact g3, by rw [eQ']; exact g4, fun h => ⟨?_, ?_⟩⟩
      · rw [hY]; exact mX_eq hx g5 (by rw [g6])
      · rw [hY, ← eF']; exact h
    rw [if_neg (show ¬ bI true = 0 by decide), show bI true = 1 from rfl]
    by_cases s0 : s = 0
    · subst s0
      rw [if_pos (show nI 0 = 0 from rfl), st.2.1]
      by_cases z : xF Y = 0
      · have hx0 : mX0 M4 Y := hx
        obtain ⟨⟨E1, E2⟩, ⟨E3, E4, E5⟩, zz, E6, E7, E8⟩ := hx0.2 z
        have l10 := hok.1.1
        rw [if_pos (show nI (xF Y) = 0 by rw [z]; rfl), if_pos (show inB 0 121 = true from q_in (i := 0) (by omega) (by omega)), show (0 : Int32).toNatClampNeg = 0 from rfl, E6, E1]
        by_cases y : xN Y < 2 ^ pH (xP Y)
        · rw [if_pos ((q_znlt (by omega) (by omega)).mpr ((E8 _).mp y))]
          exact fin (fun _ => y)
        · rw [if_neg (fun w => y ((E8 _).mpr ((q_znlt (by omega) (by omega)).mp w))), st.1.2.1]
          obtain ⟨M5, l1, l2, l3⟩ := s_later (a := 4) st.2 (by omega) (by omega)
          have e2 : fl2 (xF Y) (xQ Y) true 4 (sT B L p) = (4, sT B L p) := if_pos ⟨z, rfl⟩
          rw [e2] at l3
          obtain ⟨M', g1, g2, g3, g4, g5, g6⟩ := m_100t (hf4.tr (hr_fr.mono rfl l2)) l3 (by omega) (nI 0)
          rw [if_neg (fun w => w z), if_neg y] at eF eQ
          rw [show (4 : Int32) = nI 4 from rfl, l1, q_bd_some, g1]
          refine ⟨M', by rw [eF], g2, by rw [eF]; exact g3, ?_, fun h => by rw [eF] at h; cases h⟩
          rw [eQ, g4, if_neg (show ¬ (4, sT B L p).1 = 0 by show ¬ 4 = 0; omega)]
          show zI ((sT B L p : Nat) : Int) = zI (L : Int)
          rw [sL]
      · rw [if_neg (show ¬ nI (xF Y) = 0 from fun w => z ((q_eq (b := 0) (by omega) (by omega)).mp w))]
        exact fin (fun w => absurd w z)
    · rw [if_neg (show ¬ nI s = 0 from fun w => s0 ((q_eq (b := 0) (by omega) (by omega)).mp w))]
      obtain ⟨-, o2, o3⟩ := hok.2.1 (by omega)
      exact fin (fun _ => by rw [o3]; exact Nat.two_pow_pos _)
theorem m_readText {M0 : PM} {s : Nat} (hr : mrd M0 B L) (hL : L ≤ 600) (hB : ∀ i, B i < 256) (hs : s < 5) : rdM M0 B L s (f_X11_readText (nI s) M0) := by
  unfold f_X11_readText
  refine hr_for (σ := PM) (fun f i N => f_X11_readText_2 (nI s) f (nI i) N) 121 (fun i N => hr_fr [(286, 0)] M0 N ∧ ∀ j, j < i → N.1 286 j = nI 0) (fun r => rdM M0 B L s r) ?_ ?_ FU 0 M0 (Nat.zero_le _) (FU_ok (by omega)) ⟨hr_fr.rf _ _, fun j hj => by omega⟩
  · rintro f i N hi ⟨i1, i2⟩
    right
    show ∃ s', f_X11_readText_2 (nI s) (f + 1) (nI i) N = f_X11_readText_2 (nI s) f (nI (i + 1)) s' ∧ _
    rw [f_X11_readText_2.eq_2, q_lit 121, gO 121, if_neg (fun y => by have := (q_le (by omega) (by omega)).mp y; omega), if_pos (q_in (by omega) (by omega)), q_cl (by omega), q_lit 1, gO 1, q_add]
    refine ⟨_, rfl, hr_fr.si rfl i1, fun j hj => ?_⟩
    show (hr_si N 286 i 0).1 286 j = _
    rw [si_same]
    by_cases z : j = i
    · rw [if_pos z]; rfl
    · rw [if_neg z]; exact i2 j (by omega)
  · rintro f N ⟨i1, i2⟩
    have key := m_read37 (M0 := M0) (N := N) (s := s) (hr_fr.mono rfl i1) (hr.fr i1 rfl (fun _ => rfl)) hL hB hs i2
    show rdM M0 B L s (f_X11_readText_2 (nI s) (f + 1) (nI 121) N)
    rw [f_X11_readText_2.eq_2, q_lit 121, gO 121, if_pos (Int32.le_refl _)]
    by_cases z : s = 1
    · rw [if_pos (show nI s = 1 by rw [z]; rfl)]
      rw [if_pos z] at key
      exact key
    · rw [if_neg (show ¬ nI s = 1 from fun w => z ((q_eq (b := 1) (by omega) (by omega)).mp w))]
      rw [if_neg z] at key
      exact key
end MOD
