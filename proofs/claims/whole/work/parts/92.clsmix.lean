/-! MIXES, by the class -/
/-- a hue's own colour -/
def clr (P : Pal) (h : Nat) : Nat := 100 * pP P (3 * h) + 10 * pP P (3 * h + 1) + pP P (3 * h + 2)
theorem clr_lt {P : Pal} (hP : pOK P) (h : Nat) : clr P h < 1000 := by
  have h9 := pP_le hP
  have p0 := h9 (3 * h)
  have p1 := h9 (3 * h + 1)
  have p2 := h9 (3 * h + 2)
  unfold clr; omega
def mixS (P : Pal) (h : Nat) (s w : Int32) : Int32 :=
  if foes P h &&& memS P s = 0 then (if w = nI 0 then nI 0 else if w = nI 1 then zI (-1) else nI (clr P h))
  else if mxD P (mixB P s) (clr P h) < 1000000 then (if w = nI 0 then nI (mxD P (mixB P s) (clr P h) + 1) else if w = nI 1 then nI (mxh P (mixB P s) (clr P h) (mxD P (mixB P s) (clr P h))) else nI (mxs P (mixB P s) (clr P h) (mxD P (mixB P s) (clr P h) + 1)))
  else zI (-2)
def sp_mix (T : Tol) (p x s w : Int32) : Int32 := match ix p (tz T 0) with
  | none => zI (-2)
  | some p => match ix x (pH (tP T p)) with
    | none => zI (-2)
    | some h => match ix w 3 with
      | none => zI (-2)
      | some _ => mixS (tP T p) h s w
section CLS
variable {a : Nat} {P : Pal}
/-- what comes of a search -/
def srch (P : Pal) (B : Nat → Bool) (c0 : Nat) (x : Option (Int32 × PM)) : Prop := (mxD P B c0 < 1000000 → ∃ M, x = some (nI 1, M) ∧ M.1 257 7 = nI (mxD P B c0 + 1) ∧ M.1 257 8 = nI (mxh P B c0 (mxD P B c0)) ∧ M.1 257 9 = nI (mxs P B c0 (mxD P B c0 + 1))) ∧ (¬ mxD P B c0 < 1000000 → ∃ M, x = some (nI 0, M))
theorem s_blend95 (ha : a + 9 ≤ 240) (s a2 : Int32) {c0 : Nat} (hc : c0 < 1000) : ∀ (fuel k : Nat) (M : PM) (qc qu qf : Nat → Nat) (S : Nat → Bool) (m : Nat), rP M a P → bqM M qc qu qf S m → bq P (mixB P s) c0 qc qu qf S m k 0 → 1002 - k < fuel → srch P (mixB P s) c0 (f_X0_blend_95 a a2 s fuel (nI k) M) := by
  intro fuel
  induction fuel with
  | zero => intro k M qc qu qf S m _ _ _ h; omega
  | succ fuel ih =>
    intro k M qc qu qf S m hP hM hq hf
    have hn := hP.1.2.1
    have hk := hq.1.1.1
    have hm := bq_few hq
    rw [f_X0_blend_95.eq_2, hM.1, if_neg (fun z => by have := (q_le (by omega) (by omega)).mp z; omega), q_lit 1000, gO 1000, if_neg (fun z => by have := (q_lt (by omega) (by omega)).mp z; omega)]
    refine hr_for (σ := PM × (Nat → Nat) × (Nat → Nat) × (Nat → Nat) × (Nat → Bool) × Nat) (fun f h x => f_X0_blend_115 a a2 s (fun x4 M => f_X0_blend_95 a a2 s fuel x4 M) f (nI k) (nI h) x.1) (pH P) (fun h x => rP x.1 a P ∧ bqM x.1 x.2.1 x.2.2.1 x.2.2.2.1 x.2.2.2.2.1 x.2.2.2.2.2 ∧ bq P (mixB P s) c0 x.2.1 x.2.2.1 x.2.2.2.1 x.2.2.2.2.1 x.2.2.2.2.2 k h) (srch P (mixB P s) c0) ?_ ?_ FU 0 (M, qc, qu, qf, S, m) (Nat.zero_le _) (FU_ok (by omega)) ⟨hP, hM, hq⟩
    · rintro f h ⟨N, qc, qu, qf, S, m⟩ hh ⟨hP, hM, hq⟩
      dsimp only at hP hM hq
      have hk := hq.1.1.1
      have hm := bq_few hq
      have hku := hq.2.1.1 k hk
      obtain ⟨p1, p2⟩ := s_pour hP ha hM hk (fun z => by
        rcases Nat.eq_zero_or_pos k with y | y
        · exact y
        · have := (hq.2.1.2.1 k y hk).2; omega) hm hku.1 (by omega) (fun z => by omega) hh s
      show srch P (mixB P s) c0 (f_X0_blend_115 a a2 s _ (f + 1) (nI k) (nI h) N) ∨ ∃ s', f_X0_blend_115 a a2 s _ (f + 1) (nI k) (nI h) N = f_X0_blend_115 a a2 s _ f (nI k) (nI (h + 1)) (Prod.fst s') ∧ _
      rw [f_X0_blend_115.eq_2, hP.2.1.1, if_neg (fun z => by have := (q_le (by omega) (by omega)).mp z; omega)]
      cases hs : S (mxd P (qc k) h) with
      | true =>
        right
        rw [p1 hs, q_bd_some, if_pos (show nI 0 = 0 from rfl), q_lit 1, gO 1, q_add]
        exact ⟨(N, qc, qu, qf, S, m), rfl, hP, hM, bq_seen hq hh hs⟩
      | false =>
        have hc1 := (cnt_one (mxd_lt P (qc k) h) hs).2
        have hc2 := hq.1.2.2
        obtain ⟨N', g1, g2, g3⟩ := p2 hs (by omega)
        have hfr := fr_X0_pour _ _ _ _ _ _ g1
        have hP' : rP N' a P := rP_ag hP (hfr.agr (n := 240) rfl) (Nat.zero_le _) (by omega)
        rw [g1, q_bd_some]
        cases hb : mixB P s (mxd P (qc k) h) with
        | true =>
          left
          obtain ⟨d1, d2, d3, d4⟩ := bq_found hn hc hq hh hb
          obtain ⟨v1, v2, v3⟩ := g3 hb
          rw [if_neg (show ¬ bI true = 0 by decide)]
          refine ⟨fun _ => ⟨N', rfl, ?_, ?_, ?_⟩, fun z => absurd d1 z⟩
          · rw [v1, d2]
          · rw [v2, d4]
          · rw [v3, d3]
        | false =>
          right
          rw [if_pos (show bI false = 0 from rfl), q_lit 1, gO 1, q_add]
          refine ⟨(N', _, _, _, _, _), rfl, hP', g2, ?_⟩
          exact bq_push hn hc hq hh hs hb (fun j hj => ⟨upQ_ne _ _ (by omega), upQ_ne _ _ (by omega), upQ_ne _ _ (by omega)⟩) (upQ_at _ _ _) (upQ_at _ _ _) (upQ_at _ _ _) (fun _ => rfl)
    · rintro f ⟨N, qc, qu, qf, S, m⟩ ⟨hP, hM, hq⟩
      dsimp only at hP hM hq
      have hk := hq.1.1.1
      have hm := bq_few hq
      show srch P (mixB P s) c0 (f_X0_blend_115 a a2 s _ (f + 1) (nI k) (nI (pH P)) N)
      rw [f_X0_blend_115.eq_2, hP.2.1.1, if_pos ((q_le (by omega) (by omega)).mpr (Nat.le_refl _)), q_lit 1, gO 1, q_add]
      by_cases hk1 : k + 1 < m
      · exact ih (k + 1) N qc qu qf S m hP hM (bq_next hn hc hq hk1) (by omega)
      · have hD := bq_end hn hc hq (by omega)
        obtain ⟨g, rfl⟩ : ∃ g, fuel = g + 1 := ⟨fuel - 1, by omega⟩
        show srch P (mixB P s) c0 (f_X0_blend_95 a a2 s (g + 1) (nI (k + 1)) N)
        rw [f_X0_blend_95.eq_2, hM.1, if_pos ((q_le (by omega) (by omega)).mpr (by omega))]
        exact ⟨fun z => by omega, fun _ => ⟨N, rfl⟩⟩
theorem s_blend55 {M : PM} (hP : rP M a P) (ha : a + 9 ≤ 240) (s a2 : Int32) {c0 : Nat} (hc : c0 < 1000) (h9 : M.1 257 9 = nI c0) : srch P (mixB P s) c0 (f_X0_blend_55 a a2 s FU (nI 0) M) := by
  have hn := hP.1.2.1
  refine hr_for (σ := PM) (fun f k N => f_X0_blend_55 a a2 s f (nI k) N) 1000 (fun k N => rP N a P ∧ N.1 257 9 = nI c0 ∧ ∀ x, x < k → N.1 260 x = nI 0) (srch P (mixB P s) c0) ?_ ?_ FU 0 M (Nat.zero_le _) (FU_ok (by omega)) ⟨hP, h9, fun x hx => by omega⟩
  · rintro f k N hk ⟨hP, h9, hS⟩
    right
    show ∃ s', f_X0_blend_55 a a2 s (f + 1) (nI k) N = f_X0_blend_55 a a2 s f (nI (k + 1)) s' ∧ _
    rw [f_X0_blend_55.eq_2, q_lit 1000, gO 1000, if_neg (fun z => by have := (q_le (by omega) (by omega)).mp z; omega), if_pos (q_in (by omega) (by omega)), q_cl (by omega), nar_b.1, q_lit 1, gO 1, q_add]
    refine ⟨_, rfl, hP.agr (fun d h1 h2 => si_ne _ _ _ (by omega)), by rw [si_ne _ _ _ (by omega)]; exact h9, fun x hx => ?_⟩
    rw [si_same]
    by_cases e : x = k
    · rw [if_pos e]
    · rw [if_neg e]; exact hS x (by omega)
  · rintro f N ⟨hP, h9, hS⟩
    show srch P (mixB P s) c0 (f_X0_blend_55 a a2 s (f + 1) (nI 1000) N)
    have e6 : (hr_si N 257 6 (nI 0)).1 257 6 = nI 0 := by rw [si_same, if_pos rfl]
    have e9 : (hr_si N 257 6 (nI 0)).1 257 9 = nI c0 := by rw [si_same, if_neg (by omega)]; exact h9
    rw [f_X0_blend_55.eq_2, q_lit 1000, gO 1000, if_pos ((q_le (by omega) (by omega)).mpr (Nat.le_refl _)), show (0 : Int32) = nI 0 from rfl, e9, show (-1 : Int32) = zI (-1) by decide, s_enqueue e6 (by omega), q_bd_some]
    refine s_blend95 ha s a2 hc FU 0 _ (fun _ => c0) (fun _ => 0) (fun _ => 0) (fun _ => false) 1 ?_ ⟨?_, fun j hj => ⟨?_, ?_⟩, fun j h1 hj => by omega, fun x hx => ?_⟩ (bq_start hn hc rfl rfl) (by unfold FU; omega)
    · exact hP.agr (fun d h1 h2 => by rw [si_ne _ _ _ (by omega), si_ne _ _ _ (by omega), si_ne _ _ _ (by omega), si_ne _ _ _ (by omega), si_ne _ _ _ (by omega)])
    · rw [si_same, if_pos rfl]
    · rw [si_ne _ _ _ (by omega), si_ne _ _ _ (by omega), si_ne _ _ _ (by omega), si_same, if_pos (by omega)]
    · rw [si_ne _ _ _ (by omega), si_ne _ _ _ (by omega), si_same, if_pos (by omega)]
    · rw [si_ne _ _ _ (by omega), si_ne _ _ _ (by omega), si_ne _ _ _ (by omega), si_ne _ _ _ (by omega), si_ne _ _ _ (by omega)]
      exact hS x hx
/-- what comes of a mix -/
def blnd (P : Pal) (h : Nat) (s : Int32) (x : Option (Int32 × PM)) : Prop := if foes P h &&& memS P s = 0 then ∃ M, x = some (nI 1, M) ∧ M.1 257 7 = nI 0 ∧ M.1 257 8 = zI (-1) ∧ M.1 257 9 = nI (clr P h) else srch P (mixB P s) (clr P h) x
theorem s_blend {M : PM} (hP : rP M a P) (ha : a + 9 ≤ 240) {h : Nat} (hh : h < pH P) (s : Int32) : blnd P h s (f_X0_blend a (nI h) s M) := by
  have h9 := pP_le hP.1.2
  have h10 := hP.1.2.1
  have p0 := h9 (3 * h)
  have p1 := h9 (3 * h + 1)
  have p2 := h9 (3 * h + 2)
  have hc := clr_lt hP.1.2 h
  have hfl : foes P h < 2 ^ pH P := bset_lt _ _
  have hml : foes P h &&& memS P s < 2 ^ pH P := Nat.lt_of_le_of_lt Nat.and_le_left hfl
  have h3 : 2 ^ pH P ≤ 2 ^ 10 := Nat.pow_le_pow_right (by decide) h10
  have ec : 100 * pP P (3 * h) + 10 * pP P (3 * h + 1) + pP P (3 * h + 2) = clr P h := rfl
  unfold f_X0_blend
  rw [if_pos hP.1.1, show (-1 : Int32) = zI (-1) by decide, show (0 : Int32) = nI 0 from rfl, show (1 : Int32) = nI 1 from rfl, show (2 : Int32) = nI 2 from rfl, s_part hP hh (by omega), q_bd_some, s_part hP hh (by omega), q_bd_some, s_part hP hh (by omega), q_bd_some, Nat.add_zero, q_lit 100, q_lit 10, gO 100, gO 10, q_mul, q_mul, q_add, q_add, ec]
  have hP2 : rP (hr_si (hr_si (hr_si M 257 9 (nI (clr P h))) 257 7 (nI 0)) 257 8 (zI (-1))) a P := hP.agr (fun d h1 h2 => by rw [si_ne _ _ _ (by omega), si_ne _ _ _ (by omega), si_ne _ _ _ (by omega)])
  rw [s_foesOf hP2 hh, q_bd_some, and_mem hfl]
  have v9 : (hr_si (hr_si (hr_si M 257 9 (nI (clr P h))) 257 7 (nI 0)) 257 8 (zI (-1))).1 257 9 = nI (clr P h) := by rw [si_same, if_neg (by omega), si_same, if_neg (by omega), si_same, if_pos rfl]
  unfold blnd
  by_cases z : foes P h &&& memS P s = 0
  · rw [if_pos z, if_pos (show nI (foes P h &&& memS P s) = nI 0 by rw [z])]
    refine ⟨_, rfl, ?_, ?_, v9⟩
    · rw [si_same, if_neg (by omega), si_same, if_pos rfl]
    · rw [si_same, if_pos rfl]
  · rw [if_neg z, if_neg (show ¬ nI (foes P h &&& memS P s) = nI 0 from fun z2 => z ((q_eq (by omega) (by omega)).mp z2))]
    exact s_blend55 hP2 ha s _ hc v9
end CLS
theorem c_mix {M : PM} {T : Tol} (hT : rT M 1 T) (ok : tOK T) (p x s w : Int32) : hw (f_X10_mix p x s w M) (fun v _ => v = sp_mix T p x s w) := by
  have z0 := ok.2.2.1 0 (by omega)
  unfold f_X10_mix
  rw [s_paletteAt hT z0, q_bd_some]
  cases hp : ix p (tz T 0) with
  | none =>
    refine hw.ok ?_
    unfold sp_mix
    rw [hp]
    exact (show (-2 : Int32) = zI (-2) by decide)
  | some p =>
    dsimp only
    obtain ⟨rfl, lp, -⟩ := ix_some hp
    have hP := hT.pal (show p < 2 by omega)
    have h10 := hP.1.2.1
    rw [if_pos hP.1.1, show (-2 : Int32) = zI (-2) by decide, s_hasix hP, q_bd_some]
    unfold sp_mix
    rw [hp]
    dsimp only
    cases hx : ix x (pH (tP T p)) with
    | none =>
      rw [if_pos (show bI (none : Option Nat).isSome = 0 from rfl)]
      exact hw.ok rfl
    | some h =>
      obtain ⟨rfl, lh, -⟩ := ix_some hx
      rw [if_neg (show ¬ bI (some h).isSome = 0 from (by decide : ¬ nI 1 = 0))]
      dsimp only
      cases hw3 : ix w 3 with
      | none =>
        rcases ix_none hw3 (by omega) with h0 | ⟨j, h1, rfl, h2⟩
        · rw [if_pos h0]; exact hw.ok rfl
        · rw [if_neg (nI_pos h1), q_lit 2, gO 2, if_neg (fun z => by have := (q_le (by omega) (by omega)).mp z; omega)]
          exact hw.ok rfl
      | some j =>
        obtain ⟨rfl, lj, -⟩ := ix_some hw3
        rw [if_neg (nI_pos (by omega)), q_lit 2, gO 2, if_pos ((q_le (by omega) (by omega)).mpr (by omega))]
        have hb := s_blend hP (show 6 + 9 * p + 9 ≤ 240 by omega) lh s
        unfold mixS
        unfold blnd at hb
        by_cases z : foes (tP T p) h &&& memS (tP T p) s = 0
        · rw [if_pos z] at hb ⊢
          obtain ⟨N, b1, b2, b3, b4⟩ := hb
          rw [b1, q_bd_some, if_neg (show ¬ nI 1 = 0 by decide), b2, b3, b4, show (0 : Int32) = nI 0 from rfl, show (1 : Int32) = nI 1 from rfl]
          dsimp only
          by_cases w0 : nI j = nI 0
          · rw [if_pos w0, if_pos w0]; exact hw.ok rfl
          · rw [if_neg w0, if_neg w0]
            by_cases w1 : nI j = nI 1
            · rw [if_pos w1, if_pos w1]; exact hw.ok rfl
            · rw [if_neg w1, if_neg w1]; exact hw.ok rfl
        · rw [if_neg z] at hb ⊢
          dsimp only
          by_cases hD : mxD (tP T p) (mixB (tP T p) s) (clr (tP T p) h) < 1000000
          · obtain ⟨N, b1, b2, b3, b4⟩ := hb.1 hD
            rw [b1, q_bd_some, if_neg (show ¬ nI 1 = 0 by decide), b2, b3, b4, show (0 : Int32) = nI 0 from rfl, show (1 : Int32) = nI 1 from rfl, if_pos hD]
            by_cases w0 : nI j = nI 0
            · rw [if_pos w0, if_pos w0]; exact hw.ok rfl
            · rw [if_neg w0, if_neg w0]
              by_cases w1 : nI j = nI 1
              · rw [if_pos w1, if_pos w1]; exact hw.ok rfl
              · rw [if_neg w1, if_neg w1]; exact hw.ok rfl
          · obtain ⟨N, b1⟩ := hb.2 hD
            rw [b1, q_bd_some, if_pos (show nI 0 = 0 from rfl), if_neg hD]
            exact hw.ok rfl
