/-! THE CLASS'S READER: a whole line -/
/-- what reading a line may write -/
abbrev lnW : List (Nat × Nat) := [(223, 3), (223, 4), (223, 7), (223, 8), (223, 9), (223, 10), (223, 13), (223, 14), (223, 15), (224, 1), (224, 2), (225, 0), (226, 0), (227, 0), (233, 1), (233, 2), (233, 3), (234, 0), (235, 0), (236, 0), (238, 0), (239, 0)]
theorem flt_ok {s f q : Nat} {X : Txt} (ok : xOK s X) (hf : f ≤ 3) (hq : q ≤ 600) : xOK s (fltX f q X) := ⟨ok.1, ok.2.1, ok.2.2.1, hf, hq, ok.2.2.2.2.2⟩
theorem eff_ok {s k ws v0 v1 v2 q0 q1 q2 : Nat} {X : Txt} (ok : xOK s X) (hk : k < 17) (hs : kc k / 10 = s) (hw : ws ≤ 600) (h0 : q0 ≤ 600) (h1 : q1 ≤ 600) (h2 : q2 ≤ 600) : xOK s (effX k ws v0 v1 v2 q0 q1 q2 X) := by
  unfold effX
  by_cases z : xF X ≠ 0
  · rw [if_pos z]; exact ok
  rw [if_neg z]
  cases hf : fullX k X with
  | true => rw [if_pos rfl]; exact flt_ok ok (by omega) hw
  | false =>
    rw [if_neg (show ¬ false = true by simp)]
    by_cases hb : badX k v0 v1 v2 = 0
    · rw [if_pos hb]; exact (keep_ok ok hk hs hf hb).1
    · rw [if_neg hb]
      refine flt_ok ok (by omega) ?_
      split
      · exact h0
      · split
        · exact h1
        · exact h2
theorem gef_ok {ws s : Nat} {b : Option Nat} {X : Txt} (ok : xOK 4 X) (hw : ws ≤ 600) (hs : s < 1024) (hb : ∀ q, b = some q → q ≤ 600) (h1 : b = none → 1 ≤ s) : xOK 4 (gefX ws s b X) := by
  unfold gefX
  by_cases z : xF X ≠ 0
  · rw [if_pos z]; exact ok
  rw [if_neg z]
  by_cases y : 8 ≤ oN (xR X)
  · rw [if_pos y]; exact flt_ok ok (by omega) hw
  rw [if_neg y]
  cases b with
  | some q => exact flt_ok ok (by omega) (hb q rfl)
  | none =>
    have s1 := h1 rfl
    obtain ⟨o1, o2, o3, o4, o5, o6⟩ := ok
    obtain ⟨⟨r1, r2, r3⟩, q2⟩ := o2 (by omega)
    have ea : ∀ i, oA (addO (xR X) 0 (s : Int) (-1) s) i = if i = oN (xR X) then (s : Int) else oA (xR X) i := fun _ => rfl
    have eN : oN (addO (xR X) 0 (s : Int) (-1) s) = oN (xR X) + 1 := rfl
    have eS : oS (addO (xR X) 0 (s : Int) (-1) s) = oS (xR X) ||| s := rfl
    have na : ∀ n, n ≤ oN (xR X) → namS (addO (xR X) 0 (s : Int) (-1) s) n = namS (xR X) n := by
      intro n
      induction n with
      | zero => intro _; rfl
      | succ n ih =>
        intro hn
        unfold namS
        rw [ih (by omega), ea, if_neg (by omega)]
    refine ⟨o1, fun _ => ⟨⟨by rw [show xR (xP X, addO (xR X) 0 (s : Int) (-1) s, X.2.2) = addO (xR X) 0 (s : Int) (-1) s from rfl, eN]; omega, ?_, fun i hi => ?_⟩, q2⟩, o3, o4, o5, fun h => by omega⟩
    · show oS (addO (xR X) 0 (s : Int) (-1) s) = namS (addO (xR X) 0 (s : Int) (-1) s) (oN (xR X) + 1)
      show _ = namS (addO (xR X) 0 (s : Int) (-1) s) (oN (xR X)) ||| (oA (addO (xR X) 0 (s : Int) (-1) s) (oN (xR X))).toNat
      rw [eS, na _ (Nat.le_refl _), ea, if_pos rfl, r2]
      rfl
    · show 1 ≤ oA (addO (xR X) 0 (s : Int) (-1) s) i ∧ oA (addO (xR X) 0 (s : Int) (-1) s) i ≤ 1023
      have hi' : i < oN (xR X) + 1 := hi
      rw [ea]
      by_cases e : i = oN (xR X)
      · rw [if_pos e]; omega
      · rw [if_neg e]; exact r3 i (by omega)
theorem tb_17 : kc 17 = 40 ∧ limS 4 = 8 := by decide +kernel
section CLS
variable {B : Nat → Nat} {L : Nat}
theorem oN_40 {s : Nat} {X : Txt} (ok : xOK s X) (hs : s < 5) : oN (xR X) ≤ 40 := by
  rcases Nat.eq_zero_or_pos s with z | z
  · rw [ok.2.2.2.2.2 z]; omega
  · obtain ⟨q1, -⟩ := ok.2.1 z
    have ss : s = 1 ∨ s = 2 ∨ s = 3 ∨ s = 4 := by omega
    rcases ss with rfl | rfl | rfl | rfl
    · have : oN (xR X) ≤ 9 := q1.1; omega
    · exact q1.1
    · have : oN (xR X) ≤ 12 := q1.1; omega
    · have : oN (xR X) ≤ 8 := q1.1; omega
theorem s_takeG {M : PM} {X : Txt} {ws s : Nat} {b : Option Nat} (hm : hr_MS M) (hX : cX M X) (ok : xOK 4 X) (h0 : xF X = 0) (hg : gdI M s b) : ∃ M', f_X5_take 324 (nI ws) M = some ((), M') ∧ cX M' (gefX ws s b X) ∧ hr_fr tkW M M' := by
  obtain ⟨c40, l8⟩ := tb_17
  obtain ⟨⟨a1, -, -⟩, -, ⟨t1, -, -⟩, -, -, -⟩ := tbl_ok 17 (by omega)
  have m0 : M.1 324 0 = nI 40 := (ms_at hm (by omega) 0).trans (a1.trans (by rw [c40]))
  have hfull : fullX 17 X = decide (8 ≤ oN (xR X)) := by
    unfold fullX
    rw [c40, if_neg (by omega), if_neg (by omega), if_neg (by omega), show 40 / 10 = 4 from rfl, l8]
  have e1 := s_isFull (k := 17) hm hX ok.1 (oN_40 ok (by omega)) (by omega)
  rw [show 307 + 17 = 324 from rfl, hfull] at e1
  unfold f_X5_take gefX
  rw [if_pos (show hr_K 324 = 19 from t1), e1, q_bd_some, if_neg (show ¬ xF X ≠ 0 from fun y => y h0)]
  by_cases y : 8 ≤ oN (xR X)
  · obtain ⟨M', g1, g2, g3⟩ := s_note (f := 3) (q := ws) hX h0 (by omega) (by omega)
    rw [decide_eq_true y, if_neg (show ¬ bI true = 0 by decide), show (3 : Int32) = nI 3 from rfl, g1, q_bd_some, if_pos y]
    exact ⟨M', rfl, g2, g3⟩
  rw [decide_eq_false y, if_pos (show bI false = 0 from rfl), if_neg y]
  have e2 : f_X5_badPlace 324 M = some (M.1 223 13, M) := by
    unfold f_X5_badPlace
    rw [if_pos (show hr_K 324 = 19 from t1), m0, if_pos (show nI 40 = 40 from rfl)]
  rw [e2, q_bd_some, hg.2.1, show (-1 : Int32) = zI (-1) by decide]
  cases b with
  | some q =>
    have hq := hg.2.2.2 q rfl
    obtain ⟨M', g1, g2, g3⟩ := s_note (f := 2) (q := q) hX h0 (by omega) (by omega)
    rw [if_neg (show ¬ gdB (some q) = zI (-1) from fun y => by
      have y' : nI q = zI (-1) := y
      rw [q_nz] at y'
      have := (q_zeq (by omega) (by omega)).mp y'
      omega), show (2 : Int32) = nI 2 from rfl, show gdB (some q) = nI q from rfl, g1, q_bd_some]
    exact ⟨M', rfl, g2, g3⟩
  | none =>
    have e3 := s_sort (k := 17) hm (by omega)
    rw [show 307 + 17 = 324 from rfl, c40, show 40 / 10 = 4 from rfl] at e3
    obtain ⟨c1, c2, c3, c4, c5⟩ := hX
    rw [if_pos (show gdB none = zI (-1) from rfl), e3, q_bd_some, if_neg (show ¬ nI 4 = 0 by decide)]
    unfold f_X5_keepInRoll
    rw [if_pos (show hr_K 324 = 19 from t1), m0, if_neg (by decide), if_neg (by decide), if_neg (by decide), if_neg (by decide), if_pos (show nI 40 = 40 from rfl)]
    obtain ⟨g1, g2⟩ := s_name c2 s
    have hf2 : hr_fr tkW M (hr_si M 233 2 (nI (oS (xR X) ||| s))) := hr_fr.si rfl (hr_fr.rf _ _)
    have e4 := s_code (k := 17) (hm.fr hf2 rfl) (by omega)
    rw [show 307 + 17 = 324 from rfl, c40, show 40 % 10 = 0 from rfl] at e4
    rw [hg.1, g1, q_bd_some, e4, q_bd_some, si_ne _ _ _ (show 223 ≠ 233 by omega), hg.1]
    obtain ⟨M', a1, a2, a3⟩ := s_addO g2 (show oN (nmO (xR X) s) < 40 by show oN (xR X) < 40; omega) 0 (s : Int) (-1)
    rw [q_nz 0, q_nz s, show ((0 : Nat) : Int) = 0 from rfl, show (-1 : Int32) = zI (-1) by decide, a1, q_bd_some, q_bd_some]
    refine ⟨M', rfl, ⟨pB4 c1 ?_ ?_ ?_ ?_, a2, ?_, ?_, ?_⟩, hf2.tr (hr_fr.mono rfl a3)⟩
    · exact (a3.row 224 (fun _ => rfl)).trans (si_ne _ _ _ (by omega))
    · exact (a3.row 225 (fun _ => rfl)).trans (si_ne _ _ _ (by omega))
    · exact (a3.row 226 (fun _ => rfl)).trans (si_ne _ _ _ (by omega))
    · exact (a3.row 227 (fun _ => rfl)).trans (si_ne _ _ _ (by omega))
    · rw [a3.row 223 (fun _ => rfl), si_ne _ _ _ (by omega)]; exact c3
    · rw [a3.row 223 (fun _ => rfl), si_ne _ _ _ (by omega)]; exact c4
    · rw [a3.row 223 (fun _ => rfl), si_ne _ _ _ (by omega)]; exact c5
theorem cX_of {M M' : PM} {X : Txt} {W : List (Nat × Nat)} (h : cX M X) (hf : hr_fr W M M') (h1 : ∀ a, 224 ≤ a → a ≤ 236 → ∀ k, hr_in W a k = false) (h2 : hr_in W 223 2 = false) (h3 : hr_in W 223 3 = false) (h14 : hr_in W 223 14 = false) : cX M' X := by
  obtain ⟨c1, c2, c3, c4, c5⟩ := h
  refine ⟨pB4 c1 ?_ ?_ ?_ ?_, rR4 c2 ?_ ?_ ?_ ?_, (hf.at 223 2 h2).trans c3, (hf.at 223 3 h3).trans c4, (hf.at 223 14 h14).trans c5⟩
  all_goals exact hf.row _ (h1 _ (by omega) (by omega))
theorem rows_in {W : List (Nat × Nat)} (h : (W.all (fun q => Nat.blt q.1 224 || Nat.blt 236 q.1)) = true) : ∀ a, 224 ≤ a → a ≤ 236 → ∀ k, hr_in W a k = false := by
  induction W with
  | nil => intro a _ _ k; rfl
  | cons q W ih =>
    intro a h1 h2 k
    rw [List.all_cons, Bool.and_eq_true, Bool.or_eq_true] at h
    unfold hr_in
    have hq : q.1 ≠ a := by
      rcases h.1 with e | e
      · have := Nat.le_of_ble_eq_true e; omega
      · have := Nat.le_of_ble_eq_true e; omega
    rw [beqF hq, ih h.2 a h1 h2 k]
    rfl
/-- behind what a line tells: a semicolon, and it's taken -/
theorem s_line57 {M0 N : PM} {X Y : Txt} {k ws s p : Nat} (hr : rdT M0 B L) (hL : L ≤ 600) (hB : ∀ i, B i < 256) (hf : hr_fr lnW M0 N) (hX : cX N X) (hp : p ≤ L) (ht : cTk N B L p) (a1 : Int32) (hY : xF X ≠ 0 → Y = X) (tk : ∀ N', hr_fr advW N N' → cX N' X → xF X = 0 → ∃ M', f_X5_take (307 + k) (nI ws) N' = some ((), M') ∧ cX M' Y ∧ hr_fr tkW N' M') (hxF : xF X ≤ 3) : ∃ M', f_X5_readLine_57 a1 (307 + k) (nI ws) 1 N = some (bI (decide (kT B L p = 3)), M') ∧ hr_fr lnW M0 M' ∧ (kT B L p ≠ 3 → cTk M' B L p) ∧ (kT B L p = 3 → cTk M' B L (nT B L p) ∧ cX M' Y) := by
  have kp : kT B L p ≤ 4 := by unfold kT; split <;> (try split) <;> (try split) <;> (try split) <;> omega
  unfold f_X5_readLine_57
  rw [if_neg (by decide), ht.2.1]
  by_cases z : kT B L p = 3
  · obtain ⟨M1, g1, g2, g3⟩ := s_advance (M0 := N) (hr.fr hf rfl (fun _ => rfl)) hL hB (p := nT B L p) ((tok_ok (B := B) hL hp).2.2.2.1) ht.1
    have hX1 : cX M1 X := cX_of hX g2 (rows_in rfl) rfl rfl rfl
    have hf1 : hr_fr lnW M0 M1 := hf.tr (hr_fr.mono rfl g2)
    rw [if_pos (show nI (kT B L p) = 3 by rw [z]; rfl), g1, q_bd_some, hX1.2.2.1, decide_eq_true z]
    by_cases y : xF X = 0
    · obtain ⟨M', h1, h2, h3⟩ := tk M1 g2 hX1 y
      rw [if_pos (show nI (xF X) = 0 by rw [y]; rfl), h1, q_bd_some]
      refine ⟨M', rfl, hf1.tr (hr_fr.mono rfl h3), fun w => absurd z w, fun _ => ⟨?_, h2⟩⟩
      unfold cTk
      rw [h3.at 223 6 rfl, h3.at 223 7 rfl, h3.at 223 8 rfl, h3.at 223 9 rfl]
      exact g3
    · rw [if_neg (show ¬ nI (xF X) = 0 from fun w => y ((q_eq (b := 0) (by omega) (by omega)).mp w))]
      exact ⟨M1, rfl, hf1, fun w => absurd z w, fun _ => ⟨g3, by rw [hY y]; exact hX1⟩⟩
  · rw [if_neg (show ¬ nI (kT B L p) = 3 from fun w => z ((q_eq (b := 3) (by omega) (by omega)).mp w)), decide_eq_false z]
    exact ⟨N, rfl, hf, fun _ => ht, fun w => absurd w z⟩
theorem gdS_ok (hL : L ≤ 600) : ∀ f p s b, p ≤ L → s < 1024 → (∀ q, b = some q → q ≤ 600) → p ≤ (gdS B L f p s b).1 ∧ (gdS B L f p s b).1 ≤ L ∧ (gdS B L f p s b).2.1 < 1024 ∧ (∀ q, (gdS B L f p s b).2.2 = some q → q ≤ 600) ∧ ((b = none → 1 ≤ s) → (gdS B L f p s b).2.2 = none → 1 ≤ (gdS B L f p s b).2.1) := by
  intro f
  induction f with
  | zero => intro p s b hp hs hb; exact ⟨Nat.le_refl _, hp, hs, hb, fun h h2 => h h2⟩
  | succ f ih =>
    intro p s b hp hs hb
    obtain ⟨p1, p2, p3, p4, p5, p6⟩ := tok_ok (B := B) hL hp
    by_cases z : kT B L p = 2
    · rw [gdS_s z]
      obtain ⟨i1, i2, i3, i4, i5⟩ := ih (nT B L p) (if vT B L p < 10 then s ||| 2 ^ vT B L p else s) (gdN b (if vT B L p < 10 ∧ s.testBit (vT B L p) = false then none else some (sT B L p))) p4 (by
        split
        · exact or_lt hs (pow_lt (by assumption))
        · exact hs) (fun q hq => by
        cases b with
        | some q' => cases hq; exact hb _ rfl
        | none =>
          have hq' : (if vT B L p < 10 ∧ s.testBit (vT B L p) = false then none else some (sT B L p)) = some q := hq
          split at hq'
          · cases hq'
          · cases hq'; omega)
      refine ⟨by omega, i2, i3, i4, fun _ => i5 (fun h => ?_)⟩
      have h2 := (gdN_none h).2
      split at h2
      · rename_i h3
        rw [if_pos h3.1]
        exact Nat.le_trans (Nat.one_le_two_pow (n := vT B L p)) (Nat.right_le_or)
      · cases h2
    · rw [gdS_e z]
      exact ⟨Nat.le_refl _, hp, hs, hb, fun h h2 => h h2⟩
theorem gdS_1 (hL : L ≤ 600) {p : Nat} (hp : p ≤ L) (z : kT B L p = 2) : (gdS B L 601 p 0 none).2.2 = none → 1 ≤ (gdS B L 601 p 0 none).2.1 := by
  obtain ⟨p1, p2, p3, p4, p5, p6⟩ := tok_ok (B := B) hL hp
  rw [gdS_s z]
  refine (gdS_ok hL 600 (nT B L p) _ _ p4 ?_ ?_).2.2.2.2 (fun h => ?_)
  · split
    · exact or_lt (by omega) (pow_lt (by assumption))
    · omega
  · intro q hq
    have hq' : (if vT B L p < 10 ∧ (0 : Nat).testBit (vT B L p) = false then none else some (sT B L p)) = some q := hq
    split at hq'
    · cases hq'
    · cases hq'; omega
  · have h2 := (gdN_none h).2
    split at h2
    · rename_i h3
      rw [if_pos h3.1]
      exact Nat.le_trans (Nat.one_le_two_pow (n := vT B L p)) (Nat.right_le_or)
    · cases h2
theorem nmS_le (hL : L ≤ 600) : ∀ m p, p ≤ L → p ≤ (nmS B L m p).2 ∧ (nmS B L m p).2 ≤ L
  | 0, p, h => ⟨Nat.le_refl _, h⟩
  | m + 1, p, h => by
    obtain ⟨p1, p2, p3, p4, p5, p6⟩ := tok_ok (B := B) hL h
    have e : nmS B L (m + 1) p = if kT B L p = 2 then nmS B L m (nT B L p) else (false, p) := rfl
    rw [e]
    by_cases z : kT B L p = 2
    · rw [if_pos z]
      obtain ⟨i1, i2⟩ := nmS_le hL m (nT B L p) p4
      exact ⟨by omega, i2⟩
    · rw [if_neg z]; exact ⟨Nat.le_refl _, h⟩
theorem lkS_1 {s p k : Nat} (h : lkS B L s p = some k) : kT B L p = 1 := by
  have := (lkS_iff.mp h).2.2
  unfold isW at this
  rw [Bool.and_eq_true] at this
  exact of_decide_eq_true this.1
theorem lineS_ok {s p : Nat} (hL : L ≤ 600) (hp : p ≤ L) (hs : s < 5) {X : Txt} (ok : xOK s X) : (lineS B L s p X).2.1 ≤ L ∧ xOK s (lineS B L s p X).2.2 ∧ ((lineS B L s p X).1 = true → p + 2 ≤ (lineS B L s p X).2.1) := by
  obtain ⟨p1, p2, p3, p4, p5, p6⟩ := tok_ok (B := B) hL hp
  unfold lineS
  cases hk : lkS B L s p with
  | none => exact ⟨hp, ok, fun h => by cases h⟩
  | some k =>
    have k1 := lkS_1 hk
    have p5 := p5 (by omega)
    obtain ⟨k2, k3, k4⟩ := lkS_iff.mp hk
    dsimp only
    by_cases z : k = 17
    · subst z
      rw [if_pos rfl]
      have s4 : s = 4 := by rw [← k3, tb_17.1]
      subst s4
      by_cases y : kT B L (nT B L p) = 2
      · obtain ⟨g1, g2, g3, g4, -⟩ := gdS_ok (B := B) hL 601 (nT B L p) 0 none p4 (by omega) (fun q hq => by cases hq)
        have g5 := gdS_1 hL p4 y
        rw [if_neg (show ¬ kT B L (nT B L p) ≠ 2 from fun w => w y)]
        obtain ⟨r1, r2, r3, r4, r5, r6⟩ := tok_ok (B := B) hL g2
        by_cases w : kT B L (gdS B L 601 (nT B L p) 0 none).1 = 3
        · rw [if_neg (show ¬ kT B L (gdS B L 601 (nT B L p) 0 none).1 ≠ 3 from fun v => v w)]
          have r5 := r5 (by omega)
          exact ⟨r4, gef_ok ok (by omega) g3 g4 g5, fun _ => by show p + 2 ≤ nT B L (gdS B L 601 (nT B L p) 0 none).1; omega⟩
        · rw [if_pos w]; exact ⟨g2, ok, fun h => by cases h⟩
      · rw [if_pos y]; exact ⟨p4, ok, fun h => by cases h⟩
    · rw [if_neg z]
      obtain ⟨n1, n2⟩ := nmS_le (B := B) hL (kn k) (nT B L p) p4
      obtain ⟨r1, r2, r3, r4, r5, r6⟩ := tok_ok (B := B) hL n2
      cases hn : (nmS B L (kn k) (nT B L p)).1 with
      | false => rw [if_pos rfl]; exact ⟨n2, ok, fun h => by cases h⟩
      | true =>
        rw [if_neg (show ¬ true = false by simp)]
        by_cases w : kT B L (nmS B L (kn k) (nT B L p)).2 = 3
        · rw [if_neg (show ¬ kT B L (nmS B L (kn k) (nT B L p)).2 ≠ 3 from fun v => v w)]
          have r5 := r5 (by omega)
          have q : ∀ i, sT B L (ps B L (nT B L p) i) ≤ 600 := fun i => by
            have := (tok_ok (B := B) hL (ps_le (B := B) hL p4 i)).2.1
            omega
          exact ⟨r4, eff_ok ok (by omega) k3 (by omega) (q 0) (q 1) (q 2), fun _ => by show p + 2 ≤ nT B L (nmS B L (kn k) (nT B L p)).2; omega⟩
        · rw [if_pos w]; exact ⟨n2, ok, fun h => by cases h⟩
theorem s_readLine {M0 : PM} {X : Txt} {s p : Nat} (hm : hr_MS M0) (hr : rdT M0 B L) (hL : L ≤ 600) (hB : ∀ i, B i < 256) (hX : cX M0 X) (ok : xOK s X) (hs : s < 5) (hp : p ≤ L) (ht : cTk M0 B L p) : ∃ M', f_X5_readLine (nI s) M0 = some (bI (lineS B L s p X).1, M') ∧ hr_fr lnW M0 M' ∧ cTk M' B L (lineS B L s p X).2.1 ∧ ((lineS B L s p X).1 = true → cX M' (lineS B L s p X).2.2) := by
  obtain ⟨p1, p2, p3, p4, p5, p6⟩ := tok_ok (B := B) hL hp
  have kp : kT B L p ≤ 4 := by unfold kT; split <;> (try split) <;> (try split) <;> (try split) <;> omega
  unfold f_X5_readLine lineS
  rw [ht.2.1]
  by_cases z1 : kT B L p = 1
  case neg =>
    have hk : lkS B L s p = none := by
      cases hk : lkS B L s p with
      | none => rfl
      | some k => exact absurd (lkS_1 hk) z1
    rw [if_neg (show ¬ nI (kT B L p) = 1 from fun w => z1 ((q_eq (b := 1) (by omega) (by omega)).mp w)), hk]
    exact ⟨M0, rfl, hr_fr.rf _ _, ht, fun h => by cases h⟩
  rw [if_pos (show nI (kT B L p) = 1 by rw [z1]; rfl), s_lineNamed hm hr hL hB hp ht z1 hs, q_bd_some]
  cases hk : lkS B L s p with
  | none => exact ⟨M0, rfl, hr_fr.rf _ _, ht, fun h => by cases h⟩
  | some k =>
    obtain ⟨k2, k3, k4⟩ := lkS_iff.mp hk
    obtain ⟨⟨a1, a2, -⟩, -, ⟨t1, -, -⟩, ⟨b1, b2, b3⟩, -, -⟩ := tbl_ok k k2
    obtain ⟨M1, g1, g2, g3⟩ := s_advance (M0 := M0) hr hL hB (p := nT B L p) p4 ht.1
    have hm1 : hr_MS M1 := hm.fr g2 rfl
    have hX1 : cX M1 X := cX_of hX g2 (rows_in rfl) rfl rfl rfl
    have hf1 : hr_fr lnW M0 M1 := hr_fr.mono rfl g2
    have hr1 : rdT M1 B L := hr.fr g2 rfl (fun _ => rfl)
    have m0 : M1.1 (307 + k) 0 = nI (kc k) := (ms_at hm1 (by omega) 0).trans a1
    have m2 : M1.1 (307 + k) 2 = nI (kn k) := (ms_at hm1 (by omega) 2).trans a2
    dsimp only
    rw [if_pos t1, g1, q_bd_some, m0, m2, ht.2.2.1]
    by_cases z : k = 17
    · subst z
      have s4 : s = 4 := by rw [← k3, tb_17.1]
      subst s4
      obtain ⟨M2, h1, h2, h3, h4⟩ := s_guest (M0 := M1) hr1 hL hB p4 g3
      rw [if_pos (show nI (kc 17) = 40 by rw [tb_17.1]; rfl), h1, q_bd_some, if_pos rfl]
      by_cases y : kT B L (nT B L p) = 2
      · obtain ⟨c1, c2, c3, c4⟩ := h4 y
        rw [decide_eq_true y, if_neg (show ¬ kT B L (nT B L p) ≠ 2 from fun w => w y)]
        have hX2 : cX M2 X := cX_of hX1 h2 (rows_in rfl) rfl rfl rfl
        have hf2 : hr_fr lnW M0 M2 := hf1.tr (hr_fr.mono rfl h2)
        obtain ⟨M', d1, d2, d3, d4⟩ := s_line57 (k := 17) (ws := sT B L p) (Y := gefX (sT B L p) (gdS B L 601 (nT B L p) 0 none).2.1 (gdS B L 601 (nT B L p) 0 none).2.2 X) (s := 4) hr hL hB hf2 hX2 c2 c1 (nI 4) (fun w => by unfold gefX; rw [if_pos w]) (fun N' n1 n2 n3 => by
          have hmN : hr_MS N' := (hm1.fr h2 rfl).fr n1 rfl
          exact s_takeG hmN n2 ok n3 ⟨(n1.at 223 12 rfl).trans c3.1, (n1.at 223 13 rfl).trans c3.2.1, c3.2.2⟩) ok.2.2.2.1
        rw [show 307 + 17 = 324 from rfl] at d1
        rw [show bI true = 1 from rfl, d1]
        by_cases w : kT B L (gdS B L 601 (nT B L p) 0 none).1 = 3
        · rw [decide_eq_true w, if_neg (show ¬ kT B L (gdS B L 601 (nT B L p) 0 none).1 ≠ 3 from fun v => v w)]
          exact ⟨M', rfl, d2, (d4 w).1, fun _ => (d4 w).2⟩
        · rw [decide_eq_false w, if_pos w]
          exact ⟨M', rfl, d2, d3 w, fun h => by cases h⟩
      · rw [decide_eq_false y, if_pos y]
        refine ⟨M2, ?_, hf1.tr (hr_fr.mono rfl h2), h3 y, fun h => by cases h⟩
        unfold f_X5_readLine_57
        rw [if_pos (show bI false = 0 from rfl)]
        rfl
    · have n40 : kc k ≠ 40 := fun h => by rcases tb_all k k2 with h2 | h2 | h2 | h2 | h2 | h2 | h2 <;> omega
      obtain ⟨M2, h1, h2, h3, h4⟩ := s_readNumbers (M0 := M1) (m := kn k) hr1 hL hB p4 g3 b2
      obtain ⟨n1, n2⟩ := nmS_le (B := B) hL (kn k) (nT B L p) p4
      rw [if_neg (show ¬ nI (kc k) = 40 from fun w => n40 ((q_eq (b := 40) (by omega) (by omega)).mp w)), h1, q_bd_some, if_neg z]
      have hX2 : cX M2 X := cX_of hX1 h2 (rows_in rfl) rfl rfl rfl
      have hf2 : hr_fr lnW M0 M2 := hf1.tr (hr_fr.mono rfl h2)
      cases hn : (nmS B L (kn k) (nT B L p)).1 with
      | false =>
        rw [if_pos rfl]
        refine ⟨M2, ?_, hf2, h3, fun h => by cases h⟩
        unfold f_X5_readLine_57
        rw [if_pos (show bI false = 0 from rfl)]
        rfl
      | true =>
        rw [if_neg (show ¬ true = false by simp)]
        have e2 := (nmS_ps (B := B) (L := L) (kn k) (nT B L p) hn).2
        have h4' := h4 hn
        obtain ⟨M', d1, d2, d3, d4⟩ := s_line57 (k := k) (ws := sT B L p) (Y := effX k (sT B L p) (vT B L (ps B L (nT B L p) 0)) (vT B L (ps B L (nT B L p) 1)) (vT B L (ps B L (nT B L p) 2)) (sT B L (ps B L (nT B L p) 0)) (sT B L (ps B L (nT B L p) 1)) (sT B L (ps B L (nT B L p) 2)) X) (s := s) hr hL hB hf2 hX2 n2 h3 (nI s) (fun w => by unfold effX; rw [if_pos w]) (fun N' q1 q2 q3 => by
          have hmN : hr_MS N' := (hm1.fr h2 rfl).fr q1 rfl
          refine s_take (B := B) (L := L) (p := nT B L p) hmN q2 ok q3 (by omega) k3 (fun i hi => ?_) (fun i hi => vT_le hL (ps_le hL p4 i) (e2 i hi)) (fun i hi => by
            have := (tok_ok (B := B) hL (ps_le (B := B) hL p4 i)).2.1
            omega)
          obtain ⟨o1, o2⟩ := h4' i hi
          exact ⟨(q1.at 238 i rfl).trans o1, fun hi2 => (q1.at 239 i rfl).trans (o2 hi2)⟩) ok.2.2.2.1
        rw [show bI true = 1 from rfl, d1]
        by_cases w : kT B L (nmS B L (kn k) (nT B L p)).2 = 3
        · rw [decide_eq_true w, if_neg (show ¬ kT B L (nmS B L (kn k) (nT B L p)).2 ≠ 3 from fun v => v w)]
          exact ⟨M', rfl, d2, (d4 w).1, fun _ => (d4 w).2⟩
        · rw [decide_eq_false w, if_pos w]
          exact ⟨M', rfl, d2, d3 w, fun h => by cases h⟩
end CLS
