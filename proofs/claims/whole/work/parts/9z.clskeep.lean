/-! TEXT, by the class: the slot, what is kept, what is forgotten -/
theorem cov0 : ∀ {W : List (Nat × Nat)} {a : Nat}, hr_cov W a 0 = true → ∀ k, hr_in W a k = true
  | [], _, h, _ => by cases h
  | (b, s) :: W, a, h, k => by
    unfold hr_cov at h
    unfold hr_in
    rw [Bool.or_eq_true] at h
    rcases h with h | h
    · rw [Bool.and_eq_true, Bool.or_eq_true] at h
      have e0 : Nat.beq s 0 = true := by rcases h.2 with e | e <;> exact e
      rw [h.1, e0]
      rfl
    · rw [cov0 h k, Bool.or_true]
theorem rng.fr {lo hi : Nat} {M M' : PM} {W : List (Nat × Nat)} (h : rng lo hi M M') (hw : ∀ a, lo ≤ a → a ≤ hi → hr_cov W a 0 = true) : hr_fr W M M' := by
  refine ⟨fun a k hk => ⟨?_, by rw [h.2]⟩, by rw [h.2]⟩
  by_cases z : lo ≤ a ∧ a ≤ hi
  · rw [cov0 (hw a z.1 z.2) k] at hk; cases hk
  · rw [h.1 a (by omega)]
/-- where a text would go -/
def slotS (T : Tol) (a1 a2 : Int32) : Option Nat := match ix a1 5 with
  | none => none
  | some s => if a2 = -1 then (if 2 ≤ tz T s then none else some (tz T s)) else ix a2 (tz T s)
def slN (o : Option Nat) : Int32 := match o with
  | none => zI (-2)
  | some k => nI k
/-- told, but for the tape's length, the fault and its place -/
def hdT (T : Tol) (n f : Nat) (q : Int) : Tol := (T.1, n, f, q, T.2.2.2.2)
/-- told, with a text kept -/
def kpT (T : Tol) (s k : Nat) (X : Txt) : Tol := (T.1, T.2.1, T.2.2.1, T.2.2.2.1, fun s' => if s' = s ∧ k = tz T s then k + 1 else tz T s', fun k' => if s = 0 ∧ k' = k then xP X else tP T k', fun s' k' => if s' = s ∧ k' = k then xR X else tR T s' k')
theorem slotS_ok {T : Tol} {a1 a2 : Int32} {k : Nat} (ok : tOK T) (h : slotS T a1 a2 = some k) : ∃ s, s < 5 ∧ a1 = nI s ∧ k < 2 ∧ k ≤ tz T s := by
  unfold slotS at h
  cases hs : ix a1 5 with
  | none => rw [hs] at h; cases h
  | some s =>
    rw [hs] at h
    obtain ⟨e1, e2, e3⟩ := ix_some hs
    have z2 := ok.2.2.1 s e2
    refine ⟨s, e2, e1, ?_⟩
    dsimp only at h
    split at h
    · split at h
      · cases h
      · cases h; omega
    · obtain ⟨f1, f2, f3⟩ := ix_some h
      omega
theorem kpT_ok {T : Tol} {s k : Nat} {X : Txt} (ok : tOK T) (hs : s < 5) (hk : k < 2) (hX : xOK s X) : tOK (kpT T s k X) := by
  obtain ⟨o1, o2, o3, o4, o5⟩ := ok
  have ez : ∀ s', tz (kpT T s k X) s' = if s' = s ∧ k = tz T s then k + 1 else tz T s' := fun _ => rfl
  have eP : ∀ k', tP (kpT T s k X) k' = if s = 0 ∧ k' = k then xP X else tP T k' := fun _ => rfl
  have eR : ∀ s' k', tR (kpT T s k X) s' k' = if s' = s ∧ k' = k then xR X else tR T s' k' := fun _ _ => rfl
  refine ⟨o1, o2, fun s' hs' => ?_, fun k' hk' => ?_, fun s' k' h1 h5 hk' => ?_⟩
  · rw [ez]
    have := o3 s' hs'
    split <;> omega
  · rw [eP]
    split
    · exact hX.1
    · exact o4 k' hk'
  · rw [eR]
    rw [ez] at hk'
    by_cases z : s' = s ∧ k' = k
    · rw [if_pos z, z.1]
      exact (hX.2.1 (by omega)).1
    · rw [if_neg z]
      by_cases y : s' = s ∧ k = tz T s
      · rw [if_pos y] at hk'
        exact o5 s' k' h1 h5 (by rw [y.1]; omega)
      · rw [if_neg y] at hk'
        exact o5 s' k' h1 h5 hk'
theorem hdT_ok {T : Tol} {n f : Nat} {q : Int} (ok : tOK T) (hn : n ≤ 600) (hf : f ≤ 4) (h1 : -1 ≤ q) (h2 : q ≤ 600) : tOK (hdT T n f q) := ⟨⟨hn, hf, h1, h2⟩, ok.2⟩
/-- what is read of the tape -/
def bySt (T : Tol) (i : Nat) : Nat := btN (tT T i)
def sp_text (T : Tol) (a1 a2 : Int32) : Int32 × Tol := match slotS T a1 a2 with
  | none => (zI (-2), hdT T 0 0 (-1))
  | some k => if rdF (bySt T) (tN T) a1.toNatClampNeg = 0 then (nI k, kpT (hdT T 0 (rdF (bySt T) (tN T) a1.toNatClampNeg) (rdQ (bySt T) (tN T) a1.toNatClampNeg)) a1.toNatClampNeg k (readS (bySt T) (tN T) a1.toNatClampNeg).2.2) else (zI (-1), hdT T 0 (rdF (bySt T) (tN T) a1.toNatClampNeg) (rdQ (bySt T) (tN T) a1.toNatClampNeg))
theorem linesS_ok {B : Nat → Nat} {L s : Nat} (hL : L ≤ 600) (hs : s < 5) : ∀ f p X, p ≤ L → xOK s X → (linesS B L s f p X).2.1 ≤ L ∧ xOK s (linesS B L s f p X).2.2 := by
  intro f
  induction f with
  | zero => intro p X hp hX; exact ⟨hp, hX⟩
  | succ f ih =>
    intro p X hp hX
    have e4 : linesS B L s (f + 1) p X = if kT B L p = 0 then (true, p, X) else if (lineS B L s p X).1 = true then linesS B L s f (lineS B L s p X).2.1 (lineS B L s p X).2.2 else (false, (lineS B L s p X).2.1, X) := rfl
    obtain ⟨l1, l2, l3⟩ := lineS_ok (B := B) hL hp hs hX
    rw [e4]
    by_cases z : kT B L p = 0
    · rw [if_pos z]; exact ⟨hp, hX⟩
    · rw [if_neg z]
      by_cases y : (lineS B L s p X).1 = true
      · rw [if_pos y]; exact ih _ _ l1 l2
      · rw [if_neg y]; exact ⟨l1, hX⟩
theorem readS_ok {B : Nat → Nat} {L s : Nat} (hL : L ≤ 600) (hs : s < 5) : (readS B L s).2.1 ≤ L ∧ xOK s (readS B L s).2.2 := linesS_ok hL hs 601 0 txt0 (Nat.zero_le _) (txt0_ok hs)
theorem rd_ok {B : Nat → Nat} {L s : Nat} (hL : L ≤ 600) (hs : s < 5) : rdF B L s ≤ 4 ∧ -1 ≤ rdQ B L s ∧ rdQ B L s ≤ 600 := by
  obtain ⟨h1, h2⟩ := readS_ok (B := B) hL hs
  have h3 := h2.2.2.2.1
  have h4 := h2.2.2.2.2.1
  have h5 := (tok_ok (B := B) hL h1).2.1
  unfold rdF rdQ
  split
  · omega
  · split
    · omega
    · split <;> omega
/-- what is forgotten with a new text -/
def forg (M : PM) : Prop := M.1 240 8 = zI (-1) ∧ M.1 240 13 = zI (-1) ∧ ∀ i, i < 4 → M.1 265 i = zI (-1)
/-- what text may write -/
abbrev txW : List (Nat × Nat) := (List.range 56).map (fun i => (i, 0)) ++ [(223, 0), (224, 0), (225, 0), (226, 0), (227, 0), (233, 0), (234, 0), (235, 0), (236, 0), (238, 0), (239, 0), (240, 9), (240, 14), (265, 1), (265, 2), (265, 3), (265, 4)]
theorem txW_55 : ∀ a, a < 56 → hr_cov txW a 0 = true := by decide +kernel
abbrev fgW : List (Nat × Nat) := [(240, 9), (240, 14), (265, 1), (265, 2), (265, 3), (265, 4)]
section CTX
variable {M : PM} {T : Tol}
theorem s_forget (M : PM) : ∃ M', f_X10_forgetAnswers M = some ((), M') ∧ forg M' ∧ hr_fr fgW M M' := by
  unfold f_X10_forgetAnswers f_X1_forget f_X2_forget
  rw [q_bd_some]
  have e : ∃ M', f_X2_forget_2 FU 0 (hr_si (hr_si M 240 8 (-1)) 240 13 (-1)) = some ((), M') ∧ forg M' ∧ hr_fr fgW M M' := by
    refine hr_for (σ := PM) (fun f i N => f_X2_forget_2 f (nI i) N) 4 (fun i N => hr_fr fgW M N ∧ N.1 240 8 = zI (-1) ∧ N.1 240 13 = zI (-1) ∧ ∀ j, j < i → N.1 265 j = zI (-1)) (fun r => ∃ M', r = some ((), M') ∧ forg M' ∧ hr_fr fgW M M') ?_ ?_ FU 0 _ (Nat.zero_le _) (FU_ok (by omega)) ⟨hr_fr.si rfl (hr_fr.si rfl (hr_fr.rf _ _)), by rw [si_same, if_neg (by omega), si_same, if_pos rfl]; decide, by rw [si_same, if_pos rfl]; decide, fun j hj => by omega⟩
    · rintro f i N hi ⟨i1, i2, i3, i4⟩
      right
      show ∃ s', f_X2_forget_2 (f + 1) (nI i) N = f_X2_forget_2 f (nI (i + 1)) s' ∧ _
      rw [f_X2_forget_2.eq_2, q_lit 4, gO 4, if_neg (fun y => by have := (q_le (by omega) (by omega)).mp y; omega), if_pos (q_in (by omega) (by omega)), q_cl (by omega), q_lit 1, gO 1, q_add]
      have hin : hr_in fgW 265 i = true := by
        have : i = 0 ∨ i = 1 ∨ i = 2 ∨ i = 3 := by omega
        rcases this with rfl | rfl | rfl | rfl <;> rfl
      refine ⟨_, rfl, hr_fr.si hin i1, by rw [si_ne _ _ _ (by omega)]; exact i2, by rw [si_ne _ _ _ (by omega)]; exact i3, fun j hj => ?_⟩
      show (hr_si N 265 i (-(nI 1))).1 265 j = _
      rw [si_same]
      by_cases z : j = i
      · rw [if_pos z]; decide
      · rw [if_neg z]; exact i4 j (by omega)
    · rintro f N ⟨i1, i2, i3, i4⟩
      show ∃ M', f_X2_forget_2 (f + 1) (nI 4) N = _ ∧ _
      rw [f_X2_forget_2.eq_2, q_lit 4, gO 4, if_pos (Int32.le_refl _)]
      exact ⟨N, rfl, ⟨i2, i3, i4⟩, i1⟩
  obtain ⟨M', e1, e2, e3⟩ := e
  rw [e1, q_bd_some]
  exact ⟨M', rfl, e2, e3⟩
theorem s_slotFor (hT : rT M 1 T) (ok : tOK T) (a1 a2 : Int32) : f_X8_slotFor a1 a2 M = some (slN (slotS T a1 a2), M) := by
  have e1 : (-1 : Int32) = zI (-1) := by decide
  have e2 : (-2 : Int32) = zI (-2) := by decide
  unfold f_X8_slotFor slotS
  cases hs : ix a1 5 with
  | none =>
    rcases ix_none hs (by omega) with h | ⟨j, h1, h2, h3⟩
    · rw [if_pos h, e2]; rfl
    · subst h2
      rw [if_neg (nI_pos h1), q_lit 5, gO 5, if_neg (fun y => by have := (q_lt (by omega) (by omega)).mp y; omega), e2]
      rfl
  | some s =>
    obtain ⟨h1, h2, h3⟩ := ix_some hs
    subst h1
    have z2 := ok.2.2.1 s h2
    have ez : M.1 3 s = nI (tz T s) := hT.2.2.1 s h2
    rw [if_neg (nI_pos h3), q_lit 5, gO 5, if_pos ((q_lt (by omega) (by omega)).mpr h2), q_cl h3, ez, q_lit 2, gO 2, q_m2]
    dsimp only
    by_cases z : a2 = -1
    · rw [if_pos z, if_pos z, if_pos (q_in h2 (by omega))]
      by_cases y : 2 ≤ tz T s
      · rw [if_pos ((q_le (by omega) (by omega)).mpr y), if_pos y]; rfl
      · rw [if_neg (fun w => y ((q_le (by omega) (by omega)).mp w)), if_neg y, if_pos (q_in h2 (by omega))]; rfl
    · rw [if_neg z, if_neg z]
      by_cases y : a2 < 0
      · rw [if_pos y, ix_neg y]; rfl
      · rw [if_neg y, if_pos (q_in h2 (by omega))]
        rcases q_any a2 with w | ⟨j, j1, rfl⟩
        · exact absurd w y
        · by_cases v : tz T s ≤ j
          · rw [if_pos ((q_le (by omega) (by omega)).mpr v), ix_big v j1]; rfl
          · rw [if_neg (fun u => v ((q_le (by omega) (by omega)).mp u)), ix_n (by omega) (by omega)]; rfl
theorem rT_hd (hT : rT M 1 T) (ok : tOK T) {M' : PM} {n f : Nat} {q : Int} (h : ∀ c, 2 ≤ c → c ≤ 55 → M'.1 c = M.1 c) (h1 : M'.1 1 1 = nI n) (h2 : M'.1 1 2 = nI f) (h3 : M'.1 1 3 = zI q) : rT M' 1 (hdT T n f q) := by
  obtain ⟨-, t2, t3, t4, t5⟩ := hT
  refine ⟨⟨h1, h2, h3⟩, fun i hi => ?_, fun s hs => ?_, fun k hk => ?_, fun s k s1 s5 hk => ?_⟩
  · rw [h (1 + 1) (by omega) (by omega)]; exact t2 i hi
  · rw [h (1 + 2) (by omega) (by omega)]; exact t3 s hs
  · exact (t4 k hk).agr (fun c c1 c2 => h c (by omega) (by omega))
  · have k2 : k < 2 := Nat.lt_of_lt_of_le hk (ok.2.2.1 s s5)
    exact rR_eq (t5 s k s1 s5 hk) (fun j hj => h _ (by omega) (by omega))
theorem s_keep32 {s k : Nat} {X : Txt} {N : PM} (ok : tOK T) (hs : s < 5) (hk : k < 2) (hkt : k ≤ tz T s) (h1 : N.1 1 1 = nI (tN T) ∧ N.1 1 2 = nI (tF T) ∧ N.1 1 3 = zI (tQ T)) (h2 : ∀ i, i < 600 → N.1 2 i = tT T i) (h3 : ∀ s, s < 5 → N.1 3 s = nI (tz T s)) (h4 : ∀ k', k' < 2 → rP N (1 + 5 + 9 * k') (tP (kpT T s k X) k')) (h5 : ∀ s' k', 1 ≤ s' → s' < 5 → k' < 2 → k' < tz (kpT T s k X) s' → rR N (1 + 23 + 4 * (2 * (s' - 1) + k')) (tR (kpT T s k X) s' k')) : ∃ M', f_X8_keep_32 (nI s) (nI k) 224 233 N = some ((), M') ∧ rT M' 1 (kpT T s k X) ∧ rng 1 55 N M' := by
  have z2 := ok.2.2.1 s hs
  have ez : ∀ s', tz (kpT T s k X) s' = if s' = s ∧ k = tz T s then k + 1 else tz T s' := fun _ => rfl
  have zz : ∀ s', s' < 5 → tz (kpT T s k X) s' ≤ 2 := fun s' h => by
    have := ok.2.2.1 s' h
    rw [ez]
    split <;> omega
  unfold f_X8_keep_32
  rw [q_cl (by omega), h3 s hs, if_pos (q_in hs (by omega)), q_lit 1, gO 1, q_add]
  by_cases z : k = tz T s
  · rw [if_pos (show nI k = nI (tz T s) by rw [z]), if_pos (q_in hs (by omega)), if_pos (q_in hs (by omega))]
    have er : ∀ c, c ≠ 3 → (hr_si N 3 s (nI (tz T s + 1))).1 c = N.1 c := fun c hc => si_ne _ _ _ hc
    refine ⟨_, rfl, ⟨⟨?_, ?_, ?_⟩, fun i hi => ?_, fun s' hs' => ?_, fun k' hk' => ?_, fun s' k' s1 s5 hk' => ?_⟩, (rng.rf _ _ _).si (by omega) (by omega) _ _⟩
    · rw [er 1 (by omega)]; exact h1.1
    · rw [er 1 (by omega)]; exact h1.2.1
    · rw [er 1 (by omega)]; exact h1.2.2
    · rw [er (1 + 1) (by omega)]; exact h2 i hi
    · show (hr_si N 3 s _).1 3 s' = _
      rw [si_same, ez]
      by_cases y : s' = s
      · rw [if_pos y, if_pos ⟨y, z⟩, z]
      · rw [if_neg y, if_neg (fun w => y w.1)]; exact h3 s' hs'
    · exact (h4 k' hk').agr (fun c c1 c2 => er c (by omega))
    · exact rR_eq (h5 s' k' s1 s5 (Nat.lt_of_lt_of_le hk' (zz s' s5)) hk') (fun j hj => er _ (by omega))
  · rw [if_neg (fun w => z ((q_eq (by omega) (by omega)).mp w))]
    refine ⟨N, rfl, ⟨h1, h2, fun s' hs' => ?_, h4, fun s' k' s1 s5 hk' => h5 s' k' s1 s5 (Nat.lt_of_lt_of_le hk' (zz s' s5)) hk'⟩, rng.rf _ _ _⟩
    show N.1 3 s' = _
    rw [ez, if_neg (fun w => z w.2)]; exact h3 s' hs'
theorem s_keep {s k : Nat} {X : Txt} (hT : rT M 1 T) (ok : tOK T) (hs : s < 5) (hk : k < 2) (hkt : k ≤ tz T s) (hP : pB M 224 (xP X)) (hR : rR M 233 (xR X)) (hX : xOK s X) : ∃ M', f_X8_keep (nI s) (nI k) 224 233 M = some ((), M') ∧ rT M' 1 (kpT T s k X) ∧ rng 1 55 M M' := by
  obtain ⟨t1, t2, t3, t4, t5⟩ := hT
  have ez : ∀ s', tz (kpT T s k X) s' = if s' = s ∧ k = tz T s then k + 1 else tz T s' := fun _ => rfl
  have eP : ∀ k', tP (kpT T s k X) k' = if s = 0 ∧ k' = k then xP X else tP T k' := fun _ => rfl
  have eR : ∀ s' k', tR (kpT T s k X) s' k' = if s' = s ∧ k' = k then xR X else tR T s' k' := fun _ _ => rfl
  have hle : ∀ s' k', s' < 5 → k' < tz (kpT T s k X) s' → ¬ (s' = s ∧ k' = k) → k' < tz T s' := fun s' k' h5 h hn => by
    rw [ez] at h
    by_cases z : s' = s ∧ k = tz T s
    · rw [if_pos z] at h
      rw [z.1]
      have : k' ≠ k := fun w => hn ⟨z.1, w⟩
      omega
    · rw [if_neg z] at h; exact h
  unfold f_X8_keep
  rw [if_pos (show hr_K 224 = 3 from K_224), if_pos (show hr_K 233 = 5 from hR.1)]
  by_cases z : s = 0
  · subst z
    have pK := palK_all 0 (by omega) k hk
    obtain ⟨M1, e1, e2, e3⟩ := s_copyP (M := M) (a := 6 + 9 * k) (b := 224) (P := xP X) (by have := pK; rw [if_pos rfl, show 1 + 5 + 9 * k = 6 + 9 * k by omega] at this; exact this) palK_224 (by omega) hP hX.1
    have pK1 : hr_K (6 + 9 * k) = 3 := e2.1.1
    rw [if_pos (show nI 0 = 0 from rfl), if_pos (q_in hk (by omega)), q_cl (by omega), show 4 + 2 + 9 * k = 6 + 9 * k by omega, if_pos pK1, e1, q_bd_some]
    have er : ∀ c, (c < 6 + 9 * k ∨ 6 + 9 * k + 8 < c) → M1.1 c = M.1 c := e3.1
    obtain ⟨M', g1, g2, g3⟩ := s_keep32 (N := M1) (X := X) ok hs hk hkt ⟨by rw [er 1 (by omega)]; exact t1.1, by rw [er 1 (by omega)]; exact t1.2.1, by rw [er 1 (by omega)]; exact t1.2.2⟩ (fun i hi => by rw [er 2 (by omega)]; exact t2 i hi) (fun s' hs' => by rw [er 3 (by omega)]; exact t3 s' hs') (fun k' hk' => by
      rw [eP]
      by_cases y : k' = k
      · rw [if_pos ⟨rfl, y⟩, y, show 1 + 5 + 9 * k = 6 + 9 * k by omega]; exact e2
      · rw [if_neg (fun w => y w.2)]
        exact (t4 k' hk').agr (fun c c1 c2 => er c (by omega))) (fun s' k' s1 s5 k2 hk' => by
      have hn : ¬ (s' = 0 ∧ k' = k) := by omega
      rw [eR, if_neg hn]
      exact rR_eq (t5 s' k' s1 s5 (hle s' k' s5 hk' hn)) (fun j hj => er _ (by omega)))
    exact ⟨M', g1, g2, (e3.up (by omega) (by omega)).tr g3⟩
  · have hro := hX.2.1 (by omega)
    have rK := rolK_all 0 (by omega) (2 * (s - 1) + k) (by omega)
    rw [if_pos rfl] at rK
    have e0 : f_X8_rollIndex (nI s) (nI k) M = some (nI (2 * (s - 1) + k), M) := by
      unfold f_X8_rollIndex
      rw [q_lit 1, gO 1, q_sub (by omega), q_lit 2, gO 2, q_mul, q_add]
    rw [if_neg (show ¬ nI s = 0 from fun w => z ((q_eq (b := 0) (by omega) (by omega)).mp w)), e0, q_bd_some, if_pos (q_in (by omega) (by omega)), q_cl (by omega), show 5 + 19 + 4 * (2 * (s - 1) + k) = 1 + 23 + 4 * (2 * (s - 1) + k) by omega, if_pos rK.1, cpR_eq rK rolK_233 (by omega), q_bd_some]
    have e3 := cpR_rng (M := M) (a := 1 + 23 + 4 * (2 * (s - 1) + k)) (b := 233)
    have e2 := cpR_rR (M := M) (b := 233) rK hR (oOK_40 hro.1 (by omega) hs)
    have er : ∀ c, (c < 1 + 23 + 4 * (2 * (s - 1) + k) ∨ 1 + 23 + 4 * (2 * (s - 1) + k) + 3 < c) → (cpR M (1 + 23 + 4 * (2 * (s - 1) + k)) 233).1 c = M.1 c := e3.1
    obtain ⟨M', g1, g2, g3⟩ := s_keep32 (N := cpR M (1 + 23 + 4 * (2 * (s - 1) + k)) 233) (X := X) ok hs hk hkt ⟨by rw [er 1 (by omega)]; exact t1.1, by rw [er 1 (by omega)]; exact t1.2.1, by rw [er 1 (by omega)]; exact t1.2.2⟩ (fun i hi => by rw [er 2 (by omega)]; exact t2 i hi) (fun s' hs' => by rw [er 3 (by omega)]; exact t3 s' hs') (fun k' hk' => by
      rw [eP, if_neg (fun w => z w.1)]
      exact (t4 k' hk').agr (fun c c1 c2 => er c (by omega))) (fun s' k' s1 s5 k2 hk' => by
      rw [eR]
      by_cases hn : s' = s ∧ k' = k
      · rw [if_pos hn, hn.1, hn.2]; exact e2
      · rw [if_neg hn]
        refine rR_eq (t5 s' k' s1 s5 (hle s' k' s5 hk' hn)) (fun j hj => er _ ?_)
        omega)
    exact ⟨M', g1, g2, (e3.up (by omega) (by omega)).tr g3⟩
theorem c_text (hm : hr_MS M) (hT : rT M 1 T) (ok : tOK T) (a1 a2 : Int32) : ∃ M', f_X10_text a1 a2 M = some ((sp_text T a1 a2).1, M') ∧ rT M' 1 (sp_text T a1 a2).2 ∧ tOK (sp_text T a1 a2).2 ∧ (∃ t, (t = M.2.2 ∨ t = 2) ∧ hr_fr txW (hr_stp M t) M') ∧ (forg M' ∨ ((sp_text T a1 a2).2.2.2.2.2 = T.2.2.2.2 ∧ M'.1 240 = M.1 240 ∧ M'.1 265 = M.1 265)) := by
  unfold f_X10_text sp_text
  rw [s_slotFor hT ok, q_bd_some]
  cases hsl : slotS T a1 a2 with
  | none =>
    rw [if_neg (show ¬ 0 ≤ slN none by decide), show (-2 : Int32) = zI (-2) by decide]
    refine ⟨_, rfl, rT_hd hT ok (fun c c1 c2 => ?_) ?_ ?_ ?_, hdT_ok ok (by omega) (by omega) (by omega) (by omega), ⟨M.2.2, Or.inl rfl, ?_⟩, Or.inr ⟨rfl, ?_, ?_⟩⟩
    · rw [si_ne _ _ _ (by omega), si_ne _ _ _ (by omega), si_ne _ _ _ (by omega)]
    · rw [si_same, if_neg (by omega), si_same, if_neg (by omega), si_same, if_pos rfl]; rfl
    · rw [si_same, if_neg (by omega), si_same, if_pos rfl]; rfl
    · rw [si_same, if_pos rfl]; decide
    · have hi : ∀ k, hr_in txW 1 k = true := cov0 (txW_55 1 (by omega))
      exact hr_fr.si (hi _) (hr_fr.si (hi _) (hr_fr.si (hi _) (hr_fr.rf _ _)))
    · rw [si_ne _ _ _ (by omega), si_ne _ _ _ (by omega), si_ne _ _ _ (by omega)]
    · rw [si_ne _ _ _ (by omega), si_ne _ _ _ (by omega), si_ne _ _ _ (by omega)]
  | some k =>
    obtain ⟨s, hs, e1, hk, hkt⟩ := slotS_ok ok hsl
    subst e1
    have hn := ok.1.1
    have hi : ∀ k, hr_in txW 1 k = true := cov0 (txW_55 1 (by omega))
    rw [show slN (some k) = nI k from rfl, if_pos (show (0 : Int32) ≤ nI k from nI_pos' (by omega)), show M.1 1 1 = nI (tN T) from hT.1.1]
    dsimp only
    rw [q_cl (show s < 2147483648 by omega)]
    generalize hN0 : hr_si (hr_si (hr_si M 1 1 0) 1 2 0) 1 3 (-1) = N0
    have r0 : ∀ c, c ≠ 1 → N0.1 c = M.1 c := fun c hc => by rw [← hN0, si_ne _ _ _ hc, si_ne _ _ _ hc, si_ne _ _ _ hc]
    have f0 : hr_fr txW M N0 := by rw [← hN0]; exact hr_fr.si (hi _) (hr_fr.si (hi _) (hr_fr.si (hi _) (hr_fr.rf _ _)))
    have e11 : N0.1 1 1 = nI 0 := by rw [← hN0, si_same, if_neg (by omega), si_same, if_neg (by omega), si_same, if_pos rfl]; rfl
    have hm0 : hr_MS N0 := fun a ha => by
      have e : hr_n = 305 := rfl
      rw [r0 a (by omega)]; exact hm a ha
    obtain ⟨M5, g1, g2, g3, g4, g5⟩ := s_read (B := bySt T) (L := tN T) (M := N0) hm0 hn (fun i => btN_lt _) (fun i h => by rw [r0 2 (by omega), show M.1 2 i = tT T i from hT.2.1 i h]; exact btN_eq _) hs
    obtain ⟨q1, q2, q3⟩ := rd_ok (B := bySt T) (L := tN T) (s := s) hn hs
    rw [g1, q_bd_some]
    have f5 : hr_fr txW (hr_stp M 2) M5 := by
      have fa : hr_fr txW (hr_stp M 2) (hr_stp N0 2) := ⟨f0.1, rfl⟩
      exact fa.tr (hr_fr.mono (by decide) g2)
    have r5 : ∀ c, 1 ≤ c → c ≤ 55 → M5.1 c = N0.1 c := fun c c1 c2 => by
      have : M5.1 c = (hr_stp N0 2).1 c := g2.row c (fun k => by
        have : ∀ c, c < 56 → (rdW.all (fun q => Nat.blt c q.1)) = true := by decide
        have h2 := this c (by omega)
        generalize rdW = W at h2
        clear g2 g1 f5
        induction W with
        | nil => rfl
        | cons q W ih =>
          rw [List.all_cons, Bool.and_eq_true] at h2
          have hq : q.1 ≠ c := by have := Nat.le_of_ble_eq_true h2.1; omega
          unfold hr_in
          rw [beqF hq, ih h2.2]
          rfl)
      exact this
    generalize hN1 : hr_si (hr_si M5 1 2 (M5.1 223 2)) 1 3 ((hr_si M5 1 2 (M5.1 223 2)).1 223 3) = N1
    have r1 : ∀ c, c ≠ 1 → N1.1 c = M5.1 c := fun c hc => by rw [← hN1, si_ne _ _ _ hc, si_ne _ _ _ hc]
    have f1 : hr_fr txW (hr_stp M 2) N1 := by rw [← hN1]; exact hr_fr.si (hi _) (hr_fr.si (hi _) f5)
    have hT1 : rT N1 1 (hdT T 0 (rdF (bySt T) (tN T) s) (rdQ (bySt T) (tN T) s)) := by
      refine rT_hd hT ok (fun c c1 c2 => by rw [r1 c (by omega), r5 c (by omega) c2, r0 c (by omega)]) ?_ ?_ ?_
      · rw [← hN1, si_same, if_neg (by omega), si_same, if_neg (by omega), r5 1 (by omega) (by omega)]; exact e11
      · rw [← hN1, si_same, if_neg (by omega), si_same, if_pos rfl]; exact g3
      · rw [← hN1, si_same, if_pos rfl, si_ne _ _ _ (by omega)]; exact g4
    have ok1 : tOK (hdT T 0 (rdF (bySt T) (tN T) s) (rdQ (bySt T) (tN T) s)) := hdT_ok ok (by omega) q1 q2 q3
    rw [r1 223 (by omega), g3]
    by_cases z : rdF (bySt T) (tN T) s = 0
    · obtain ⟨p1, p2⟩ := g5 z
      have hX := (readS_ok (B := bySt T) (L := tN T) (s := s) hn hs).2
      obtain ⟨M8, k1, k2, k3⟩ := s_keep (M := N1) (X := (readS (bySt T) (tN T) s).2.2) hT1 ok1 hs hk hkt (pB_eq p1 (fun j hj => r1 _ (by omega))) (rR_eq p2 (fun j hj => r1 _ (by omega))) hX
      obtain ⟨M9, l1, l2, l3⟩ := s_forget M8
      rw [if_pos (show nI (rdF (bySt T) (tN T) s) = 0 by rw [z]; rfl), if_pos z, k1, q_bd_some, l1, q_bd_some]
      refine ⟨M9, rfl, ?_, kpT_ok ok1 hs hk hX, ⟨2, Or.inr rfl, (f1.tr (k3.fr (fun a a1 a2 => txW_55 a (by omega)))).tr (hr_fr.mono (by decide) l3)⟩, Or.inl l2⟩
      have rr : ∀ c, c < 240 → M9.1 c = M8.1 c := fun c hc => l3.row c (fun k => by
        have h240 : (240 : Nat) ≠ c := by omega
        have h265 : (265 : Nat) ≠ c := by omega
        unfold fgW
        simp only [hr_in, beqF h240, beqF h265, Bool.false_and, Bool.or_false])
      obtain ⟨t1, t2, t3, t4, t5⟩ := k2
      have okk := kpT_ok (T := hdT T 0 (rdF (bySt T) (tN T) s) (rdQ (bySt T) (tN T) s)) (X := (readS (bySt T) (tN T) s).2.2) ok1 hs hk hX
      refine ⟨by rw [rr 1 (by omega)]; exact t1, fun i h => by rw [rr (1 + 1) (by omega)]; exact t2 i h, fun s' h => by rw [rr (1 + 2) (by omega)]; exact t3 s' h, fun k' h => (t4 k' h).agr (fun c c1 c2 => rr c (by omega)), fun s' k' s1 s5 h => ?_⟩
      have : k' < 2 := Nat.lt_of_lt_of_le h (okk.2.2.1 s' s5)
      exact rR_eq (t5 s' k' s1 s5 h) (fun j hj => rr _ (by omega))
    · rw [if_neg (show ¬ nI (rdF (bySt T) (tN T) s) = 0 from fun w => z ((q_eq (b := 0) (by omega) (by omega)).mp w)), if_neg z, show (-1 : Int32) = zI (-1) by decide]
      have re : ∀ c, c = 240 ∨ c = 265 → N1.1 c = M.1 c := fun c hc => by
        rw [r1 c (by omega)]
        have : M5.1 c = (hr_stp N0 2).1 c := g2.row c (fun k => by rcases hc with rfl | rfl <;> rfl)
        rw [this]
        exact r0 c (by omega)
      exact ⟨N1, rfl, hT1, ok1, ⟨2, Or.inr rfl, f1⟩, Or.inr ⟨rfl, re 240 (Or.inl rfl), re 265 (Or.inr rfl)⟩⟩
end CTX
