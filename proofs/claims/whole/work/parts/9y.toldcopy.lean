/-! ALL THAT IS TOLD, copied, by the class -/
abbrev rolK (a : Nat) : Prop := hr_K a = 5 ∧ hr_N (a + 1) = 40 ∧ hr_N (a + 2) = 40 ∧ hr_N (a + 3) = 40
def cpR (M : PM) (a b : Nat) : PM := hr_sr (hr_sr (hr_sr (hr_si (hr_si (hr_si M a 0 (M.1 b 0)) a 1 (M.1 b 1)) a 2 (M.1 b 2)) (a + 1) (va_cpy (M.1 (b + 1)) (M.1 (a + 1)) 0 0 40)) (a + 2) (va_cpy (M.1 (b + 2)) (M.1 (a + 2)) 0 0 40)) (a + 3) (va_cpy (M.1 (b + 3)) (M.1 (a + 3)) 0 0 40)
section TCO
variable {M : PM} {a b : Nat}
theorem cpR_eq (ha : rolK a) (hb : rolK b) (hab : a + 3 < b ∨ b + 3 < a) : f_X6_copyFrom a b M = some ((), cpR M a b) := by
  obtain ⟨a1, a2, a3, a4⟩ := ha
  obtain ⟨b1, b2, b3, b4⟩ := hb
  unfold f_X6_copyFrom
  rw [if_pos a1, if_pos b1, a2, a3, a4, b2, b3, b4, if_pos (by decide), if_pos (by decide), if_pos (by decide)]
  unfold cpR
  simp (disch := omega) only [si_ne, sr_ne, show (Int32.ofNat 40).toNatClampNeg = 40 from rfl, show (0 : Int32).toNatClampNeg = 0 from rfl]
theorem cpR_rng : rng a (a + 3) M (cpR M a b) := by
  unfold cpR
  exact ((((((rng.rf _ _ _).si (by omega) (by omega) _ _).si (by omega) (by omega) _ _).si (by omega) (by omega) _ _).sr (by omega) (by omega) _).sr (by omega) (by omega) _).sr (by omega) (by omega) _
theorem cpR_rR {R : Rol} (ha : rolK a) (h : rR M b R) (hn : oN R ≤ 40) : rR (cpR M a b) a R := by
  obtain ⟨-, ⟨h1, h2, h3⟩, h4⟩ := h
  unfold cpR
  refine ⟨ha.1, ⟨?_, ?_, ?_⟩, fun i hi => ?_⟩
  · rw [sr_ne _ _ (by omega), sr_ne _ _ (by omega), sr_ne _ _ (by omega), si_same, if_neg (by omega), si_same, if_neg (by omega), si_same, if_pos rfl]; exact h1
  · rw [sr_ne _ _ (by omega), sr_ne _ _ (by omega), sr_ne _ _ (by omega), si_same, if_neg (by omega), si_same, if_pos rfl]; exact h2
  · rw [sr_ne _ _ (by omega), sr_ne _ _ (by omega), sr_ne _ _ (by omega), si_same, if_pos rfl]; exact h3
  · obtain ⟨g1, g2, g3⟩ := h4 i hi
    rw [sr_ne _ _ (show a + 1 ≠ a + 3 by omega), sr_ne _ _ (show a + 1 ≠ a + 2 by omega), sr_same, cpy_at (by omega), sr_ne _ _ (show a + 2 ≠ a + 3 by omega), sr_same, cpy_at (by omega), sr_same, cpy_at (by omega)]
    exact ⟨g1, g2, g3⟩
end TCO
abbrev toldK (a : Nat) : Prop := hr_K a = 7 ∧ (hr_N (a + 1) = 600 ∧ hr_N (a + 2) = 5 ∧ hr_N (a + 3) = 2 ∧ hr_N (a + 4) = 8) ∧ (∀ k, k < 2 → palK (a + 5 + 9 * k)) ∧ ∀ x, x < 8 → rolK (a + 23 + 4 * x)
/-- where the told is, and its images -/
def tdA (m : Nat) : Nat := if m = 0 then 1 else 2 + 55 * m
theorem rolK_all : ∀ m, m < 4 → ∀ x, x < 8 → rolK ((if m = 0 then 1 else 2 + 55 * m) + 23 + 4 * x) := by decide +kernel
theorem toldN_all : ∀ m, m < 4 → hr_K (if m = 0 then 1 else 2 + 55 * m) = 7 ∧ hr_N ((if m = 0 then 1 else 2 + 55 * m) + 1) = 600 ∧ hr_N ((if m = 0 then 1 else 2 + 55 * m) + 2) = 5 ∧ hr_N ((if m = 0 then 1 else 2 + 55 * m) + 3) = 2 ∧ hr_N ((if m = 0 then 1 else 2 + 55 * m) + 4) = 8 := by decide +kernel
theorem toldK_all (m : Nat) (hm : m < 4) : toldK (tdA m) := ⟨(toldN_all m hm).1, (toldN_all m hm).2, palK_all m hm, rolK_all m hm⟩
theorem rolK_233 : rolK 233 := by decide +kernel
def cpT (M : PM) (a b : Nat) : PM := hr_sr (hr_si (hr_si (hr_si (hr_sr M (a + 1) (va_cpy (M.1 (b + 1)) (M.1 (a + 1)) 0 0 600)) a 1 (M.1 b 1)) a 2 (M.1 b 2)) a 3 (M.1 b 3)) (a + 2) (va_cpy (M.1 (b + 2)) (M.1 (a + 2)) 0 0 5)
theorem rP_pB {M : PM} {a : Nat} {P : Pal} (h : rP M a P) : pB M a P := ⟨h.2.1, h.2.2.1.1, h.2.2.1.2.1, h.2.2.1.2.2⟩
theorem pB_eq {M M' : PM} {a : Nat} {P : Pal} (h : pB M a P) (e : ∀ j, j < 4 → M'.1 (a + j) = M.1 (a + j)) : pB M' a P := by
  have e0 : M'.1 a = M.1 a := e 0 (by omega)
  unfold pB at h ⊢
  rw [e0, e 1 (by omega), e 2 (by omega), e 3 (by omega)]
  exact h
theorem rR_eq {M M' : PM} {a : Nat} {R : Rol} (h : rR M a R) (e : ∀ j, j < 4 → M'.1 (a + j) = M.1 (a + j)) : rR M' a R := by
  have e0 : M'.1 a = M.1 a := e 0 (by omega)
  unfold rR at h ⊢
  rw [e0, e 1 (by omega), e 2 (by omega), e 3 (by omega)]
  exact h
theorem oOK_40 {s : Nat} {R : Rol} (h : oOK s R) (h1 : 1 ≤ s) (h5 : s < 5) : oN R ≤ 40 := by
  have ss : s = 1 ∨ s = 2 ∨ s = 3 ∨ s = 4 := by omega
  rcases ss with rfl | rfl | rfl | rfl
  · have : oN R ≤ 9 := h.1; omega
  · exact h.1
  · have : oN R ≤ 12 := h.1; omega
  · have : oN R ≤ 8 := h.1; omega
section TOC
variable {M : PM} {a b : Nat} {T : Tol}
theorem t_88 (ha : toldK a) (hb : toldK b) (hab : a + 54 < b ∨ b + 54 < a) (hT : rT M b T) (ok : tOK T) {N : PM} (hr : rng a (a + 54) M N) (h1 : (N.1 a 1 = nI (tN T) ∧ N.1 a 2 = nI (tF T) ∧ N.1 a 3 = zI (tQ T)) ∧ (∀ i, i < 600 → N.1 (a + 1) i = tT T i) ∧ ∀ s, s < 5 → N.1 (a + 2) s = nI (tz T s)) (h2 : ∀ k, k < 2 → rP N (a + 5 + 9 * k) (tP T k)) : ∃ M', f_X8_copyFrom_88 a b FU 0 N = some ((), M') ∧ rT M' a T ∧ rng a (a + 54) M M' := by
  obtain ⟨-, ⟨-, -, -, n8⟩, -, aR⟩ := ha
  obtain ⟨-, -, -, bR⟩ := hb
  rw [show (0 : Int32) = nI 0 from rfl]
  refine hr_for (σ := PM) (fun f x N => f_X8_copyFrom_88 a b f (nI x) N) 8 (fun x N2 => rng a (a + 54) M N2 ∧ (∀ c, c < a + 23 → N2.1 c = N.1 c) ∧ ∀ y, y < x → ∀ R, rR M (b + 23 + 4 * y) R → oN R ≤ 40 → rR N2 (a + 23 + 4 * y) R) (fun r => ∃ M', r = some ((), M') ∧ rT M' a T ∧ rng a (a + 54) M M') ?_ ?_ FU 0 N (Nat.zero_le _) (FU_ok (by omega)) ⟨hr, fun _ _ => rfl, fun y hy => by omega⟩
  · rintro f x N2 hx ⟨i1, i2, i3⟩
    right
    have aK := aR x hx
    have bK := bR x hx
    show ∃ s', f_X8_copyFrom_88 a b (f + 1) (nI x) N2 = f_X8_copyFrom_88 a b f (nI (x + 1)) s' ∧ _
    rw [f_X8_copyFrom_88.eq_2, n8, show Int32.ofNat 8 = nI 8 from rfl, if_neg (fun y => by have := (q_le (by omega) (by omega)).mp y; omega), if_pos (q_in (by omega) (by omega)), q_cl (by omega), show a + 4 + 19 + 4 * x = a + 23 + 4 * x by omega, show b + 4 + 19 + 4 * x = b + 23 + 4 * x by omega, if_pos aK.1, if_pos (q_in (by omega) (by omega)), if_pos bK.1, cpR_eq aK bK (by omega), q_bd_some, q_lit 1, gO 1, q_add]
    have cr := cpR_rng (M := N2) (a := a + 23 + 4 * x) (b := b + 23 + 4 * x)
    refine ⟨_, rfl, i1.tr (cr.up (by omega) (by omega)), fun c hc => (cr.1 c (by omega)).trans (i2 c hc), fun y hy R hR hn => ?_⟩
    by_cases z : y = x
    · subst z
      exact cpR_rR aK (rR_eq hR (fun j hj => i1.1 _ (by omega))) hn
    · exact rR_eq (i3 y (by omega) R hR hn) (fun j hj => cr.1 _ (by omega))
  · rintro f N2 ⟨i1, i2, i3⟩
    show ∃ M', f_X8_copyFrom_88 a b (f + 1) (nI 8) N2 = _ ∧ _
    rw [f_X8_copyFrom_88.eq_2, n8, show Int32.ofNat 8 = nI 8 from rfl, if_pos (Int32.le_refl _)]
    refine ⟨N2, rfl, ⟨?_, ?_, ?_, fun k hk => ?_, fun s k s1 s5 hk => ?_⟩, i1⟩
    · rw [i2 a (by omega)]; exact h1.1
    · intro i hi; rw [i2 (a + 1) (by omega)]; exact h1.2.1 i hi
    · intro s hs; rw [i2 (a + 2) (by omega)]; exact h1.2.2 s hs
    · exact (h2 k hk).agr (fun c c1 c2 => i2 c (by omega))
    · have k2 : k < 2 := Nat.lt_of_lt_of_le hk (ok.2.2.1 s s5)
      exact i3 (2 * (s - 1) + k) (by omega) _ (hT.2.2.2.2 s k s1 s5 hk) (oOK_40 (ok.2.2.2.2 s k s1 s5 hk) s1 s5)
theorem t_56 (ha : toldK a) (hb : toldK b) (hab : a + 54 < b ∨ b + 54 < a) (hT : rT M b T) (ok : tOK T) {N : PM} (hr : rng a (a + 54) M N) (h1 : (N.1 a 1 = nI (tN T) ∧ N.1 a 2 = nI (tF T) ∧ N.1 a 3 = zI (tQ T)) ∧ (∀ i, i < 600 → N.1 (a + 1) i = tT T i) ∧ ∀ s, s < 5 → N.1 (a + 2) s = nI (tz T s)) : ∃ M', f_X8_copyFrom_56 a b FU 0 N = some ((), M') ∧ rT M' a T ∧ rng a (a + 54) M M' := by
  have ha' := ha
  have hb' := hb
  obtain ⟨-, ⟨-, -, n2, n8⟩, aP, aR⟩ := ha
  obtain ⟨-, -, bP, bR⟩ := hb
  rw [show (0 : Int32) = nI 0 from rfl]
  refine hr_for (σ := PM) (fun f x N => f_X8_copyFrom_56 a b f (nI x) N) 2 (fun x N2 => rng a (a + 54) M N2 ∧ (∀ c, c < a + 5 → N2.1 c = N.1 c) ∧ ∀ k, k < x → rP N2 (a + 5 + 9 * k) (tP T k)) (fun r => ∃ M', r = some ((), M') ∧ rT M' a T ∧ rng a (a + 54) M M') ?_ ?_ FU 0 N (Nat.zero_le _) (FU_ok (by omega)) ⟨hr, fun _ _ => rfl, fun y hy => by omega⟩
  · rintro f x N2 hx ⟨i1, i2, i3⟩
    right
    have aK := aP x hx
    have bK := bP x hx
    obtain ⟨M', e1, e2, e3⟩ := s_copyP (M := N2) (P := tP T x) aK bK (by omega) (pB_eq (rP_pB (hT.2.2.2.1 x hx)) (fun j hj => i1.1 _ (by omega))) (ok.2.2.2.1 x hx)
    show ∃ s', f_X8_copyFrom_56 a b (f + 1) (nI x) N2 = f_X8_copyFrom_56 a b f (nI (x + 1)) s' ∧ _
    rw [f_X8_copyFrom_56.eq_2, n2, show Int32.ofNat 2 = nI 2 from rfl, if_neg (fun y => by have := (q_le (by omega) (by omega)).mp y; omega), if_pos (q_in (by omega) (by omega)), q_cl (by omega), show a + 3 + 2 + 9 * x = a + 5 + 9 * x by omega, show b + 3 + 2 + 9 * x = b + 5 + 9 * x by omega, if_pos aK.1, if_pos (q_in (by omega) (by omega)), if_pos bK.1, e1, q_bd_some, q_lit 1, gO 1, q_add]
    refine ⟨M', rfl, i1.tr (e3.up (by omega) (by omega)), fun c hc => (e3.1 c (by omega)).trans (i2 c hc), fun y hy => ?_⟩
    by_cases z : y = x
    · subst z; exact e2
    · exact (i3 y (by omega)).agr (fun c c1 c2 => e3.1 c (by omega))
  · rintro f N2 ⟨i1, i2, i3⟩
    show ∃ M', f_X8_copyFrom_56 a b (f + 1) (nI 2) N2 = _ ∧ _
    rw [f_X8_copyFrom_56.eq_2, n2, show Int32.ofNat 2 = nI 2 from rfl, if_pos (Int32.le_refl _)]
    refine t_88 ha' hb' hab hT ok i1 ⟨?_, ?_, ?_⟩ i3
    · rw [i2 a (by omega)]; exact h1.1
    · intro i hi; rw [i2 (a + 1) (by omega)]; exact h1.2.1 i hi
    · intro s hs; rw [i2 (a + 2) (by omega)]; exact h1.2.2 s hs
/-- all that is told is copied -/
theorem t_copy (ha : toldK a) (hb : toldK b) (hab : a + 54 < b ∨ b + 54 < a) (hT : rT M b T) (ok : tOK T) : ∃ M', f_X8_copyFrom a b M = some ((), M') ∧ rT M' a T ∧ rng a (a + 54) M M' := by
  have e : f_X8_copyFrom a b M = f_X8_copyFrom_56 a b FU 0 (cpT M a b) := by
    obtain ⟨a1, ⟨a2, a3, -, -⟩, -⟩ := ha
    obtain ⟨b1, ⟨b2, b3, -, -⟩, -⟩ := hb
    unfold f_X8_copyFrom
    rw [if_pos a1, if_pos b1, a2, a3, b2, b3, if_pos ⟨fun i hi => by
      have hi6 : i < 600 := hi
      rw [show (0 : Int32).toNatClampNeg + i = i from Nat.zero_add i, hT.2.1 i hi6]
      exact ok.2.1 i hi6, by decide, by decide, by decide⟩, if_pos (by decide)]
    unfold cpT
    simp (disch := omega) only [si_ne, sr_ne, show (600 : Int32).toNatClampNeg = 600 from rfl, show (5 : Int32).toNatClampNeg = 5 from rfl, show (0 : Int32).toNatClampNeg = 0 from rfl]
  rw [e]
  refine t_56 ha hb hab hT ok ?_ ⟨⟨?_, ?_, ?_⟩, fun i hi => ?_, fun s hs => ?_⟩
  · unfold cpT
    exact (((((rng.rf _ _ _).sr (by omega) (by omega) _).si (by omega) (by omega) _ _).si (by omega) (by omega) _ _).si (by omega) (by omega) _ _).sr (by omega) (by omega) _
  · unfold cpT
    rw [sr_ne _ _ (by omega), si_same, if_neg (by omega), si_same, if_neg (by omega), si_same, if_pos rfl]; exact hT.1.1
  · unfold cpT
    rw [sr_ne _ _ (by omega), si_same, if_neg (by omega), si_same, if_pos rfl]; exact hT.1.2.1
  · unfold cpT
    rw [sr_ne _ _ (by omega), si_same, if_pos rfl]; exact hT.1.2.2
  · unfold cpT
    rw [sr_ne _ _ (by omega), si_ne _ _ _ (by omega), si_ne _ _ _ (by omega), si_ne _ _ _ (by omega), sr_same, cpy_at hi]; exact hT.2.1 i hi
  · unfold cpT
    rw [sr_same, cpy_at hs]; exact hT.2.2.1 s hs
end TOC
