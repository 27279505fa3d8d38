/-! A PALETTE COPIED: its strengths and holders are found anew -/
/-- only cells from lo to hi may differ -/
def rng (lo hi : Nat) (M M' : PM) : Prop := (∀ a, (a < lo ∨ hi < a) → M'.1 a = M.1 a) ∧ M'.2 = M.2
theorem rng.rf (lo hi : Nat) (M : PM) : rng lo hi M M := ⟨fun _ _ => rfl, rfl⟩
theorem rng.tr {lo hi : Nat} {M M1 M2 : PM} (h1 : rng lo hi M M1) (h2 : rng lo hi M1 M2) : rng lo hi M M2 := ⟨fun a h => (h2.1 a h).trans (h1.1 a h), h2.2.trans h1.2⟩
theorem rng.up {lo hi lo' hi' : Nat} {M M' : PM} (h : rng lo hi M M') (h1 : lo' ≤ lo) (h2 : hi ≤ hi') : rng lo' hi' M M' := ⟨fun a ha => h.1 a (by omega), h.2⟩
theorem rng.si {lo hi : Nat} {M M1 : PM} (h : rng lo hi M M1) {a : Nat} (h1 : lo ≤ a) (h2 : a ≤ hi) (k : Nat) (v : Int32) : rng lo hi M (hr_si M1 a k v) := ⟨fun b hb => by rw [si_ne _ _ _ (by omega)]; exact h.1 b hb, h.2⟩
theorem sr_ne (M : PM) {a b : Nat} (f : Nat → Int32) (h : b ≠ a) : (hr_sr M a f).1 b = M.1 b := by rw [q_sr1, if_neg h]
theorem sr_same (M : PM) (a : Nat) (f : Nat → Int32) : (hr_sr M a f).1 a = f := by rw [q_sr1, if_pos rfl]
theorem rng.sr {lo hi : Nat} {M M1 : PM} (h : rng lo hi M M1) {a : Nat} (h1 : lo ≤ a) (h2 : a ≤ hi) (f : Nat → Int32) : rng lo hi M (hr_sr M1 a f) := ⟨fun b hb => by rw [sr_ne _ _ (by omega)]; exact h.1 b hb, h.2⟩
/-- a palette, what is found of it aside -/
def pW (M : PM) (a : Nat) (P : Pal) : Prop := (hr_K a = 3 ∧ pOK P) ∧ (M.1 a 0 = nI (pH P) ∧ M.1 a 1 = nI (pR P)) ∧ (∀ i, i < 3 * pH P → M.1 (a + 1) i = nI (pP P i)) ∧ (∀ i, i < 3 * pR P → M.1 (a + 2) i = zI (pU P i)) ∧ ∀ i, i < 20 → M.1 (a + 3) i = nI (pL P i)
theorem pW.rng {M M' : PM} {a lo hi : Nat} {P : Pal} (h : pW M a P) (hr : rng lo hi M M') (hl : a + 3 < lo) : pW M' a P := by
  unfold pW at h ⊢
  rw [hr.1 a (by omega), hr.1 (a + 1) (by omega), hr.1 (a + 2) (by omega), hr.1 (a + 3) (by omega)]
  exact h
section PALC
variable {M : PM} {a : Nat} {P : Pal}
theorem w_measure (hP : pW M a P) {h : Nat} (hh : h < pH P) {s x : Int} (hs : 0 ≤ s ∧ s ≤ 4) (hx : 0 ≤ x ∧ x ≤ 54) : f_X4_measure a (nI h) (zI s) (zI x) M = some (nI (mea P h s x), M) := by
  have hn : pH P ≤ 10 := hP.1.2.1
  have h1 := hP.2.2.1 (3 * h) (by omega)
  have h2 := hP.2.2.1 (3 * h + 1) (by omega)
  have h3 := hP.2.2.1 (3 * h + 2) (by omega)
  obtain ⟨x, rfl⟩ : ∃ n : Nat, x = n := ⟨x.toNat, by omega⟩
  obtain ⟨s, rfl⟩ : ∃ n : Nat, s = n := ⟨s.toNat, by omega⟩
  unfold f_X4_measure mea
  rw [if_pos hP.1.1, ← q_nz, ← q_nz]
  by_cases h0 : s = 0
  · subst h0
    simp (disch := omega) only [q_lit, q_m1, q_m2, q_m1000, q_add, q_mul, q_cl, q_le, q_lt, q_eq, q_in, q_bd_some, eq_self, if_true, if_false, q_b0, q_b1, q_b01, q_bt, q_bf, q_ft, q_tf, Nat.mul_zero, Nat.add_zero, Nat.zero_add, or_true, true_or, not_true_eq_false, not_false_eq_true, reduceCtorEq, h1, h2, h3, tot]
    rfl
  · rw [if_neg (show ¬ (s : Int) = 0 by omega)]
    simp (disch := omega) only [q_lit, q_m1, q_m2, q_m1000, q_add, q_mul, q_cl, q_le, q_lt, q_eq, q_in, q_bd_some, eq_self, if_true, if_false, q_b0, q_b1, q_b01, q_bt, q_bf, q_ft, q_tf, Nat.mul_zero, Nat.add_zero, Nat.zero_add, or_true, true_or, not_true_eq_false, not_false_eq_true, reduceCtorEq, h0]
    by_cases hx3 : x < 3
    · rw [if_pos (show (x : Int) < 3 by omega)]
      simp (disch := omega) only [q_lit, q_m1, q_m2, q_m1000, q_add, q_mul, q_cl, q_le, q_lt, q_eq, q_in, q_bd_some, eq_self, if_true, if_false, q_b0, q_b1, q_b01, q_bt, q_bf, q_ft, q_tf, Nat.mul_zero, Nat.add_zero, Nat.zero_add, or_true, true_or, not_true_eq_false, not_false_eq_true, reduceCtorEq, Nat.not_le.mpr hx3, Nat.not_lt_zero, hP.2.2.1 (3 * h + x) (by omega), Int.toNat_natCast]
    · rw [if_neg (show ¬ (x : Int) < 3 by omega)]
      simp (disch := omega) only [q_lit, q_m1, q_m2, q_m1000, q_add, q_mul, q_cl, q_le, q_lt, q_eq, q_in, q_bd_some, eq_self, if_true, if_false, q_b0, q_b1, q_b01, q_bt, q_bf, q_ft, q_tf, Nat.mul_zero, Nat.add_zero, Nat.zero_add, or_true, true_or, not_true_eq_false, not_false_eq_true, reduceCtorEq, Nat.not_lt.mp hx3, Nat.not_lt_zero]
theorem w_wouldHold (hP : pW M a P) {s x y : Int} {h k : Nat} (hh : h < pH P) (hk : k < pH P) (hs : 0 ≤ s ∧ s ≤ 4) (hx : 0 ≤ x ∧ x ≤ 54) (hy : -1 ≤ y ∧ y ≤ 54) : f_X4_wouldHold a (zI s) (zI x) (zI y) (nI h) (nI k) M = some (bI (hold1 P s x y h k), M) := by
  unfold f_X4_wouldHold hold1
  rw [if_pos hP.1.1]
  simp (disch := omega) only [q_lit, q_m1, q_m2, q_m1000, q_add, q_mul, q_cl, q_le, q_lt, q_eq, q_in, q_bd_some, eq_self, if_true, if_false, q_b0, q_b1, q_b01, q_bt, q_bf, q_ft, q_tf, Nat.mul_zero, Nat.add_zero, Nat.zero_add, or_true, true_or, not_true_eq_false, not_false_eq_true, reduceCtorEq, w_measure hP hh hs hx, w_measure hP hk hs hx, s_touches M hs hx hy (mea_le hP.1.2 h s x) (mea_le hP.1.2 k s x)]
theorem w_rule (hP : pW M a P) {k : Nat} (hk : k < pR P) : (M.1 (a + 2) (3 * k) = zI (pU P (3 * k)) ∧ M.1 (a + 2) (3 * k + 1) = zI (pU P (3 * k + 1)) ∧ M.1 (a + 2) (3 * k + 2) = zI (pU P (3 * k + 2))) ∧ ruOK (pU P (3 * k)) (pU P (3 * k + 1)) (pU P (3 * k + 2)) :=
  ⟨⟨hP.2.2.2.1 _ (by omega), hP.2.2.2.1 _ (by omega), hP.2.2.2.1 _ (by omega)⟩, hP.1.2.2.2.2.1 k hk⟩
theorem w_strength (hP : pW M a P) {i j : Nat} (hi : i < pH P) (hj : j < pH P) : f_X4_strengthOfHues a (nI i) (nI j) M = some (nI (str0 P (rho P i j)), M) := by
  have h10 := hP.1.2.1
  have h6 := hP.1.2.2.1
  unfold f_X4_strengthOfHues
  rw [if_pos hP.1.1, show (0 : Int32) = nI 0 from rfl]
  refine hr_for (σ := Nat) (fun f k c => f_X4_strengthOfHues_5 a (nI i) (nI j) f (nI c) (nI k) M) (pR P) (fun k c => c = cnt (fun k => rho P i j k && !isC P k) k ∧ exb (fun k => rho P i j k && isC P k) k = false) (fun r => r = some (nI (str0 P (rho P i j)), M)) ?_ ?_ FU 0 0 (Nat.zero_le _) (FU_ok (by omega)) ⟨rfl, rfl⟩
  · rintro f k c hk ⟨hc, he⟩
    obtain ⟨⟨r0, r1, r2⟩, ⟨ro1, ro2, ro3, ro4, ro5⟩⟩ := w_rule hP hk
    have hc6 : c ≤ k := by rw [hc]; exact cnt_le _ _
    have e5 : ∀ n, exb (fun k => rho P i j k && isC P k) (n + 1) = (exb (fun k => rho P i j k && isC P k) n || (rho P i j n && isC P n)) := fun _ => rfl
    have c5 : ∀ n, cnt (fun k => rho P i j k && !isC P k) (n + 1) = cnt (fun k => rho P i j k && !isC P k) n + (if (rho P i j n && !isC P n) = true then 1 else 0) := fun _ => rfl
    show f_X4_strengthOfHues_5 a (nI i) (nI j) (f + 1) (nI c) (nI k) M = _ ∨ ∃ c', f_X4_strengthOfHues_5 a (nI i) (nI j) (f + 1) (nI c) (nI k) M = f_X4_strengthOfHues_5 a (nI i) (nI j) f (nI c') (nI (k + 1)) M ∧ _
    rw [f_X4_strengthOfHues_5.eq_2, hP.2.1.2, if_neg (fun y => by have := (q_le (by omega) (by omega)).mp y; omega), q_lit 3, gO 3, q_lit 1, gO 1, q_lit 2, gO 2, q_mul, q_add, q_add, if_pos (q_in (by omega) (by omega)), if_pos (q_in (by omega) (by omega)), if_pos (q_in (by omega) (by omega)), q_cl (by omega), q_cl (by omega), q_cl (by omega), r0, r1, r2]
    by_cases z : pU P (3 * k) = 3
    · right
      obtain ⟨g1, g2, g3⟩ := ro5 z
      have hcure : isC P k = false := decide_eq_false (by omega)
      have hrho : rho P i j k = decide ((pU P (3 * k + 1) = i ∧ pU P (3 * k + 2) = j) ∨ (pU P (3 * k + 1) = j ∧ pU P (3 * k + 2) = i)) := by unfold rho; rw [if_pos z]
      have ex : exb (fun k => rho P i j k && isC P k) (k + 1) = false := by rw [e5, he, hcure, Bool.and_false]; rfl
      have hit : rho P i j k = true → ∃ c', f_X4_strengthOfHues_82 a (nI i) (nI j) (fun x3 x4 M => f_X4_strengthOfHues_5 a (nI i) (nI j) f x3 x4 M) (nI k) (nI c) M = f_X4_strengthOfHues_5 a (nI i) (nI j) f (nI c') (nI (k + 1)) M ∧ c' = cnt (fun k => rho P i j k && !isC P k) (k + 1) ∧ exb (fun k => rho P i j k && isC P k) (k + 1) = false := fun h => by
        unfold f_X4_strengthOfHues_82
        rw [show (1 : Int32) = nI 1 from rfl, q_add, q_add]
        exact ⟨c + 1, rfl, by rw [c5, ← hc, h, hcure, if_pos (by rfl)], ex⟩
      have no : rho P i j k = false → ∃ c', f_X4_strengthOfHues_86 a (nI i) (nI j) (fun x3 x4 M => f_X4_strengthOfHues_5 a (nI i) (nI j) f x3 x4 M) (nI k) (nI c) M = f_X4_strengthOfHues_5 a (nI i) (nI j) f (nI c') (nI (k + 1)) M ∧ c' = cnt (fun k => rho P i j k && !isC P k) (k + 1) ∧ exb (fun k => rho P i j k && isC P k) (k + 1) = false := fun h => by
        unfold f_X4_strengthOfHues_86
        rw [show (1 : Int32) = nI 1 from rfl, show (0 : Int32) = nI 0 from rfl, q_add, q_add, Nat.add_zero]
        exact ⟨c, rfl, by rw [c5, ← hc, h, Bool.false_and, if_neg (by simp)]; rfl, ex⟩
      have s70 : ¬ (pU P (3 * k + 1) = i ∧ pU P (3 * k + 2) = j) → ∃ c', f_X4_strengthOfHues_70 a (nI i) (nI j) (fun x3 x4 M => f_X4_strengthOfHues_5 a (nI i) (nI j) f x3 x4 M) (nI k) (zI (pU P (3 * k + 1))) (zI (pU P (3 * k + 2))) (nI c) M = f_X4_strengthOfHues_5 a (nI i) (nI j) f (nI c') (nI (k + 1)) M ∧ c' = cnt (fun k => rho P i j k && !isC P k) (k + 1) ∧ exb (fun k => rho P i j k && isC P k) (k + 1) = false := by
        intro n1
        unfold f_X4_strengthOfHues_70
        by_cases y1 : pU P (3 * k + 1) = j
        · rw [if_pos (show zI (pU P (3 * k + 1)) = nI j by rw [y1, q_nz])]
          by_cases y2 : pU P (3 * k + 2) = i
          · rw [if_pos (show zI (pU P (3 * k + 2)) = nI i by rw [y2, q_nz])]
            exact hit (by rw [hrho]; exact decide_eq_true (Or.inr ⟨y1, y2⟩))
          · rw [if_neg (show ¬ zI (pU P (3 * k + 2)) = nI i from fun w => y2 ((q_zneq (by omega) (by omega)).mp w))]
            exact no (by rw [hrho]; exact decide_eq_false (by rintro (w | w); exact n1 w; exact y2 w.2))
        · rw [if_neg (show ¬ zI (pU P (3 * k + 1)) = nI j from fun w => y1 ((q_zneq (by omega) (by omega)).mp w))]
          exact no (by rw [hrho]; exact decide_eq_false (by rintro (w | w); exact n1 w; exact y1 w.1))
      rw [if_pos (show zI (pU P (3 * k)) = nI 3 by rw [z]; rfl)]
      by_cases y1 : pU P (3 * k + 1) = i
      · rw [if_pos (show zI (pU P (3 * k + 1)) = nI i by rw [y1, q_nz])]
        by_cases y2 : pU P (3 * k + 2) = j
        · rw [if_pos (show zI (pU P (3 * k + 2)) = nI j by rw [y2, q_nz])]
          exact hit (by rw [hrho]; exact decide_eq_true (Or.inl ⟨y1, y2⟩))
        · rw [if_neg (show ¬ zI (pU P (3 * k + 2)) = nI j from fun w => y2 ((q_zneq (by omega) (by omega)).mp w))]
          exact s70 (fun w => y2 w.2)
      · rw [if_neg (show ¬ zI (pU P (3 * k + 1)) = nI i from fun w => y1 ((q_zneq (by omega) (by omega)).mp w))]
        exact s70 (fun w => y1 w.1)
    · have hrho : rho P i j k = hold1 P (pU P (3 * k)) (pU P (3 * k + 1)) (pU P (3 * k + 2)) i j := by unfold rho; rw [if_neg z]
      rw [if_neg (show ¬ zI (pU P (3 * k)) = nI 3 from fun w => z (by have := (q_zneq (b := 3) (by omega) (by decide)).mp w; omega)), w_wouldHold hP hi hj ro1 ro2 ro3, q_bd_some, ← hrho, q_lit 4, gO 4, q_add]
      cases hb : rho P i j k with
      | false =>
        right
        rw [if_pos (show bI false = 0 from rfl)]
        exact ⟨c, rfl, by rw [c5, ← hc, hb, Bool.false_and, if_neg (by simp)]; rfl, by rw [e5, he, hb]; rfl⟩
      | true =>
        rw [if_neg (show ¬ bI true = 0 by decide)]
        by_cases y : pU P (3 * k) = 4
        · left
          rw [if_pos (show zI (pU P (3 * k)) = nI 4 by rw [y]; rfl)]
          have : str0 P (rho P i j) = 0 := by
            unfold str0
            rw [if_pos (exb_iff.mpr ⟨k, hk, by rw [hb, Bool.true_and]; exact decide_eq_true y⟩)]
          rw [this]
          rfl
        · right
          rw [if_neg (show ¬ zI (pU P (3 * k)) = nI 4 from fun w => y (by have := (q_zneq (b := 4) (by omega) (by decide)).mp w; omega)), q_add]
          have hcure : isC P k = false := decide_eq_false y
          exact ⟨c + 1, rfl, by rw [c5, ← hc, hb, hcure, if_pos (by rfl)], by rw [e5, he, hb, hcure]; rfl⟩
  · rintro f c ⟨hc, he⟩
    show f_X4_strengthOfHues_5 a (nI i) (nI j) (f + 1) (nI c) (nI (pR P)) M = _
    rw [f_X4_strengthOfHues_5.eq_2, hP.2.1.2, if_pos (Int32.le_refl _), hc]
    unfold str0
    rw [he, if_neg (by simp)]
end PALC
