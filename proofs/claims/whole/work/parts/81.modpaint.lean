/-! REPAINTED, by the model -/
def fI : Option Nat → Int32
  | none => nI 1000000
  | some a => nI a
theorem fI_lt {x : Option Nat} (h : ∀ a, x = some a → a ≤ 2430) : (fI x < nI 1000000) = (x.isSome = true) := propext (by
  cases x with
  | none =>
    show nI 1000000 < nI 1000000 ↔ _
    rw [q_lt (by omega) (by omega)]
    simp
  | some a =>
    have := h a rfl
    show nI a < nI 1000000 ↔ _
    rw [q_lt (by omega) (by omega)]
    simp; omega)
def mnO (x y : Option Nat) : Option Nat := match x with
  | none => y
  | some a => match y with
    | none => some a
    | some b => if b < a then some b else some a
theorem s_lesser (M : PM) {x y : Option Nat} (hx : ∀ a, x = some a → a ≤ 2430) (hy : ∀ a, y = some a → a ≤ 2430) : f_X11_lesser (fI x) (fI y) M = some (fI (mnO x y), M) := by
  unfold f_X11_lesser mnO
  cases x with
  | none =>
    cases y with
    | none => rw [if_pos (Int32.le_refl _)]
    | some b =>
      have := hy b rfl
      rw [if_pos (show fI (some b) ≤ fI none from (q_le (a := b) (b := 1000000) (by omega) (by omega)).mpr (by omega))]
  | some a =>
    have := hx a rfl
    cases y with
    | none => rw [if_neg (show ¬ fI none ≤ fI (some a) from fun z => by have := (q_le (a := 1000000) (b := a) (by omega) (by omega)).mp z; omega)]
    | some b =>
      have := hy b rfl
      by_cases e : b ≤ a
      · rw [if_pos (show fI (some b) ≤ fI (some a) from (q_le (a := b) (b := a) (by omega) (by omega)).mpr e)]
        dsimp only
        by_cases e2 : b < a
        · rw [if_pos e2]
        · rw [if_neg e2, show b = a by omega]
      · rw [if_neg (show ¬ fI (some b) ≤ fI (some a) from fun z => e ((q_le (a := b) (b := a) (by omega) (by omega)).mp z))]
        dsimp only
        rw [if_neg (by omega)]
theorem lsO_s (f : Nat → Option Nat) (n : Nat) : lsO f (n + 1) = mnO (lsO f n) (f n) := rfl
theorem cs_s (P : Pal) (R : Rol) (d h : Nat) : cs P R (d + 1) h = match lsO (fun j => if foe P h j then none else cs P R d j) (pH P) with
    | none => none
    | some b => some (cq P R (oN R - 1 - (d + 1)) h + b) := rfl
section MOD
variable {q g : Nat} {P : Pal} {R : Rol}
theorem s_paintCost {M : PM} (hB : mB M q P g R) (hg : gOK P R) {k h : Nat} (hk : k < oN R) (hh : h < pH P) : f_X11_paintCost (nI k) (nI h) M = some (nI (cq P R k h), M) := by
  have hn := hg.1.2.1
  have h10 := hg.1.1.1
  have lb := (hg.2 k hk).2
  have eb : zI (oB R k) = nI (oB R k).toNat := by rw [q_nz, Int.toNat_of_nonneg (by omega)]
  have hs := hsR_n hg hk
  have hp := pP_le hg.1.1
  unfold f_X11_paintCost
  let u : Nat → Nat := fun p => ((pP P (3 * h + p) : Int) - (pP P (3 * hsR R k + p) : Int)).natAbs
  refine hr_for (σ := Int32) (fun f p x => f_X11_paintCost_5 (nI k) (nI h) f x (nI p) M) 3 (fun p x => x = nI (sumN u p)) (fun r => r = some (nI (cq P R k h), M)) ?_ ?_ FU 0 0 (Nat.zero_le _) (FU_ok (by omega)) rfl
  · rintro f p x hp3 rfl
    right
    refine ⟨_, ?_, rfl⟩
    have p1 := hp (3 * h + p)
    have p2 := hp (3 * hsR R k + p)
    show f_X11_paintCost_5 (nI k) (nI h) (f + 1) _ (nI p) M = _
    rw [f_X11_paintCost_5.eq_2]
    simp (disch := omega) only [q_lit, q_m1, q_m2, q_m1000, q_add, q_mul, q_cl, q_le, q_lt, q_eq, q_in, q_bd_some, eq_self, if_true, if_false, q_b0, q_b1, q_b01, q_bt, q_bf, q_ft, q_tf, Nat.mul_zero, Nat.add_zero, Nat.zero_add, or_true, true_or, not_true_eq_false, not_false_eq_true, reduceCtorEq, show ¬ 3 ≤ p by omega, s_part11 hB.1.1 hB.1.2.1.1 hh hp3, s_hueOf hB.2, hs.1, s_part11 hB.1.1 hB.1.2.1.1 hs.2 hp3, q_nsub, s_size]
    rfl
  · rintro f x rfl
    show f_X11_paintCost_5 (nI k) (nI h) (f + 1) _ (nI 3) M = _
    rw [f_X11_paintCost_5.eq_2]
    simp (disch := omega) only [q_lit, q_m1, q_m2, q_m1000, q_add, q_mul, q_cl, q_le, q_lt, q_eq, q_in, q_bd_some, eq_self, if_true, if_false, q_b0, q_b1, q_b01, q_bt, q_bf, q_ft, q_tf, Nat.mul_zero, Nat.add_zero, Nat.zero_add, or_true, true_or, not_true_eq_false, not_false_eq_true, reduceCtorEq, Nat.le_refl, s_areaOf hB.2, eb]
    rfl
def mkF (M : PM) (P : Pal) (R : Rol) (k0 : Nat) : Prop := ∀ k, k0 ≤ k → k < oN R → ∀ h, h < pH P → M.1 298 (10 * k + h) = fI (cs P R (oN R - 1 - k) h)
theorem mB.w298 {M0 M : PM} (h : mB M0 q P g R) (hf : hr_fr [(298, 0)] M0 M) : mB M q P g R := h.fr' hf (fun _ => rfl) rfl rfl (fun _ => rfl) (fun _ => rfl) rfl
theorem s_findPaint68 {M : PM} (hB : mB M q P g R) (hg : gOK P R) {k h : Nat} (hk : k < oN R) (hh : h < pH P) (hm : mkF M P R (k + 1)) (k35 : Int32 → Int32 → PM → Option (Unit × PM)) (k41 : Int32 → Int32 → Int32 → PM → Option (Unit × PM)) : f_X11_findPaint_68 k35 k41 FU (nI (oN R)) (nI k) (nI h) (if k = oN R - 1 then nI 0 else nI 1000000) (nI 0) M = k41 (nI (oN R)) (nI k) (nI (h + 1)) (hr_si M 298 (10 * k + h) (fI (cs P R (oN R - 1 - k) h))) := by
  have hn := hg.1.2.1
  have h10 := hg.1.1.1
  have cl := cq_le hg hk h
  by_cases hl : k = oN R - 1
  · have ed : cs P R (oN R - 1 - k) h = some (cq P R k h) := by
      rw [show oN R - 1 - k = 0 by omega]
      unfold cs
      rw [← hl]
    have e126 : f_X11_findPaint_126 k35 k41 (nI (oN R)) (nI k) (nI h) (nI 0) M = k41 (nI (oN R)) (nI k) (nI (h + 1)) (hr_si M 298 (10 * k + h) (fI (cs P R (oN R - 1 - k) h))) := by
      unfold f_X11_findPaint_126
      rw [ed]
      simp (disch := omega) only [q_lit, q_m1, q_m2, q_m1000, q_add, q_mul, q_cl, q_le, q_lt, q_eq, q_in, q_bd_some, eq_self, if_true, if_false, q_b0, q_b1, q_b01, q_bt, q_bf, q_ft, q_tf, Nat.mul_zero, Nat.add_zero, Nat.zero_add, or_true, true_or, not_true_eq_false, not_false_eq_true, reduceCtorEq, show 0 < 1000000 by omega, s_paintCost hB hg hk hh]
      rfl
    rw [if_pos hl]
    show f_X11_findPaint_68 k35 k41 (3999 + 1) _ _ _ _ (nI 0) M = _
    rw [f_X11_findPaint_68.eq_2]
    simp (disch := omega) only [q_lit, q_m1, q_m2, q_m1000, q_add, q_mul, q_cl, q_le, q_lt, q_eq, q_in, q_bd_some, eq_self, if_true, if_false, q_b0, q_b1, q_b01, q_bt, q_bf, q_ft, q_tf, Nat.mul_zero, Nat.add_zero, Nat.zero_add, or_true, true_or, not_true_eq_false, not_false_eq_true, reduceCtorEq, hB.1.2.1.2, q_sub, show oN R - 1 ≤ k by omega]
    rw [e126, ite_self]
  · rw [if_neg hl]
    have el : ∀ j a, (if foe P h j then none else cs P R (oN R - 1 - (k + 1)) j) = some a → a ≤ 2430 := fun j a hj => by
      split at hj
      · cases hj
      · exact Nat.le_trans (cs_le hg (by omega) j a hj) (by omega)
    have ela : ∀ m a, lsO (fun j => if foe P h j then none else cs P R (oN R - 1 - (k + 1)) j) m = some a → a ≤ 2430 := fun m a ha => lsO_le (b := 2430) (fun j c _ hj => el j c hj) ha
    refine hr_for (σ := Int32) (fun f j x => f_X11_findPaint_68 k35 k41 f (nI (oN R)) (nI k) (nI h) x (nI j) M) (pH P) (fun j x => x = fI (lsO (fun j => if foe P h j then none else cs P R (oN R - 1 - (k + 1)) j) j)) (fun r => r = k41 (nI (oN R)) (nI k) (nI (h + 1)) (hr_si M 298 (10 * k + h) (fI (cs P R (oN R - 1 - k) h)))) ?_ ?_ FU 0 _ (Nat.zero_le _) (FU_ok (by omega)) rfl
    · rintro f j x hj rfl
      right
      have e8 := hm (k + 1) (Nat.le_refl _) (by omega) j hj
      show ∃ s', f_X11_findPaint_68 k35 k41 (f + 1) (nI (oN R)) (nI k) (nI h) _ (nI j) M = f_X11_findPaint_68 k35 k41 f (nI (oN R)) (nI k) (nI h) s' (nI (j + 1)) M ∧ _
      rw [f_X11_findPaint_68.eq_2]
      simp (disch := omega) only [q_lit, q_m1, q_m2, q_m1000, q_add, q_mul, q_cl, q_le, q_lt, q_eq, q_in, q_bd_some, eq_self, if_true, if_false, q_b0, q_b1, q_b01, q_bt, q_bf, q_ft, q_tf, Nat.mul_zero, Nat.add_zero, Nat.zero_add, or_true, true_or, not_true_eq_false, not_false_eq_true, reduceCtorEq, hB.1.2.1.2, show ¬ pH P ≤ j by omega, q_sub, show ¬ oN R - 1 ≤ k by omega, s_clash hB.1 hh hj, e8]
      rw [lsO_s]
      cases hfo : foe P h j with
      | true =>
        rw [if_neg (by simp), if_pos rfl]
        refine ⟨_, rfl, ?_⟩
        cases lsO (fun j => if foe P h j then none else cs P R (oN R - 1 - (k + 1)) j) j <;> rfl
      | false =>
        have ecs : ∀ a, cs P R (oN R - 1 - (k + 1)) j = some a → a ≤ 2430 := fun a ha => el j a (by rw [hfo]; exact ha)
        rw [if_pos rfl, s_lesser M (ela j) ecs, q_bd_some, if_neg (by simp)]
        exact ⟨_, rfl, rfl⟩
    · rintro f x rfl
      show f_X11_findPaint_68 k35 k41 (f + 1) (nI (oN R)) (nI k) (nI h) _ (nI (pH P)) M = _
      rw [f_X11_findPaint_68.eq_2]
      have ed : cs P R (oN R - 1 - k) h = match lsO (fun j => if foe P h j then none else cs P R (oN R - 1 - (k + 1)) j) (pH P) with
          | none => none
          | some b => some (cq P R k h + b) := by
        rw [show oN R - 1 - k = (oN R - 1 - (k + 1)) + 1 by omega, cs_s, show oN R - 1 - (oN R - 1 - (k + 1) + 1) = k by omega]
      have hlt := fI_lt (ela (pH P))
      rw [ed]
      unfold f_X11_findPaint_126
      simp (disch := omega) only [q_lit, q_m1, q_m2, q_m1000, q_add, q_mul, q_cl, q_le, q_lt, q_eq, q_in, q_bd_some, eq_self, if_true, if_false, q_b0, q_b1, q_b01, q_bt, q_bf, q_ft, q_tf, Nat.mul_zero, Nat.add_zero, Nat.zero_add, or_true, true_or, not_true_eq_false, not_false_eq_true, reduceCtorEq, hB.1.2.1.2, Nat.le_refl, hlt]
      cases hq : lsO (fun j => if foe P h j then none else cs P R (oN R - 1 - (k + 1)) j) (pH P) with
      | none =>
        rw [if_neg (by simp)]
        simp (disch := omega) only [q_lit, q_m1, q_m2, q_m1000, q_add, q_mul, q_cl, q_le, q_lt, q_eq, q_in, q_bd_some, eq_self, if_true, if_false, q_b0, q_b1, q_b01, q_bt, q_bf, q_ft, q_tf, Nat.mul_zero, Nat.add_zero, Nat.zero_add, or_true, true_or, not_true_eq_false, not_false_eq_true, reduceCtorEq]
        rfl
      | some b =>
        rw [if_pos (by simp), s_paintCost hB hg hk hh, q_bd_some, show fI (some b) = nI b from rfl, q_add]
        simp (disch := omega) only [q_lit, q_m1, q_m2, q_m1000, q_add, q_mul, q_cl, q_le, q_lt, q_eq, q_in, q_bd_some, eq_self, if_true, if_false, q_b0, q_b1, q_b01, q_bt, q_bf, q_ft, q_tf, Nat.mul_zero, Nat.add_zero, Nat.zero_add, or_true, true_or, not_true_eq_false, not_false_eq_true, reduceCtorEq]
        rfl
theorem s_findPaint41 {M0 M : PM} (hB : mB M0 q P g R) (hg : gOK P R) {k : Nat} (hk : k < oN R) (hf0 : hr_fr [(298, 0)] M0 M) (hm : mkF M P R (k + 1)) (k35 : Int32 → Int32 → PM → Option (Unit × PM)) : ∃ M', f_X11_findPaint_41 k35 FU (nI (oN R)) (nI k) (nI 0) M = k35 (nI (oN R)) (nI k + zI (-1)) M' ∧ mkF M' P R k ∧ hr_fr [(298, 0)] M0 M' := by
  have hn := hg.1.2.1
  have h10 := hg.1.1.1
  refine hr_for (σ := PM) (fun f h N => f_X11_findPaint_41 k35 f (nI (oN R)) (nI k) (nI h) N) (pH P) (fun h N => (mkF N P R (k + 1) ∧ ∀ j, j < h → N.1 298 (10 * k + j) = fI (cs P R (oN R - 1 - k) j)) ∧ hr_fr [(298, 0)] M0 N) (fun r => ∃ M', r = k35 (nI (oN R)) (nI k + zI (-1)) M' ∧ mkF M' P R k ∧ hr_fr [(298, 0)] M0 M') ?_ ?_ FU 0 M (Nat.zero_le _) (FU_ok (by omega)) ⟨⟨hm, fun j hj => by omega⟩, hf0⟩
  · rintro f h N hh ⟨⟨hm, hj⟩, hf⟩
    right
    have hBN := hB.w298 hf
    have e := s_findPaint68 hBN hg hk hh hm k35 (fun x1 x2 x3 M => f_X11_findPaint_41 k35 f x1 x2 x3 M)
    refine ⟨hr_si N 298 (10 * k + h) (fI (cs P R (oN R - 1 - k) h)), ?_, ⟨?_, ?_⟩, hr_fr.si rfl hf⟩
    · show f_X11_findPaint_41 k35 (f + 1) (nI (oN R)) (nI k) (nI h) N = _
      rw [f_X11_findPaint_41.eq_2]
      simp (disch := omega) only [q_lit, q_m1, q_m2, q_m1000, q_add, q_mul, q_cl, q_le, q_lt, q_eq, q_in, q_bd_some, eq_self, if_true, if_false, q_b0, q_b1, q_b01, q_bt, q_bf, q_ft, q_tf, Nat.mul_zero, Nat.add_zero, Nat.zero_add, or_true, true_or, not_true_eq_false, not_false_eq_true, reduceCtorEq, hBN.1.2.1.2, show ¬ pH P ≤ h by omega, q_sub]
      by_cases hl : k = oN R - 1
      · rw [if_pos hl] at e ⊢
        exact e
      · rw [if_neg hl] at e ⊢
        exact e
    · intro t ht ht2 j hj2
      rw [si_same, if_neg (by omega)]
      exact hm t ht ht2 j hj2
    · intro j hj2
      rw [si_same]
      by_cases ej : j = h
      · rw [ej, if_pos rfl]
      · rw [if_neg (by omega)]; exact hj j (by omega)
  · rintro f N ⟨⟨hm, hj⟩, hf⟩
    have hBN := hB.w298 hf
    show ∃ M', f_X11_findPaint_41 k35 (f + 1) (nI (oN R)) (nI k) (nI (pH P)) N = _ ∧ _
    rw [f_X11_findPaint_41.eq_2]
    simp (disch := omega) only [q_lit, q_m1, q_m2, q_m1000, q_add, q_mul, q_cl, q_le, q_lt, q_eq, q_in, q_bd_some, eq_self, if_true, if_false, q_b0, q_b1, q_b01, q_bt, q_bf, q_ft, q_tf, Nat.mul_zero, Nat.add_zero, Nat.zero_add, or_true, true_or, not_true_eq_false, not_false_eq_true, reduceCtorEq, hBN.1.2.1.2, Nat.le_refl]
    refine ⟨N, rfl, ?_, hf⟩
    intro t ht ht2 j hj2
    by_cases e : t = k
    · rw [e]; exact hj j hj2
    · exact hm t (by omega) ht2 j hj2
theorem s_findPaint {M0 : PM} (hB : mB M0 q P g R) (hg : gOK P R) : ∃ M', f_X11_findPaint M0 = some ((), M') ∧ mkF M' P R 0 ∧ (oN R = 0 → ∀ h, h < 10 → M'.1 298 h = nI 0) ∧ hr_fr [(298, 0)] M0 M' := by
  have hn := hg.1.2.1
  have h10 := hg.1.1.1
  have p35 : ∀ M, hr_fr [(298, 0)] M0 M → (oN R = 0 → ∀ h, h < 10 → M.1 298 h = nI 0) → ∃ M', f_X11_findPaint_35 FU (nI (oN R)) (nI (oN R) - nI 1) M = some ((), M') ∧ mkF M' P R 0 ∧ (oN R = 0 → ∀ h, h < 10 → M'.1 298 h = nI 0) ∧ hr_fr [(298, 0)] M0 M' := by
    intro M hf0 hz0
    rw [q_nsub, show ((oN R : Nat) : Int) - (1 : Nat) = (oN R : Int) - 1 - (0 : Nat) by omega]
    refine hr_for (σ := PM) (fun f j N => f_X11_findPaint_35 f (nI (oN R)) (zI ((oN R : Int) - 1 - j)) N) (oN R) (fun j N => (mkF N P R (oN R - j) ∧ (oN R = 0 → ∀ h, h < 10 → N.1 298 h = nI 0)) ∧ hr_fr [(298, 0)] M0 N) (fun r => ∃ M', r = some ((), M') ∧ mkF M' P R 0 ∧ (oN R = 0 → ∀ h, h < 10 → M'.1 298 h = nI 0) ∧ hr_fr [(298, 0)] M0 M') ?_ ?_ FU 0 M (Nat.zero_le _) (FU_ok (by omega)) ⟨⟨fun k h1 h2 => by omega, hz0⟩, hf0⟩
    · rintro f j N hj ⟨⟨hm, hz⟩, hf⟩
      right
      have ei : zI ((oN R : Int) - 1 - j) = nI (oN R - 1 - j) := by rw [q_nz]; congr 1; omega
      have en : nI (oN R - 1 - j) + zI (-1) = zI ((oN R : Int) - 1 - (j + 1 : Nat)) := by rw [q_nzadd]; congr 1; omega
      obtain ⟨N', g1, g2, g3⟩ := s_findPaint41 hB hg (show oN R - 1 - j < oN R by omega) hf (by rw [show oN R - 1 - j + 1 = oN R - j by omega]; exact hm) (fun x1 x2 M => f_X11_findPaint_35 f x1 x2 M)
      show ∃ s', f_X11_findPaint_35 (f + 1) (nI (oN R)) (zI ((oN R : Int) - 1 - j)) N = f_X11_findPaint_35 f (nI (oN R)) (zI ((oN R : Int) - 1 - (j + 1 : Nat))) s' ∧ _
      rw [f_X11_findPaint_35.eq_2, ei, if_neg (show ¬ nI (oN R - 1 - j) < 0 from nI_pos (by omega)), show (0 : Int32) = nI 0 from rfl, g1, en]
      exact ⟨N', rfl, ⟨by rw [show oN R - (j + 1) = oN R - 1 - j by omega]; exact g2, fun z => by omega⟩, g3⟩
    · rintro f N ⟨⟨hm, hz⟩, hf⟩
      rw [Nat.sub_self] at hm
      show ∃ M', f_X11_findPaint_35 (f + 1) (nI (oN R)) (zI ((oN R : Int) - 1 - (oN R : Nat))) N = _ ∧ _
      rw [f_X11_findPaint_35.eq_2, if_pos (show zI ((oN R : Int) - 1 - (oN R : Nat)) < 0 by
        show _ < nI 0
        rw [q_znlt (by omega) (by omega)]
        omega)]
      exact ⟨N, rfl, hm, hz, hf⟩
  unfold f_X11_findPaint
  rw [s_pictures hB.2, q_bd_some]
  refine hr_for (σ := PM) (fun f h N => f_X11_findPaint_7 f (nI (oN R)) (nI h) N) 10 (fun h N => (∀ j, j < h → N.1 298 (10 * oN R + j) = nI 0) ∧ hr_fr [(298, 0)] M0 N) (fun r => ∃ M', r = some ((), M') ∧ mkF M' P R 0 ∧ (oN R = 0 → ∀ h, h < 10 → M'.1 298 h = nI 0) ∧ hr_fr [(298, 0)] M0 M') ?_ ?_ FU 0 M0 (Nat.zero_le _) (FU_ok (by omega)) ⟨fun j hj => by omega, hr_fr.rf _ _⟩
  · rintro f h N hh ⟨hj, hf⟩
    right
    show ∃ s', f_X11_findPaint_7 (f + 1) (nI (oN R)) (nI h) N = f_X11_findPaint_7 f (nI (oN R)) (nI (h + 1)) s' ∧ _
    rw [f_X11_findPaint_7.eq_2]
    simp (disch := omega) only [q_lit, q_m1, q_m2, q_m1000, q_add, q_mul, q_cl, q_le, q_lt, q_eq, q_in, q_bd_some, eq_self, if_true, if_false, q_b0, q_b1, q_b01, q_bt, q_bf, q_ft, q_tf, Nat.mul_zero, Nat.add_zero, Nat.zero_add, or_true, true_or, not_true_eq_false, not_false_eq_true, reduceCtorEq, show ¬ 10 ≤ h by omega]
    refine ⟨_, rfl, ?_, hr_fr.si rfl hf⟩
    intro j hj2
    rw [si_same]
    by_cases e : j = h
    · rw [e, if_pos rfl]
    · rw [if_neg (by omega)]; exact hj j (by omega)
  · rintro f N ⟨hj, hf⟩
    show ∃ M', f_X11_findPaint_7 (f + 1) (nI (oN R)) (nI 10) N = _ ∧ _
    rw [f_X11_findPaint_7.eq_2]
    simp (disch := omega) only [q_lit, q_m1, q_m2, q_m1000, q_add, q_mul, q_cl, q_le, q_lt, q_eq, q_in, q_bd_some, eq_self, if_true, if_false, q_b0, q_b1, q_b01, q_bt, q_bf, q_ft, q_tf, Nat.mul_zero, Nat.add_zero, Nat.zero_add, or_true, true_or, not_true_eq_false, not_false_eq_true, reduceCtorEq, Nat.le_refl]
    exact p35 N hf (fun z h hh => by have := hj h hh; rw [z, Nat.mul_zero, Nat.zero_add] at this; exact this)
end MOD
