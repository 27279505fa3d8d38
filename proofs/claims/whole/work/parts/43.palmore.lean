/-! the class's palette, asked for more -/
theorem s_bitCount {n : Nat} (h : n < 1024) (M : PM) : f_J6_bitCount_0f7a4 (nI n) M = some (nI (popc n), M) := by
  have e : ∀ n : Nat, n < 1024 → ((f_J6_bitCount_0f7a4 (nI n) ((fun _ _ => 0), (fun _ _ => 0), 0)).map (fun q => q.1)) = some (nI (popc n)) := by decide +kernel
  have h1 := e n h
  unfold f_J6_bitCount_0f7a4 at h1 ⊢
  exact congrArg (fun v => some (v, M)) (Option.some.inj h1)
theorem meaC_le {r y b : Nat} (hr : r ≤ 9) (hy : y ≤ 9) (hb : b ≤ 9) (s x : Int) : meaC r y b s x ≤ 27 := by
  unfold meaC
  split
  · omega
  · split
    · omega
    · split <;> omega
theorem holdA {P : Pal} (hP : pOK P) {k h r y b : Nat} (hk : k < pR P) (hr : r ≤ 9) (hy : y ≤ 9) (hb : b ≤ 9) :
    ((((decide ((pU P (3 * k) = 1 ∨ pU P (3 * k) = 2) ∧ pU P (3 * k + 1) = (r / 10 : Nat)) && tch (pU P (3 * k)) (pU P (3 * k + 1)) (pU P (3 * k + 2)) (mea P h (pU P (3 * k)) (pU P (3 * k + 1))) (r % 10 : Nat)) = true ∨ (decide ((pU P (3 * k) = 1 ∨ pU P (3 * k) = 2) ∧ pU P (3 * k + 1) = ((10 + y) / 10 : Nat)) && tch (pU P (3 * k)) (pU P (3 * k + 1)) (pU P (3 * k + 2)) (mea P h (pU P (3 * k)) (pU P (3 * k + 1))) ((10 + y) % 10 : Nat)) = true) ∨ (decide ((pU P (3 * k) = 1 ∨ pU P (3 * k) = 2) ∧ pU P (3 * k + 1) = ((20 + b) / 10 : Nat)) && tch (pU P (3 * k)) (pU P (3 * k + 1)) (pU P (3 * k + 2)) (mea P h (pU P (3 * k)) (pU P (3 * k + 1))) ((20 + b) % 10 : Nat)) = true) ∨ (decide (pU P (3 * k) = 0) && tch (pU P (3 * k)) (pU P (3 * k + 1)) (pU P (3 * k + 2)) (mea P h (pU P (3 * k)) (pU P (3 * k + 1))) (r + y + b : Nat)) = true) ↔ rhoC P h r y b k = true ∧ isC P k = false := by
  have hq := hP.2.2.2.1 k hk
  unfold rhoC isC
  generalize pU P (3 * k) = s at *
  generalize pU P (3 * k + 1) = x at *
  generalize pU P (3 * k + 2) = z at *
  obtain ⟨h1, h2, h3, h4, h5⟩ := hq
  rw [show r / 10 = 0 by omega, show (10 + y) / 10 = 1 by omega, show (20 + b) / 10 = 2 by omega, show r % 10 = r by omega, show (10 + y) % 10 = y by omega, show (20 + b) % 10 = b by omega]
  have e : s = 0 ∨ s = 1 ∨ s = 2 ∨ s = 3 ∨ s = 4 := by omega
  rcases e with rfl | rfl | rfl | rfl | rfl
  · simp [meaC]
  · have hx : x = 0 ∨ x = 1 ∨ x = 2 := by have := h4 (Or.inl rfl); omega
    rcases hx with rfl | rfl | rfl <;> simp [meaC]
  · have hx : x = 0 ∨ x = 1 ∨ x = 2 := by have := h4 (Or.inr (Or.inl rfl)); omega
    rcases hx with rfl | rfl | rfl <;> simp [meaC]
  · simp [meaC]
  · simp [meaC]
theorem holdC {P : Pal} (hP : pOK P) {k h r y b : Nat} (hk : k < pR P) (hr : r ≤ 9) (hy : y ≤ 9) (hb : b ≤ 9) :
    (((decide (pU P (3 * k) = 4 ∧ pU P (3 * k + 1) = (r / 10 : Nat)) && tch (pU P (3 * k)) (pU P (3 * k + 1)) (pU P (3 * k + 2)) (mea P h (pU P (3 * k)) (pU P (3 * k + 1))) (r % 10 : Nat)) = true ∨ (decide (pU P (3 * k) = 4 ∧ pU P (3 * k + 1) = ((10 + y) / 10 : Nat)) && tch (pU P (3 * k)) (pU P (3 * k + 1)) (pU P (3 * k + 2)) (mea P h (pU P (3 * k)) (pU P (3 * k + 1))) ((10 + y) % 10 : Nat)) = true) ∨ (decide (pU P (3 * k) = 4 ∧ pU P (3 * k + 1) = ((20 + b) / 10 : Nat)) && tch (pU P (3 * k)) (pU P (3 * k + 1)) (pU P (3 * k + 2)) (mea P h (pU P (3 * k)) (pU P (3 * k + 1))) ((20 + b) % 10 : Nat)) = true) ↔ rhoC P h r y b k = true ∧ isC P k = true := by
  have hq := hP.2.2.2.1 k hk
  unfold rhoC isC
  generalize pU P (3 * k) = s at *
  generalize pU P (3 * k + 1) = x at *
  generalize pU P (3 * k + 2) = z at *
  obtain ⟨h1, h2, h3, h4, h5⟩ := hq
  rw [show r / 10 = 0 by omega, show (10 + y) / 10 = 1 by omega, show (20 + b) / 10 = 2 by omega, show r % 10 = r by omega, show (10 + y) % 10 = y by omega, show (20 + b) % 10 = b by omega]
  by_cases hs : s = 4
  · subst hs
    have hx : x = 0 ∨ x = 1 ∨ x = 2 := by have := h4 (Or.inr (Or.inr rfl)); omega
    rcases hx with rfl | rfl | rfl <;> simp [meaC]
  · simp [hs]
theorem foesC_eq {P : Pal} (hP : pOK P) {r y b : Nat} (hr : r ≤ 9) (hy : y ≤ 9) (hb : b ≤ 9) : bd (((hbp P r ||| hbp P (10 + y)) ||| hbp P (20 + b)) ||| hbt P (r + y + b)) ((cbp P r ||| cbp P (10 + y)) ||| cbp P (20 + b)) = foesC P r y b := by
  apply Nat.eq_of_testBit_eq
  intro i
  unfold hbp hbt cbp foesC
  simp only [bd_bit, Nat.testBit_or, bset_bit]
  by_cases hi : i < pH P
  · rw [decide_eq_true hi]
    simp only [Bool.true_and]
    rw [Bool.eq_iff_iff]
    simp only [Bool.and_eq_true, Bool.or_eq_true, Bool.not_eq_true', Bool.or_eq_false_iff, exb_iff, exb_no, decide_eq_true_eq, strC, str0_pos]
    constructor
    · rintro ⟨h1, h2⟩
      constructor
      · have : ∃ k, k < pR P ∧ (rhoC P i r y b k = true ∧ isC P k = false) := by
          rcases h1 with ((⟨k, hk, h⟩ | ⟨k, hk, h⟩) | ⟨k, hk, h⟩) | ⟨k, hk, h⟩
          · exact ⟨k, hk, (holdA hP hk hr hy hb).mp (Or.inl (Or.inl (Or.inl (by simpa using h))))⟩
          · exact ⟨k, hk, (holdA hP hk hr hy hb).mp (Or.inl (Or.inl (Or.inr (by simpa using h))))⟩
          · exact ⟨k, hk, (holdA hP hk hr hy hb).mp (Or.inl (Or.inr (by simpa using h)))⟩
          · exact ⟨k, hk, (holdA hP hk hr hy hb).mp (Or.inr (by simpa using h))⟩
        exact this
      · intro k hk hq
        cases hc : isC P k with
        | false => rfl
        | true =>
          exfalso
          rcases (holdC hP hk hr hy hb).mpr ⟨hq, hc⟩ with (h | h) | h
          · rw [h2.1.1 k hk] at h; cases h
          · rw [h2.1.2 k hk] at h; cases h
          · rw [h2.2 k hk] at h; cases h
    · rintro ⟨⟨k, hk, h1, h2⟩, h3⟩
      constructor
      · rcases (holdA hP hk hr hy hb).mpr ⟨h1, h2⟩ with ((h | h) | h) | h
        · exact Or.inl (Or.inl (Or.inl ⟨k, hk, by simpa using h⟩))
        · exact Or.inl (Or.inl (Or.inr ⟨k, hk, by simpa using h⟩))
        · exact Or.inl (Or.inr ⟨k, hk, by simpa using h⟩)
        · exact Or.inr ⟨k, hk, by simpa using h⟩
      · have no : ∀ j, j < pR P → ∀ b0 : Bool, (b0 = true → rhoC P i r y b j = true ∧ isC P j = true) → b0 = false := by
          intro j hj b0 hb0
          cases b0 with
          | false => rfl
          | true =>
            have := hb0 rfl
            rw [h3 j hj this.1] at this
            exact absurd this.2 (by simp)
        refine ⟨⟨fun j hj => no j hj _ (fun h => (holdC hP hj hr hy hb).mp (Or.inl (Or.inl h))), fun j hj => no j hj _ (fun h => (holdC hP hj hr hy hb).mp (Or.inl (Or.inr h)))⟩, fun j hj => no j hj _ (fun h => (holdC hP hj hr hy hb).mp (Or.inr h))⟩
  · rw [decide_eq_false hi]
    simp
section PALF
variable {M : PM} {a : Nat} {P : Pal}
theorem s_foesOfColour (hP : rP M a P) {r y b : Nat} (hr : r ≤ 9) (hy : y ≤ 9) (hb : b ≤ 9) : f_X4_foesOfColour a (nI r) (nI y) (nI b) M = some (nI (foesC P r y b), M) := by
  have g6 := hP.2.2.2.2.1.1
  have g7 := hP.2.2.2.2.1.2.1
  have g8 := hP.2.2.2.2.1.2.2
  unfold f_X4_foesOfColour
  simp (disch := omega) only [q_lit, q_m1, q_m2, q_m1000, q_add, q_mul, q_cl, q_le, q_lt, q_eq, q_in, q_bd_some, eq_self, if_true, if_false, q_b0, q_b1, q_b01, q_bt, q_bf, q_ft, q_tf, Nat.mul_zero, Nat.add_zero, Nat.zero_add, or_true, true_or, not_true_eq_false, not_false_eq_true, reduceCtorEq, hP.1.1, g6 r (by omega), g6 (10 + y) (by omega), g6 (20 + b) (by omega), g7 (r + y + b) (by omega), g8 r (by omega), g8 (10 + y) (by omega), g8 (20 + b) (by omega), q_or, q_bd, foesC_eq hP.1.2 hr hy hb]
/-- the hues that clash with any of a set -/
def foesA (P : Pal) (s : Nat) : Nat := bset (fun y => exb (fun h => s.testBit h && foe P h y) (pH P)) (pH P)
theorem s_foesOfAny (hP : rP M a P) {s : Nat} (hs : s < 2147483648) : f_X4_foesOfAny a (nI s) M = some (nI (foesA P s), M) := by
  have hn : pH P ≤ 10 := hP.1.2.1
  unfold f_X4_foesOfAny
  rw [if_pos hP.1.1]
  refine hr_for (σ := Nat) (fun f i x => f_X4_foesOfAny_4 a (nI s) f (nI x) (nI i) M) (pH P) (fun i x => x = bset (fun y => exb (fun h => s.testBit h && foe P h y) i) (pH P)) (fun r => r = some (nI (foesA P s), M)) ?_ ?_ FU 0 0 (Nat.zero_le _) (FU_ok (by omega)) (bset_0.mpr (fun i _ => rfl)).symm
  · rintro f i x hi rfl
    right
    refine ⟨_, ?_, rfl⟩
    show f_X4_foesOfAny_4 a (nI s) (f + 1) _ (nI i) M = f_X4_foesOfAny_4 a (nI s) f _ (nI (i + 1)) M
    rw [f_X4_foesOfAny_4.eq_2, hP.2.1.1, s_holdsBit M hs (by omega)]
    simp (disch := omega) only [q_lit, q_m1, q_m2, q_m1000, q_add, q_mul, q_cl, q_le, q_lt, q_eq, q_in, q_bd_some, eq_self, if_true, if_false, q_b0, q_b1, q_b01, q_bt, q_bf, q_ft, q_tf, Nat.mul_zero, Nat.add_zero, Nat.zero_add, or_true, true_or, not_true_eq_false, not_false_eq_true, reduceCtorEq, Nat.not_le.mpr hi, hP.2.2.2.1.2 i hi, q_or]
    cases hb : s.testBit i with
    | false =>
      rw [if_pos rfl]
      congr 2
      apply bset_congr
      intro k hk
      show _ = (exb _ i || (s.testBit i && foe P i k))
      rw [hb]
      simp
    | true =>
      rw [if_neg (by simp)]
      congr 2
      apply Nat.eq_of_testBit_eq
      intro j
      rw [Nat.testBit_or, bset_bit, bset_bit, foes, bset_bit]
      show _ = (decide (j < pH P) && (exb _ i || (s.testBit i && foe P i j)))
      rw [hb]
      cases decide (j < pH P) <;> simp
  · rintro f x rfl
    show f_X4_foesOfAny_4 a (nI s) (f + 1) _ (nI (pH P)) M = _
    rw [f_X4_foesOfAny_4.eq_2, hP.2.1.1]
    simp (disch := omega) only [q_lit, q_m1, q_m2, q_m1000, q_add, q_mul, q_cl, q_le, q_lt, q_eq, q_in, q_bd_some, eq_self, if_true, if_false, q_b0, q_b1, q_b01, q_bt, q_bf, q_ft, q_tf, Nat.mul_zero, Nat.add_zero, Nat.zero_add, or_true, true_or, not_true_eq_false, not_false_eq_true, reduceCtorEq, Nat.le_refl]
    rfl
def clash1 (P : Pal) (h : Nat) : Nat := cnt (foe P h) (pH P)
theorem foes_0 {P : Pal} {h : Nat} : foes P h = 0 ↔ clash1 P h = 0 := by
  unfold foes clash1
  rw [bset_0, cnt_0]
theorem popc_foes {P : Pal} (hn : pH P ≤ 10) (h : Nat) : popc (foes P h) = clash1 P h := popc_bset _ hn
def meekS (P : Pal) : Nat := bset (fun h => decide (clash1 P h = 0)) (pH P)
theorem s_meek (hP : rP M a P) : f_X4_meek a M = some (nI (meekS P), M) := by
  have hn : pH P ≤ 10 := hP.1.2.1
  unfold f_X4_meek
  rw [if_pos hP.1.1]
  refine hr_for (σ := Nat) (fun f i x => f_X4_meek_4 a f (nI x) (nI i) M) (pH P) (fun i x => x = bset (fun h => decide (clash1 P h = 0)) i) (fun r => r = some (nI (meekS P), M)) ?_ ?_ FU 0 0 (Nat.zero_le _) (FU_ok (by omega)) rfl
  · rintro f i x hi rfl
    right
    refine ⟨_, ?_, rfl⟩
    show f_X4_meek_4 a (f + 1) _ (nI i) M = f_X4_meek_4 a f _ (nI (i + 1)) M
    have hl := bset_lt10 (foe P i) hn
    have hf : foes P i < 1024 := hl
    rw [f_X4_meek_4.eq_2, hP.2.1.1]
    simp (disch := omega) only [q_lit, q_m1, q_m2, q_m1000, q_add, q_mul, q_cl, q_le, q_lt, q_eq, q_in, q_bd_some, eq_self, if_true, if_false, q_b0, q_b1, q_b01, q_bt, q_bf, q_ft, q_tf, Nat.mul_zero, Nat.add_zero, Nat.zero_add, or_true, true_or, not_true_eq_false, not_false_eq_true, reduceCtorEq, Nat.not_le.mpr hi, hP.2.2.2.1.2 i hi, q_or, q_jl, foes_0]
    show _ = f_X4_meek_4 a f (nI (bset _ i ||| (if decide (clash1 P i = 0) = true then 2 ^ i else 0))) (nI (i + 1)) M
    by_cases h0 : clash1 P i = 0
    · rw [if_pos h0, decide_eq_true h0, if_pos rfl]
    · rw [if_neg h0, decide_eq_false h0, if_neg (by simp), Nat.or_zero]
  · rintro f x rfl
    show f_X4_meek_4 a (f + 1) _ (nI (pH P)) M = _
    rw [f_X4_meek_4.eq_2, hP.2.1.1]
    simp (disch := omega) only [q_lit, q_m1, q_m2, q_m1000, q_add, q_mul, q_cl, q_le, q_lt, q_eq, q_in, q_bd_some, eq_self, if_true, if_false, q_b0, q_b1, q_b01, q_bt, q_bf, q_ft, q_tf, Nat.mul_zero, Nat.add_zero, Nat.zero_add, or_true, true_or, not_true_eq_false, not_false_eq_true, reduceCtorEq, Nat.le_refl]
    rfl
/-- the first place of the greatest -/
def amx (f : Nat → Nat) : Nat → Nat
  | 0 => 0
  | n + 1 => if f (amx f n) < f n then n else amx f n
def amxI (f : Nat → Nat) (n : Nat) : Int := if n = 0 then -1 else (amx f n : Nat)
def fsI (P : Pal) (i : Nat) : Int := if i = 0 then -1 else (clash1 P (amx (clash1 P) i) : Nat)
theorem fsI_s {P : Pal} {i : Nat} (h : i ≠ 0) : fsI P i = (clash1 P (amx (clash1 P) i) : Nat) := if_neg h
theorem amxI_s {g : Nat → Nat} {i : Nat} (h : i ≠ 0) : amxI g i = (amx g i : Nat) := if_neg h
theorem s_fiercest (hP : rP M a P) : f_X4_fiercest a M = some (zI (amxI (clash1 P) (pH P)), M) := by
  have hn : pH P ≤ 10 := hP.1.2.1
  unfold f_X4_fiercest
  rw [if_pos hP.1.1]
  refine hr_for (σ := Int32 × Int32) (fun f i s => f_X4_fiercest_6 a f s.1 s.2 (nI i) M) (pH P) (fun i s => s = (zI (amxI (clash1 P) i), zI (fsI P i))) (fun r => r = some (zI (amxI (clash1 P) (pH P)), M)) ?_ ?_ FU 0 (-1, -1) (Nat.zero_le _) (FU_ok (by omega)) (by unfold amxI fsI; rw [if_pos rfl, if_pos rfl]; decide)
  · rintro f i s hi rfl
    right
    refine ⟨(zI (amxI (clash1 P) (i + 1)), zI (fsI P (i + 1))), ?_, rfl⟩
    show f_X4_fiercest_6 a (f + 1) (zI (amxI (clash1 P) i)) (zI (fsI P i)) (nI i) M = f_X4_fiercest_6 a f (zI (amxI (clash1 P) (i + 1))) (zI (fsI P (i + 1))) (nI (i + 1)) M
    have hf : foes P i < 1024 := bset_lt10 (foe P i) hn
    have hc : clash1 P i ≤ 10 := Nat.le_trans (cnt_le _ _) hn
    have hd : clash1 P (amx (clash1 P) i) ≤ 10 := Nat.le_trans (cnt_le _ _) hn
    have hz : -1 ≤ fsI P i ∧ fsI P i ≤ 10 := by unfold fsI; split <;> omega
    rw [f_X4_fiercest_6.eq_2, hP.2.1.1]
    simp (disch := omega) only [q_lit, q_m1, q_m2, q_m1000, q_add, q_mul, q_cl, q_le, q_lt, q_eq, q_in, q_bd_some, eq_self, if_true, if_false, q_b0, q_b1, q_b01, q_bt, q_bf, q_ft, q_tf, Nat.mul_zero, Nat.add_zero, Nat.zero_add, or_true, true_or, not_true_eq_false, not_false_eq_true, reduceCtorEq, Nat.not_le.mpr hi, hP.2.2.2.1.2 i hi, s_bitCount hf, popc_foes hn, q_nzle]
    rw [amxI_s (Nat.succ_ne_zero i), fsI_s (Nat.succ_ne_zero i)]
    by_cases h0 : i = 0
    · subst h0
      rw [if_neg (by unfold fsI; simp; omega)]
      have e : amx (clash1 P) (0 + 1) = 0 := by
        unfold amx
        split <;> rfl
      rw [e, q_nz 0, q_nz (clash1 P 0)]
    · rw [fsI_s h0, amxI_s h0]
      by_cases hlt : clash1 P (amx (clash1 P) i) < clash1 P i
      · have e : amx (clash1 P) (i + 1) = i := if_pos hlt
        rw [if_neg (by omega), e, q_nz i, q_nz (clash1 P i)]
      · have e : amx (clash1 P) (i + 1) = amx (clash1 P) i := if_neg hlt
        rw [if_pos (by omega), e]
  · rintro f s rfl
    show f_X4_fiercest_6 a (f + 1) _ _ (nI (pH P)) M = _
    rw [f_X4_fiercest_6.eq_2, hP.2.1.1]
    simp (disch := omega) only [q_lit, q_m1, q_m2, q_m1000, q_add, q_mul, q_cl, q_le, q_lt, q_eq, q_in, q_bd_some, eq_self, if_true, if_false, q_b0, q_b1, q_b01, q_bt, q_bf, q_ft, q_tf, Nat.mul_zero, Nat.add_zero, Nat.zero_add, or_true, true_or, not_true_eq_false, not_false_eq_true, reduceCtorEq, Nat.le_refl]
end PALF
