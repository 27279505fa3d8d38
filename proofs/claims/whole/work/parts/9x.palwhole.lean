/-! A PALETTE COPIED, whole -/
abbrev palK (a : Nat) : Prop := hr_K a = 3 ∧ (hr_N (a + 1) = 30 ∧ hr_N (a + 2) = 18 ∧ hr_N (a + 3) = 20) ∧ (hr_K (a + 6) = 12 ∧ hr_N (a + 6) = 30) ∧ (hr_K (a + 7) = 12 ∧ hr_N (a + 7) = 28) ∧ (hr_K (a + 8) = 12 ∧ hr_N (a + 8) = 30) ∧ a + 8 < hr_n
theorem palK_all : ∀ m, m < 4 → ∀ k, k < 2 → palK ((if m = 0 then 1 else 2 + 55 * m) + 5 + 9 * k) := by decide +kernel
theorem palK_224 : palK 224 := by decide +kernel
theorem bset_if (b : Bool) (q : Nat → Bool) (n : Nat) : bset (fun h => b && q h) n = if b = true then bset q n else 0 := by
  cases b with
  | true => rw [if_pos rfl]; exact bset_congr (fun k _ => by rw [Bool.true_and])
  | false => rw [if_neg (by simp)]; exact bset_0.mpr (fun k _ => by rw [Bool.false_and])
def hbG (P : Pal) (sel : Nat → Bool) (t : Int) (k : Nat) : Nat := bset (fun h => exb (fun j => sel j && tch (pU P (3 * j)) (pU P (3 * j + 1)) (pU P (3 * j + 2)) (mea P h (pU P (3 * j)) (pU P (3 * j + 1))) t) k) (pH P)
theorem hbG_s (P : Pal) (sel : Nat → Bool) (t : Int) (k : Nat) : hbG P sel t (k + 1) = hbG P sel t k ||| (if sel k = true then bset (fun h => tch (pU P (3 * k)) (pU P (3 * k + 1)) (pU P (3 * k + 2)) (mea P h (pU P (3 * k)) (pU P (3 * k + 1))) t) (pH P) else 0) := by
  unfold hbG
  rw [← bset_if, bset_or]
  rfl
theorem hbG_0 (P : Pal) (sel : Nat → Bool) (t : Int) : hbG P sel t 0 = 0 := bset_0.mpr (fun _ _ => rfl)
theorem hbG_no {P : Pal} {sel : Nat → Bool} {t : Int} {k : Nat} (h : sel k = false) : hbG P sel t (k + 1) = hbG P sel t k := by rw [hbG_s, h, if_neg (by simp), Nat.or_zero]
def selp (P : Pal) (i k : Nat) : Bool := decide ((pU P (3 * k) = 1 ∨ pU P (3 * k) = 2) ∧ pU P (3 * k + 1) = (i / 10 : Nat))
def selt (P : Pal) (k : Nat) : Bool := decide (pU P (3 * k) = 0)
def selc (P : Pal) (i k : Nat) : Bool := decide (pU P (3 * k) = 4 ∧ pU P (3 * k + 1) = (i / 10 : Nat))
section PALC
variable {M : PM} {a : Nat} {P : Pal}
theorem w_51 (hP : pW M a P) (hk : palK a) (h6 : ∀ i, i < 30 → M.1 (a + 6) i = nI 0) (h7 : ∀ i, i < 28 → M.1 (a + 7) i = nI 0) (h8 : ∀ i, i < 30 → M.1 (a + 8) i = nI 0) : ∃ M', f_X4_findHolders_51 a FU 0 M = some ((), M') ∧ rng (a + 6) (a + 8) M M' ∧ (∀ i, i < 30 → M'.1 (a + 6) i = nI (hbp P i)) ∧ (∀ i, i < 28 → M'.1 (a + 7) i = nI (hbt P i)) ∧ ∀ i, i < 30 → M'.1 (a + 8) i = nI (cbp P i) := by
  have hn6 := hP.1.2.2.1
  obtain ⟨-, -, ⟨k1, k2⟩, ⟨k3, k4⟩, ⟨k5, k6⟩, k7⟩ := hk
  rw [show (0 : Int32) = nI 0 from rfl]
  refine hr_for (σ := PM) (fun f k N => f_X4_findHolders_51 a f (nI k) N) (pR P) (fun k N => rng (a + 6) (a + 8) M N ∧ (∀ i, i < 30 → N.1 (a + 6) i = nI (hbG P (selp P i) ((i % 10 : Nat) : Int) k)) ∧ (∀ i, i < 28 → N.1 (a + 7) i = nI (hbG P (selt P) ((i : Nat) : Int) k)) ∧ ∀ i, i < 30 → N.1 (a + 8) i = nI (hbG P (selc P i) ((i % 10 : Nat) : Int) k)) (fun r => ∃ M', r = some ((), M') ∧ rng (a + 6) (a + 8) M M' ∧ (∀ i, i < 30 → M'.1 (a + 6) i = nI (hbp P i)) ∧ (∀ i, i < 28 → M'.1 (a + 7) i = nI (hbt P i)) ∧ ∀ i, i < 30 → M'.1 (a + 8) i = nI (cbp P i)) ?_ ?_ FU 0 M (Nat.zero_le _) (FU_ok (by omega)) ⟨rng.rf _ _ _, fun i hi => by rw [hbG_0]; exact h6 i hi, fun i hi => by rw [hbG_0]; exact h7 i hi, fun i hi => by rw [hbG_0]; exact h8 i hi⟩
  · rintro f k N hk ⟨hr, g6, g7, g8⟩
    right
    have hP2 : pW N a P := hP.rng hr (by omega)
    obtain ⟨⟨r0, r1, r2⟩, ⟨ro1, ro2, ro3, ro4, ro5⟩⟩ := w_rule hP2 hk
    show ∃ s', f_X4_findHolders_51 a (f + 1) (nI k) N = f_X4_findHolders_51 a f (nI (k + 1)) s' ∧ _
    rw [f_X4_findHolders_51.eq_2, hP2.2.1.2, if_neg (fun y => by have := (q_le (by omega) (by omega)).mp y; omega), q_lit 3, gO 3, q_lit 1, gO 1, q_lit 2, gO 2, q_mul, q_add, q_add, if_pos (q_in (by omega) (by omega)), if_pos (q_in (by omega) (by omega)), if_pos (q_in (by omega) (by omega)), q_cl (by omega), q_cl (by omega), q_cl (by omega), r0, r1, r2, q_add, q_lit 27, gO 27, q_lit 10, gO 10, q_lit 9, gO 9, q_lit 4, gO 4, show (0 : Int32) = nI 0 from rfl]
    have i0 : zI (pU P (3 * k)) = nI 0 ↔ pU P (3 * k) = 0 := by have := q_zneq (a := pU P (3 * k)) (b := 0) (by omega) (by omega); omega
    have i4 : zI (pU P (3 * k)) = nI 4 ↔ pU P (3 * k) = 4 := by have := q_zneq (a := pU P (3 * k)) (b := 4) (by omega) (by omega); omega
    have i3 : zI (pU P (3 * k)) = nI 3 ↔ pU P (3 * k) = 3 := by have := q_zneq (a := pU P (3 * k)) (b := 3) (by omega) (by omega); omega
    by_cases z0 : pU P (3 * k) = 0
    · have p6 : ∀ i, selp P i k = false := fun i => decide_eq_false (by omega)
      have p8 : ∀ i, selc P i k = false := fun i => decide_eq_false (by omega)
      have p7 : selt P k = true := decide_eq_true z0
      obtain ⟨M', e1, e2, e3⟩ := w_addHolders hP2 (c := a + 7) (off := 0) (top := 27) (by omega) k3 (by omega) k4 (by omega) (by omega) (by omega) ro1 ro2 ro3 (g := fun i => hbG P (selt P) ((i : Nat) : Int) k) g7
      rw [if_pos (i0.mpr z0), e1, q_bd_some]
      refine ⟨M', rfl, hr.tr (e2.up (by omega) (by omega)), fun i hi => ?_, fun i hi => ?_, fun i hi => ?_⟩
      · rw [e2.1 (a + 6) (by omega), hbG_no (p6 i)]; exact g6 i hi
      · rw [e3 i hi, hbG_s, p7, if_pos rfl, if_pos (by omega), Nat.sub_zero]
      · rw [e2.1 (a + 8) (by omega), hbG_no (p8 i)]; exact g8 i hi
    have p7 : selt P k = false := decide_eq_false z0
    rw [if_neg (fun w => z0 (i0.mp w))]
    by_cases z4 : pU P (3 * k) = 4
    · have p6 : ∀ i, selp P i k = false := fun i => decide_eq_false (by omega)
      have x2 : pU P (3 * k + 1) ≤ 2 := ro4 (by omega)
      obtain ⟨x, hx⟩ : ∃ x : Nat, pU P (3 * k + 1) = x := ⟨(pU P (3 * k + 1)).toNat, by omega⟩
      have e10 : nI 10 * zI (pU P (3 * k + 1)) = nI (10 * x) := by rw [hx, ← q_nz, q_mul]
      obtain ⟨M', e1, e2, e3⟩ := w_addHolders hP2 (c := a + 8) (off := 10 * x) (top := 9) (by omega) k5 (by omega) k6 (by omega) (by omega) (by omega) ro1 ro2 ro3 (g := fun i => hbG P (selc P i) ((i % 10 : Nat) : Int) k) g8
      rw [if_pos (i4.mpr z4), e10, e1, q_bd_some]
      refine ⟨M', rfl, hr.tr (e2.up (by omega) (by omega)), fun i hi => ?_, fun i hi => ?_, fun i hi => ?_⟩
      · rw [e2.1 (a + 6) (by omega), hbG_no (p6 i)]; exact g6 i hi
      · rw [e2.1 (a + 7) (by omega), hbG_no p7]; exact g7 i hi
      · rw [e3 i hi, hbG_s]
        congr 2
        by_cases w : i / 10 = x
        · rw [if_pos (show 10 * x ≤ i ∧ i ≤ 10 * x + 9 by omega), if_pos (show selc P i k = true from decide_eq_true ⟨z4, by rw [hx, w]⟩), show i - 10 * x = i % 10 by omega]
        · rw [if_neg (show ¬ (10 * x ≤ i ∧ i ≤ 10 * x + 9) by omega), if_neg (show ¬ selc P i k = true by rw [show selc P i k = false from decide_eq_false (fun v => w (by omega))]; simp)]
    have p8 : ∀ i, selc P i k = false := fun i => decide_eq_false (fun v => z4 v.1)
    rw [if_neg (fun w => z4 (i4.mp w))]
    by_cases z3 : pU P (3 * k) = 3
    · have p6 : ∀ i, selp P i k = false := fun i => decide_eq_false (by omega)
      rw [if_pos (i3.mpr z3)]
      exact ⟨N, rfl, hr, fun i hi => by rw [hbG_no (p6 i)]; exact g6 i hi, fun i hi => by rw [hbG_no p7]; exact g7 i hi, fun i hi => by rw [hbG_no (p8 i)]; exact g8 i hi⟩
    · rw [if_neg (fun w => z3 (i3.mp w))]
      have x2 : pU P (3 * k + 1) ≤ 2 := ro4 (by omega)
      obtain ⟨x, hx⟩ : ∃ x : Nat, pU P (3 * k + 1) = x := ⟨(pU P (3 * k + 1)).toNat, by omega⟩
      have e10 : nI 10 * zI (pU P (3 * k + 1)) = nI (10 * x) := by rw [hx, ← q_nz, q_mul]
      obtain ⟨M', e1, e2, e3⟩ := w_addHolders hP2 (c := a + 6) (off := 10 * x) (top := 9) (by omega) k1 (by omega) k2 (by omega) (by omega) (by omega) ro1 ro2 ro3 (g := fun i => hbG P (selp P i) ((i % 10 : Nat) : Int) k) g6
      rw [e10, e1, q_bd_some]
      refine ⟨M', rfl, hr.tr (e2.up (by omega) (by omega)), fun i hi => ?_, fun i hi => ?_, fun i hi => ?_⟩
      · rw [e3 i hi, hbG_s]
        congr 2
        by_cases w : i / 10 = x
        · rw [if_pos (show 10 * x ≤ i ∧ i ≤ 10 * x + 9 by omega), if_pos (show selp P i k = true from decide_eq_true ⟨by omega, by rw [hx, w]⟩), show i - 10 * x = i % 10 by omega]
        · rw [if_neg (show ¬ (10 * x ≤ i ∧ i ≤ 10 * x + 9) by omega), if_neg (show ¬ selp P i k = true by rw [show selp P i k = false from decide_eq_false (fun v => w (by omega))]; simp)]
      · rw [e2.1 (a + 7) (by omega), hbG_no p7]; exact g7 i hi
      · rw [e2.1 (a + 8) (by omega), hbG_no (p8 i)]; exact g8 i hi
  · rintro f N ⟨hr, g6, g7, g8⟩
    show ∃ M', f_X4_findHolders_51 a (f + 1) (nI (pR P)) N = _ ∧ _
    rw [f_X4_findHolders_51.eq_2, (hP.rng hr (by omega)).2.1.2, if_pos (Int32.le_refl _)]
    exact ⟨N, rfl, hr, g6, g7, g8⟩
theorem w_holders (hP : pW M a P) (hk : palK a) : ∃ M', f_X4_findHolders a M = some ((), M') ∧ rng (a + 6) (a + 8) M M' ∧ (∀ i, i < 30 → M'.1 (a + 6) i = nI (hbp P i)) ∧ (∀ i, i < 28 → M'.1 (a + 7) i = nI (hbt P i)) ∧ ∀ i, i < 30 → M'.1 (a + 8) i = nI (cbp P i) := by
  unfold f_X4_findHolders
  rw [if_pos hP.1.1, show (0 : Int32) = nI 0 from rfl]
  have e30 : ∀ N, rng (a + 6) (a + 8) M N → (∀ i, i < 30 → N.1 (a + 6) i = nI 0) → (∀ i, i < 30 → N.1 (a + 8) i = nI 0) → ∃ M', f_X4_findHolders_30 a FU (nI 0) N = some ((), M') ∧ rng (a + 6) (a + 8) M M' ∧ (∀ i, i < 30 → M'.1 (a + 6) i = nI (hbp P i)) ∧ (∀ i, i < 28 → M'.1 (a + 7) i = nI (hbt P i)) ∧ ∀ i, i < 30 → M'.1 (a + 8) i = nI (cbp P i) := by
    intro N hr h6 h8
    refine hr_for (σ := PM) (fun f i N => f_X4_findHolders_30 a f (nI i) N) 28 (fun i N => rng (a + 6) (a + 8) M N ∧ (∀ i, i < 30 → N.1 (a + 6) i = nI 0) ∧ (∀ i, i < 30 → N.1 (a + 8) i = nI 0) ∧ ∀ j, j < i → N.1 (a + 7) j = nI 0) (fun r => ∃ M', r = some ((), M') ∧ rng (a + 6) (a + 8) M M' ∧ (∀ i, i < 30 → M'.1 (a + 6) i = nI (hbp P i)) ∧ (∀ i, i < 28 → M'.1 (a + 7) i = nI (hbt P i)) ∧ ∀ i, i < 30 → M'.1 (a + 8) i = nI (cbp P i)) ?_ ?_ FU 0 N (Nat.zero_le _) (FU_ok (by omega)) ⟨hr, h6, h8, fun j hj => by omega⟩
    · rintro f i N hi ⟨i1, i2, i3, i4⟩
      right
      show ∃ s', f_X4_findHolders_30 a (f + 1) (nI i) N = f_X4_findHolders_30 a f (nI (i + 1)) s' ∧ _
      rw [f_X4_findHolders_30.eq_2, q_lit 27, gO 27, if_neg (fun y => by have := (q_lt (by omega) (by omega)).mp y; omega), if_pos (q_in (by omega) (by omega)), q_cl (by omega), q_lit 1, gO 1, q_add]
      refine ⟨_, rfl, i1.si (by omega) (by omega) _ _, fun j hj => by rw [si_ne _ _ _ (by omega)]; exact i2 j hj, fun j hj => by rw [si_ne _ _ _ (by omega)]; exact i3 j hj, fun j hj => ?_⟩
      show (hr_si N (a + 7) i 0).1 (a + 7) j = _
      rw [si_same]
      by_cases z : j = i
      · rw [if_pos z]; rfl
      · rw [if_neg z]; exact i4 j (by omega)
    · rintro f N ⟨i1, i2, i3, i4⟩
      show ∃ M', f_X4_findHolders_30 a (f + 1) (nI 28) N = _ ∧ _
      rw [f_X4_findHolders_30.eq_2, q_lit 27, gO 27, if_pos ((q_lt (by omega) (by omega)).mpr (by omega))]
      obtain ⟨M', e1, e2, e3⟩ := w_51 (hP.rng i1 (by omega)) hk i2 i4 i3
      exact ⟨M', e1, i1.tr e2, e3⟩
  refine hr_for (σ := PM) (fun f i N => f_X4_findHolders_2 a f (nI i) N) 30 (fun i N => rng (a + 6) (a + 8) M N ∧ ∀ j, j < i → N.1 (a + 6) j = nI 0 ∧ N.1 (a + 8) j = nI 0) (fun r => ∃ M', r = some ((), M') ∧ rng (a + 6) (a + 8) M M' ∧ (∀ i, i < 30 → M'.1 (a + 6) i = nI (hbp P i)) ∧ (∀ i, i < 28 → M'.1 (a + 7) i = nI (hbt P i)) ∧ ∀ i, i < 30 → M'.1 (a + 8) i = nI (cbp P i)) ?_ ?_ FU 0 M (Nat.zero_le _) (FU_ok (by omega)) ⟨rng.rf _ _ _, fun j hj => by omega⟩
  · rintro f i N hi ⟨i1, i2⟩
    right
    show ∃ s', f_X4_findHolders_2 a (f + 1) (nI i) N = f_X4_findHolders_2 a f (nI (i + 1)) s' ∧ _
    rw [f_X4_findHolders_2.eq_2, q_lit 30, gO 30, if_neg (fun y => by have := (q_le (by omega) (by omega)).mp y; omega), if_pos (q_in (by omega) (by omega)), if_pos (q_in (by omega) (by omega)), q_cl (by omega), q_lit 1, gO 1, q_add]
    refine ⟨_, rfl, (i1.si (by omega) (by omega) _ _).si (by omega) (by omega) _ _, fun j hj => ?_⟩
    show (hr_si (hr_si N (a + 6) i 0) (a + 8) i 0).1 (a + 6) j = _ ∧ (hr_si (hr_si N (a + 6) i 0) (a + 8) i 0).1 (a + 8) j = _
    rw [si_same, si_ne _ _ _ (show a + 6 ≠ a + 8 by omega), si_same, si_ne _ _ _ (show a + 8 ≠ a + 6 by omega)]
    by_cases z : j = i
    · rw [if_pos z, if_pos z]; exact ⟨rfl, rfl⟩
    · rw [if_neg z, if_neg z]; exact i2 j (by omega)
  · rintro f N ⟨i1, i2⟩
    show ∃ M', f_X4_findHolders_2 a (f + 1) (nI 30) N = _ ∧ _
    rw [f_X4_findHolders_2.eq_2, q_lit 30, gO 30, if_pos (Int32.le_refl _)]
    exact e30 N i1 (fun i hi => (i2 i hi).1) (fun i hi => (i2 i hi).2)
/-- what is copied of a palette -/
def cpP (M : PM) (a b : Nat) : PM := hr_si (hr_sr (hr_sr (hr_sr (hr_si (hr_si M a 0 (M.1 b 0)) a 1 (M.1 b 1)) (a + 1) (va_cpy (M.1 (b + 1)) (M.1 (a + 1)) 0 0 30)) (a + 2) (va_cpy (M.1 (b + 2)) (M.1 (a + 2)) 0 0 18)) (a + 3) (va_cpy (M.1 (b + 3)) (M.1 (a + 3)) 0 0 20)) a 10 (-2)
theorem cpy_at {f g : Nat → Int32} {n i : Nat} (h : i < n) : va_cpy f g 0 0 n i = f i := by
  unfold va_cpy
  rw [if_pos (by omega)]
  congr 1
  omega
theorem cpP_eq {b : Nat} (ha : palK a) (hb : palK b) (hab : a + 8 < b ∨ b + 3 < a) : f_X4_copyFrom a b M = hr_bd (f_X4_findStrengths a (cpP M a b)) (fun _ M2 => hr_bd (f_X4_findHolders a M2) (fun _ M4 => some ((), M4))) := by
  obtain ⟨a1, ⟨a2, a3, a4⟩, -⟩ := ha
  obtain ⟨b1, ⟨b2, b3, b4⟩, -⟩ := hb
  unfold f_X4_copyFrom
  rw [if_pos a1, if_pos b1, a2, a3, a4, b2, b3, b4, if_pos (by decide), if_pos (by decide), if_pos (by decide)]
  unfold cpP
  simp (disch := omega) only [si_ne, sr_ne, show (Int32.ofNat 30).toNatClampNeg = 30 from rfl, show (Int32.ofNat 18).toNatClampNeg = 18 from rfl, show (Int32.ofNat 20).toNatClampNeg = 20 from rfl, show (0 : Int32).toNatClampNeg = 0 from rfl]
theorem s_copyP {b : Nat} (ha : palK a) (hb : palK b) (hab : a + 8 < b ∨ b + 3 < a) (hB : pB M b P) (ok : pOK P) : ∃ M', f_X4_copyFrom a b M = some ((), M') ∧ rP M' a P ∧ rng a (a + 8) M M' := by
  obtain ⟨⟨h1, h2⟩, h3, h4, h5⟩ := hB
  have l1 := ok.1
  have l2 := ok.2.1
  rw [cpP_eq ha hb hab]
  have hW : pW (cpP M a b) a P := by
    unfold cpP
    refine ⟨⟨ha.1, ok⟩, ⟨?_, ?_⟩, fun i hi => ?_, fun i hi => ?_, fun i hi => ?_⟩
    · rw [si_same, if_neg (by omega), sr_ne _ _ (by omega), sr_ne _ _ (by omega), sr_ne _ _ (by omega), si_same, if_neg (by omega), si_same, if_pos rfl]; exact h1
    · rw [si_same, if_neg (by omega), sr_ne _ _ (by omega), sr_ne _ _ (by omega), sr_ne _ _ (by omega), si_same, if_pos rfl]; exact h2
    · rw [si_ne _ _ _ (by omega), sr_ne _ _ (by omega), sr_ne _ _ (by omega), sr_same, cpy_at (by omega)]; exact h3 i hi
    · rw [si_ne _ _ _ (by omega), sr_ne _ _ (by omega), sr_same, cpy_at (by omega)]; exact h4 i hi
    · rw [si_ne _ _ _ (by omega), sr_same, cpy_at (by omega)]; exact h5 i hi
  have hr0 : rng a (a + 8) M (cpP M a b) := by
    unfold cpP
    exact (((((((rng.rf _ _ _).si (by omega) (by omega) _ _).si (by omega) (by omega) _ _).sr (by omega) (by omega) _).sr (by omega) (by omega) _).sr (by omega) (by omega) _).si (by omega) (by omega) _ _)
  have h10 : (cpP M a b).1 a 10 = zI (-2) := by
    unfold cpP
    rw [si_same, if_pos rfl]
    decide
  obtain ⟨M1, g1, g2, g3, g4⟩ := w_strengths hW
  have hW1 : pW M1 a P := hW.rng g2 (by omega)
  obtain ⟨M2, k1, k2, k3, k4, k5⟩ := w_holders hW1 ha
  have hW2 : pW M2 a P := hW1.rng k2 (by omega)
  rw [g1, q_bd_some, k1, q_bd_some]
  refine ⟨M2, rfl, ⟨hW2.1, hW2.2.1, hW2.2.2, ⟨fun x y hx hy => ?_, fun x hx => ?_⟩, ⟨k3, k4, k5⟩, Or.inl ?_⟩, (hr0.tr (g2.up (by omega) (by omega))).tr (k2.up (by omega) (by omega))⟩
  · rw [k2.1 (a + 4) (by omega)]; exact g3 x y hx hy
  · rw [k2.1 (a + 5) (by omega)]; exact g4 x hx
  · rw [k2.1 a (by omega), g2.1 a (by omega)]; exact h10
end PALC
