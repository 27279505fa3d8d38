/-! A ROW'S PLACES, by the model; rows, row, loom, thread -/
section MOD
variable {q g : Nat} {P : Pal} {n : Nat} {hs : Nat → Nat} {R : Rol}
theorem lc1 {x : Nat} (h : x < 2147483648) : (lg_cmp (lN x) 0 = nI 0) = (x = 0) := lc0 h
/-- who stood before a place -/
def lsS (E : Nat → Nat → Bool) (n i : Nat) : Int32 := if i = 0 then zI (-1) else nI (odN E n (i - 1))
theorem od_s {E : Nat → Nat → Bool} {n : Nat} (hn : n ≤ 10) (h0 : 0 < orS E n) {i : Nat} (hi : i < n) : odS E n (i + 1) = (bd (odS E n i).1 (2 ^ odN E n i), bd (bd (odS E n i).1 (2 ^ odN E n i)) (bset (E (odN E n i)) n)) := by
  obtain ⟨-, -, -, o4, -⟩ := od_ok hn h0 i hi
  show (match chS E n (odS E n i).1 (odS E n i).2 with | none => odS E n i | some k => (bd (odS E n i).1 (2 ^ k), bd (bd (odS E n i).1 (2 ^ k)) (bset (E k) n))) = _
  rw [o4]
theorem s_rowAt {M : PM} (hH : hM M q P) (h : tK M P n hs) (hm : mkH M (eF P hs) n 1) (h0 : 0 < orS (eF P hs) n) {k : Nat} (hk : k < n) : f_X11_rowAt (nI k) M = some (nI (odN (eF P hs) n k), M) := by
  have h10 := h.1.1
  have h2 : 1 ≤ 2 ^ n := Nat.one_le_two_pow
  have h3 : 2 ^ n ≤ 2 ^ 10 := Nat.pow_le_pow_right (by decide) h10
  have od := od_ok h10 h0
  unfold f_X11_rowAt
  rw [show (-1 : Int32) = zI (-1) by decide]
  refine hr_for (σ := Nat × Int32) (fun f i x => f_X11_rowAt_7 (nI k) f (nI x.1) x.2 (nI i) M) (k + 1) (fun i x => x.1 = bd (2 ^ n - 1) (if i < n then (odS (eF P hs) n i).1 else 0) ∧ x.2 = lsS (eF P hs) n i) (fun r => r = some (nI (odN (eF P hs) n k), M)) ?_ ?_ FU 0 (0, zI (-1)) (Nat.zero_le _) (FU_ok (by omega)) ⟨?_, rfl⟩
  · rintro f i ⟨s, l⟩ hi ⟨hx, hl⟩
    dsimp only at hx hl
    right
    have hin : i < n := by omega
    rw [if_pos hin] at hx
    obtain ⟨o1, o2, o3, o4, o5, o6, o7⟩ := od i hin
    have hs2 : s < 2 ^ n := by rw [hx]; exact Nat.lt_of_le_of_lt (bd_le _ _) (by omega)
    have sbit : ∀ j, j < n → s.testBit j = !(odS (eF P hs) n i).1.testBit j := by
      intro j hj
      rw [hx, bd_bit, all_bit, decide_eq_true hj, Bool.true_and]
    have hps : popc s = i := by
      have := popc_co h10 o1
      rw [← hx] at this
      omega
    -- what a place tells of one that is left
    have beh : ∀ j, j < n → s.testBit j = false → M.2.1 297 (10 * (s ||| 2 ^ j) + j) = lN (bg (eF P hs) n (n - i - 1) (odS (eF P hs) n i).1 j) := by
      intro j hj hb
      have hor : s ||| 2 ^ j < 2 ^ n := Nat.or_lt_two_pow hs2 (Nat.pow_lt_pow_right (by decide) hj)
      have hgt := or_gt hb
      have e2 := hm (s ||| 2 ^ j) (by omega) hor j hj (by rw [Nat.testBit_or, Nat.testBit_two_pow, decide_eq_true rfl, Bool.or_true])
      rw [rsS_add hj hb, popc_or (by omega) (by omega) hb, hps, show n - (i + 1) = n - i - 1 by omega] at e2
      rw [e2, hx]
      congr 2
      apply Nat.eq_of_testBit_eq
      intro t
      rw [bd_bit, bd_bit, all_bit]
      by_cases ht : t < n
      · rw [decide_eq_true ht]; simp
      · rw [decide_eq_false ht]
        cases hq : (odS (eF P hs) n i).1.testBit t with
        | false => rfl
        | true => exact absurd (lt2_iff.mp o1 t hq) ht
    -- whether one is welcome
    have wel : ∀ j, j < n → s.testBit j = false → (odS (eF P hs) n i).2.testBit j = (decide (i = 0) || !eF P hs (odN (eF P hs) n (i - 1)) j) := by
      intro j hj hb
      have hb2 : (odS (eF P hs) n i).1.testBit j = true := by
        have := sbit j hj
        rw [hb] at this
        simpa using this.symm
      by_cases hi0 : i = 0
      · subst hi0
        show (2 ^ n - 1).testBit j = _
        rw [all_bit, decide_eq_true hj]
        rfl
      · have e := od_s h10 h0 (show i - 1 < n by omega)
        rw [show i - 1 + 1 = i by omega] at e
        rw [e] at hb2 ⊢
        dsimp only at hb2 ⊢
        rw [bd_bit, hb2, bset_bit, decide_eq_true hj, decide_eq_false hi0, Bool.true_and, Bool.true_and, Bool.false_or]
    have hbl : ∀ j, j < n → s.testBit j = false → bg (eF P hs) n (n - i - 1) (odS (eF P hs) n i).1 j ≤ 362880 := by
      intro j hj hb
      have hb2 : (odS (eF P hs) n i).1.testBit j = true := by
        have := sbit j hj
        rw [hb] at this
        simpa using this.symm
      exact Nat.le_trans (bg_le h10 _ _ j o1 (by omega) hb2) (fac_9 (by omega))
    obtain ⟨-, -, c3⟩ := fst1_some o4
    have hnx : s ||| 2 ^ odN (eF P hs) n i = bd (2 ^ n - 1) (if i + 1 < n then (odS (eF P hs) n (i + 1)).1 else 0) := by
      have hbz : (odS (eF P hs) n i).1.testBit (odN (eF P hs) n i) = true := o3 _ o6
      by_cases hi1 : i + 1 < n
      · rw [if_pos hi1, od_s h10 h0 hin]
        apply Nat.eq_of_testBit_eq
        intro t
        rw [hx, Nat.testBit_or, bd_bit, bd_bit, bd_bit, all_bit, Nat.testBit_two_pow]
        by_cases e : odN (eF P hs) n i = t
        · subst e; rw [decide_eq_true o5]; simp
        · rw [decide_eq_false e]; simp
      · rw [if_neg hi1]
        have hp1 : popc (odS (eF P hs) n i).1 = 1 := by omega
        have hr := popc_rm (show (odS (eF P hs) n i).1 < 1024 by omega) hbz
        have hz : bd (odS (eF P hs) n i).1 (2 ^ odN (eF P hs) n i) = 0 := (popc_0 (Nat.lt_of_le_of_lt (bd_le _ _) (by omega))).mp (by omega)
        apply Nat.eq_of_testBit_eq
        intro t
        have hzt : (bd (odS (eF P hs) n i).1 (2 ^ odN (eF P hs) n i)).testBit t = false := by rw [hz, Nat.zero_testBit]
        rw [bd_bit, Nat.testBit_two_pow] at hzt
        rw [hx, Nat.testBit_or, bd_bit, bd_bit, all_bit, Nat.testBit_two_pow, Nat.zero_testBit]
        by_cases e : odN (eF P hs) n i = t
        · subst e; rw [decide_eq_true o5]; simp
        · rw [decide_eq_false e] at hzt ⊢
          simp at hzt
          rw [hzt]
          simp
    have hgo : f_X11_rowAt_16 (nI k) (fun x2 x3 x4 M => f_X11_rowAt_7 (nI k) f x2 x3 x4 M) FU (nI s) l (nI i) (nI 0) M = f_X11_rowAt_7 (nI k) f (nI (s ||| 2 ^ odN (eF P hs) n i)) (nI (odN (eF P hs) n i)) (nI (i + 1)) M := by
      refine hr_for (σ := Unit) (fun f' j _ => f_X11_rowAt_16 (nI k) (fun x2 x3 x4 M => f_X11_rowAt_7 (nI k) f x2 x3 x4 M) f' (nI s) l (nI i) (nI j) M) (odN (eF P hs) n i) (fun _ _ => True) (fun r => r = f_X11_rowAt_7 (nI k) f (nI (s ||| 2 ^ odN (eF P hs) n i)) (nI (odN (eF P hs) n i)) (nI (i + 1)) M) ?_ ?_ FU 0 () (Nat.zero_le _) (FU_ok (by omega)) trivial
      · intro f' j _ hj _
        right
        refine ⟨(), ?_, trivial⟩
        have hjn : j < n := by omega
        have cj := c3 j hj
        show f_X11_rowAt_16 (nI k) _ (f' + 1) (nI s) l (nI i) (nI j) M = _
        rw [f_X11_rowAt_16.eq_2]
        simp (disch := omega) only [q_lit, q_m1, q_m2, q_m1000, q_add, q_mul, q_cl, q_le, q_lt, q_eq, q_in, q_bd_some, eq_self, if_true, if_false, q_b0, q_b1, q_b01, q_bt, q_bf, q_ft, q_tf, Nat.mul_zero, Nat.add_zero, Nat.zero_add, or_true, true_or, not_true_eq_false, not_false_eq_true, reduceCtorEq, s_has11]
        cases hb : s.testBit j with
        | true => rw [if_neg (by simp)]
        | false =>
          rw [if_pos rfl]
          have hor : s ||| 2 ^ j < 2 ^ n := Nat.or_lt_two_pow hs2 (Nat.pow_lt_pow_right (by decide) hjn)
          have wj := wel j hjn hb
          have bl := hbl j hjn hb
          rw [wj, show popc (odS (eF P hs) n i).1 - 1 = n - i - 1 by omega] at cj
          have f40 : (decide (0 < bg (eF P hs) n (n - i - 1) (odS (eF P hs) n i).1 j)) = false → f_X11_rowAt_40 (nI k) (fun x2 x3 x4 M => f_X11_rowAt_7 (nI k) f x2 x3 x4 M) (fun x2 x3 x4 x5 M => f_X11_rowAt_16 (nI k) (fun x2 x3 x4 M => f_X11_rowAt_7 (nI k) f x2 x3 x4 M) f' x2 x3 x4 x5 M) (nI s) l (nI i) (nI j) M = f_X11_rowAt_16 (nI k) (fun x2 x3 x4 M => f_X11_rowAt_7 (nI k) f x2 x3 x4 M) f' (nI s) l (nI i) (nI (j + 1)) M := by
            intro hz
            simp only [decide_eq_false_iff_not] at hz
            unfold f_X11_rowAt_40
            simp (disch := omega) only [q_lit, q_m1, q_m2, q_m1000, q_add, q_mul, q_cl, q_le, q_lt, q_eq, q_in, q_bd_some, eq_self, if_true, if_false, q_b0, q_b1, q_b01, q_bt, q_bf, q_ft, q_tf, Nat.mul_zero, Nat.add_zero, Nat.zero_add, or_true, true_or, not_true_eq_false, not_false_eq_true, reduceCtorEq, q_jl, q_or, beh j hjn hb, lc1, show bg (eF P hs) n (n - i - 1) (odS (eF P hs) n i).1 j = 0 by omega]
          by_cases hi0 : i = 0
          · have el : l = zI (-1) := by rw [hl]; unfold lsS; rw [if_pos hi0]
            rw [if_pos el]
            rw [decide_eq_true hi0, Bool.true_or, Bool.true_and] at cj
            exact f40 cj
          · have el : l = nI (odN (eF P hs) n (i - 1)) := by rw [hl]; unfold lsS; rw [if_neg hi0]
            have lo := (od (i - 1) (by omega)).2.2.2.2.1
            rw [if_neg (show ¬ l = zI (-1) from fun z => by rw [el] at z; have := (q_nzeq (by omega) (by omega)).mp z; omega)]
            have ef : f_X11_follows l (nI j) M = some (bI (!eF P hs (odN (eF P hs) n (i - 1)) j), M) := by rw [el]; exact s_follows hH h lo hjn
            rw [ef, q_bd_some]
            rw [decide_eq_false hi0, Bool.false_or] at cj
            cases hE : eF P hs (odN (eF P hs) n (i - 1)) j with
            | true => rw [if_pos (by decide)]
            | false =>
              rw [if_neg (by decide)]
              rw [hE, Bool.not_false, Bool.true_and] at cj
              exact f40 cj
      · intro f' _ _
        have hbz : s.testBit (odN (eF P hs) n i) = false := by
          rw [sbit _ o5, o3 _ o6]
          rfl
        have hor : s ||| 2 ^ odN (eF P hs) n i < 2 ^ n := Nat.or_lt_two_pow hs2 (Nat.pow_lt_pow_right (by decide) o5)
        have bl := hbl _ o5 hbz
        have f40 : f_X11_rowAt_40 (nI k) (fun x2 x3 x4 M => f_X11_rowAt_7 (nI k) f x2 x3 x4 M) (fun x2 x3 x4 x5 M => f_X11_rowAt_16 (nI k) (fun x2 x3 x4 M => f_X11_rowAt_7 (nI k) f x2 x3 x4 M) f' x2 x3 x4 x5 M) (nI s) l (nI i) (nI (odN (eF P hs) n i)) M = f_X11_rowAt_7 (nI k) f (nI (s ||| 2 ^ odN (eF P hs) n i)) (nI (odN (eF P hs) n i)) (nI (i + 1)) M := by
          unfold f_X11_rowAt_40
          simp (disch := omega) only [q_lit, q_m1, q_m2, q_m1000, q_add, q_mul, q_cl, q_le, q_lt, q_eq, q_in, q_bd_some, eq_self, if_true, if_false, q_b0, q_b1, q_b01, q_bt, q_bf, q_ft, q_tf, Nat.mul_zero, Nat.add_zero, Nat.zero_add, or_true, true_or, not_true_eq_false, not_false_eq_true, reduceCtorEq, q_jl, q_or, beh _ o5 hbz, lc1]
          rw [if_neg (by omega)]
        show f_X11_rowAt_16 (nI k) _ (f' + 1) (nI s) l (nI i) (nI (odN (eF P hs) n i)) M = _
        rw [f_X11_rowAt_16.eq_2]
        simp (disch := omega) only [q_lit, q_m1, q_m2, q_m1000, q_add, q_mul, q_cl, q_le, q_lt, q_eq, q_in, q_bd_some, eq_self, if_true, if_false, q_b0, q_b1, q_b01, q_bt, q_bf, q_ft, q_tf, Nat.mul_zero, Nat.add_zero, Nat.zero_add, or_true, true_or, not_true_eq_false, not_false_eq_true, reduceCtorEq, s_has11, hbz]
        by_cases hi0 : i = 0
        · have el : l = zI (-1) := by rw [hl]; unfold lsS; rw [if_pos hi0]
          rw [if_pos el]
          exact f40
        · have el : l = nI (odN (eF P hs) n (i - 1)) := by rw [hl]; unfold lsS; rw [if_neg hi0]
          have lo := (od (i - 1) (by omega)).2.2.2.2.1
          have wz := wel _ o5 hbz
          rw [o6, decide_eq_false hi0, Bool.false_or] at wz
          rw [if_neg (show ¬ l = zI (-1) from fun z => by rw [el] at z; have := (q_nzeq (by omega) (by omega)).mp z; omega)]
          have ef : f_X11_follows l (nI (odN (eF P hs) n i)) M = some (bI (!eF P hs (odN (eF P hs) n (i - 1)) (odN (eF P hs) n i)), M) := by rw [el]; exact s_follows hH h lo o5
          rw [ef, q_bd_some, ← wz, if_neg (by decide)]
          exact f40
    refine ⟨(s ||| 2 ^ odN (eF P hs) n i, nI (odN (eF P hs) n i)), ?_, hnx, ?_⟩
    · show f_X11_rowAt_7 (nI k) (f + 1) (nI s) l (nI i) M = _
      rw [f_X11_rowAt_7.eq_2]
      simp (disch := omega) only [q_lit, q_m1, q_m2, q_m1000, q_add, q_mul, q_cl, q_le, q_lt, q_eq, q_in, q_bd_some, eq_self, if_true, if_false, q_b0, q_b1, q_b01, q_bt, q_bf, q_ft, q_tf, Nat.mul_zero, Nat.add_zero, Nat.zero_add, or_true, true_or, not_true_eq_false, not_false_eq_true, reduceCtorEq, show ¬ k < i by omega]
      exact hgo
    · unfold lsS
      rw [if_neg (Nat.succ_ne_zero i), Nat.add_sub_cancel]
  · rintro f ⟨s, l⟩ ⟨hx, hl⟩
    dsimp only at hx hl
    show f_X11_rowAt_7 (nI k) (f + 1) (nI s) l (nI (k + 1)) M = _
    rw [f_X11_rowAt_7.eq_2]
    simp (disch := omega) only [q_lit, q_m1, q_m2, q_m1000, q_add, q_mul, q_cl, q_le, q_lt, q_eq, q_in, q_bd_some, eq_self, if_true, if_false, q_b0, q_b1, q_b01, q_bt, q_bf, q_ft, q_tf, Nat.mul_zero, Nat.add_zero, Nat.zero_add, or_true, true_or, not_true_eq_false, not_false_eq_true, reduceCtorEq, show k < k + 1 by omega]
    rw [hl]
    unfold lsS
    rw [if_neg (Nat.succ_ne_zero k), Nat.add_sub_cancel]
  · rw [if_pos (show 0 < n by omega)]
    show 0 = bd (2 ^ n - 1) (2 ^ n - 1)
    unfold bd
    rw [Nat.and_self, Nat.xor_self]
theorem s_layPictures {M0 : PM} (hB : mB M0 q P g R) (hg : gOK P R) : ∃ M', f_X11_layPictures M0 = some ((), M') ∧ tK M' P (oN R) (hsR R) ∧ hr_fr hW_X11_layPictures M0 M' := by
  have h9 := hg.1.2.1
  unfold f_X11_layPictures
  rw [s_pictures hB.2, q_bd_some]
  refine hr_for (σ := PM) (fun f k N => f_X11_layPictures_10 f (nI k) N) (oN R) (fun k N => (N.1 275 41 = nI (oN R) ∧ ∀ j, j < k → N.1 296 j = nI (hsR R j)) ∧ hr_fr hW_X11_layPictures M0 N) (fun r => ∃ M', r = some ((), M') ∧ tK M' P (oN R) (hsR R) ∧ hr_fr hW_X11_layPictures M0 M') ?_ ?_ FU 0 _ (Nat.zero_le _) (FU_ok (by omega)) ⟨⟨by rw [si_same, if_pos rfl], fun j hj => by omega⟩, hr_fr.si rfl (hr_fr.rf _ _)⟩
  · rintro f k N hk ⟨⟨h1, h2⟩, hf⟩
    right
    have hBN : mB N q P g R := hB.fr' hf (fun _ => rfl) rfl rfl (fun _ => rfl) (fun _ => rfl) rfl
    have e := hsR_n hg hk
    show ∃ s', f_X11_layPictures_10 (f + 1) (nI k) N = f_X11_layPictures_10 f (nI (k + 1)) s' ∧ _
    rw [f_X11_layPictures_10.eq_2]
    simp (disch := omega) only [q_lit, q_m1, q_m2, q_m1000, q_add, q_mul, q_cl, q_le, q_lt, q_eq, q_in, q_bd_some, eq_self, if_true, if_false, q_b0, q_b1, q_b01, q_bt, q_bf, q_ft, q_tf, Nat.mul_zero, Nat.add_zero, Nat.zero_add, or_true, true_or, not_true_eq_false, not_false_eq_true, reduceCtorEq, h1, show ¬ oN R ≤ k by omega, s_hueOf hBN.2, e.1]
    refine ⟨_, rfl, ⟨by rw [si_ne _ _ _ (show 275 ≠ 296 by omega)]; exact h1, ?_⟩, hr_fr.si rfl hf⟩
    intro j hj
    rw [si_same]
    by_cases ej : j = k
    · rw [if_pos ej, ej]
    · rw [if_neg ej]; exact h2 j (by omega)
  · rintro f N ⟨⟨h1, h2⟩, hf⟩
    show ∃ M', f_X11_layPictures_10 (f + 1) (nI (oN R)) N = _ ∧ _
    rw [f_X11_layPictures_10.eq_2]
    simp (disch := omega) only [q_lit, q_m1, q_m2, q_m1000, q_add, q_mul, q_cl, q_le, q_lt, q_eq, q_in, q_bd_some, eq_self, if_true, if_false, q_b0, q_b1, q_b01, q_bt, q_bf, q_ft, q_tf, Nat.mul_zero, Nat.add_zero, Nat.zero_add, or_true, true_or, not_true_eq_false, not_false_eq_true, reduceCtorEq, h1, Nat.le_refl]
    exact ⟨N, rfl, ⟨⟨by omega, h1⟩, fun k hk => ⟨h2 k hk, (hsR_n hg hk).2⟩⟩, hf⟩
theorem s_hasAny11 (s : Int32) {k : Nat} (hk : k < 32) (M : PM) : f_X11_has s (nI k) M = some (bI (hb s k), M) := by
  have h := i_nat s
  obtain ⟨z, -, rfl⟩ := q_anyz s
  unfold f_X11_has
  rw [q_lit 1, gO, q_bitz hk]
  unfold hb
  cases (zI z).toBitVec.getLsbD k <;> rfl
theorem s_layThreads {M0 : PM} (hH : hM M0 q P) (s : Int32) : ∃ M', f_X11_layThreads s M0 = some ((), M') ∧ tK M' P (hN P (memS P s)) (hL P (memS P s)) ∧ hr_fr hW_X11_layThreads M0 M' := by
  have h10 := hH.1.1.2.1
  obtain ⟨k1, k2⟩ := pk_ok (fun k => (memS P s).testBit k) (pH P)
  have hc := cnt_le (fun k => (memS P s).testBit k) (pH P)
  unfold f_X11_layThreads
  refine hr_for (σ := PM) (fun f k N => f_X11_layThreads_7 s f (nI k) N) (pH P) (fun k N => (N.1 275 41 = nI (cnt (fun k => (memS P s).testBit k) k) ∧ ∀ j, j < cnt (fun k => (memS P s).testBit k) k → N.1 296 j = nI (hL P (memS P s) j)) ∧ hr_fr hW_X11_layThreads M0 N) (fun r => ∃ M', r = some ((), M') ∧ tK M' P (hN P (memS P s)) (hL P (memS P s)) ∧ hr_fr hW_X11_layThreads M0 M') ?_ ?_ FU 0 _ (Nat.zero_le _) (FU_ok (by omega)) ⟨⟨by rw [si_same, if_pos rfl]; rfl, fun j hj => absurd hj (Nat.not_lt_zero _)⟩, hr_fr.si rfl (hr_fr.rf _ _)⟩
  · rintro f k N hk ⟨⟨h1, h2⟩, hf⟩
    right
    have e25 : N.1 275 25 = nI (pH P) := (hf.at 275 25 rfl).trans hH.2.1.2
    have hck := cnt_le (fun k => (memS P s).testBit k) k
    have ec : cnt (fun k => (memS P s).testBit k) (k + 1) = cnt (fun k => (memS P s).testBit k) k + (if (memS P s).testBit k then 1 else 0) := rfl
    show ∃ s', f_X11_layThreads_7 s (f + 1) (nI k) N = f_X11_layThreads_7 s f (nI (k + 1)) s' ∧ _
    rw [f_X11_layThreads_7.eq_2, s_hasAny11 s (by omega), ← memS_bit h10 s hk]
    have q4 : ∀ v, (hr_si N 296 (cnt (fun k => (memS P s).testBit k) k) v).1 275 41 = nI (cnt (fun k => (memS P s).testBit k) k) := fun v => by rw [si_ne _ _ _ (show 275 ≠ 296 by omega)]; exact h1
    simp (disch := omega) only [q_lit, q_m1, q_m2, q_m1000, q_add, q_mul, q_cl, q_le, q_lt, q_eq, q_in, q_bd_some, eq_self, if_true, if_false, q_b0, q_b1, q_b01, q_bt, q_bf, q_ft, q_tf, Nat.mul_zero, Nat.add_zero, Nat.zero_add, or_true, true_or, not_true_eq_false, not_false_eq_true, reduceCtorEq, e25, show ¬ pH P ≤ k by omega, h1, q4]
    cases hbk : (memS P s).testBit k with
    | false =>
      rw [if_pos rfl]
      refine ⟨N, rfl, ?_, hf⟩
      rw [ec, hbk]
      exact ⟨h1, h2⟩
    | true =>
      rw [if_neg (by simp)]
      refine ⟨_, rfl, ?_, hr_fr.si rfl (hr_fr.si rfl hf)⟩
      rw [ec, hbk]
      refine ⟨by rw [si_same, if_pos rfl]; rfl, ?_⟩
      intro j hj
      rw [si_ne _ _ _ (show 296 ≠ 275 by omega), si_same]
      by_cases ej : j = cnt (fun k => (memS P s).testBit k) k
      · rw [if_pos ej, ej]
        unfold hL
        rw [k2 k hk hbk]
      · rw [if_neg ej]
        exact h2 j (by simp at hj; omega)
  · rintro f N ⟨⟨h1, h2⟩, hf⟩
    have e25 : N.1 275 25 = nI (pH P) := (hf.at 275 25 rfl).trans hH.2.1.2
    show ∃ M', f_X11_layThreads_7 s (f + 1) (nI (pH P)) N = _ ∧ _
    rw [f_X11_layThreads_7.eq_2]
    simp (disch := omega) only [q_lit, q_m1, q_m2, q_m1000, q_add, q_mul, q_cl, q_le, q_lt, q_eq, q_in, q_bd_some, eq_self, if_true, if_false, q_b0, q_b1, q_b01, q_bt, q_bf, q_ft, q_tf, Nat.mul_zero, Nat.add_zero, Nat.zero_add, or_true, true_or, not_true_eq_false, not_false_eq_true, reduceCtorEq, e25, Nat.le_refl]
    exact ⟨N, rfl, ⟨⟨Nat.le_trans hc h10, h1⟩, fun k hk => ⟨h2 k hk, (k1 k hk).1⟩⟩, hf⟩
end MOD
