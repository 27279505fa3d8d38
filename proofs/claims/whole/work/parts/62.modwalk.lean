/-! THE MODEL'S WALK -/
def mW (M : PM) (R : Rol) (W : Wk) : Prop := (M.1 275 35, M.1 275 36, M.1 275 37, M.1 275 38) = wF W ∧ (∀ k, k < 9 → M.1 290 k = wH W k) ∧ (∀ k, k < oN R → M.1 291 k = wA W k) ∧ ∀ p, p < 6 → M.1 292 p = wS W p ∧ M.1 293 p = wW W p ∧ M.1 294 p = wN W p
/-- palette and gallery in hand -/
def mB (M : PM) (q : Nat) (P : Pal) (g : Nat) (R : Rol) : Prop := hM M q P ∧ gG M g R
theorem mB.fr {M M' : PM} {q g : Nat} {P : Pal} {R : Rol} (h : mB M q P g R) {V : List (Nat × Nat)} (hf : hr_fr V M M') (hv : hr_sub V hW_X11_play = true) : mB M' q P g R := by
  have hf' := hr_fr.mono (V := hW_X11_play) hv hf
  exact ⟨h.1.at (hf'.row 281 (fun _ => rfl)) (hf'.at 275 24 rfl) (hf'.at 275 25 rfl) (hf'.row 288 (fun _ => rfl)), h.2.at (hf'.row 282 (fun _ => rfl)) (hf'.at 275 28 rfl)⟩
theorem gD.fr {M M' : PM} {d : Nat} {D : Rol} (h : gD M d D) {V : List (Nat × Nat)} (hf : hr_fr V M M') (hv : hr_sub V hW_X11_play = true) : gD M' d D := by
  have hf' := hr_fr.mono (V := hW_X11_play) hv hf
  exact h.at (hf'.row 283 (fun _ => rfl)) (hf'.at 275 29 rfl)
def ocI : Option Nat → Int32
  | none => zI (-1)
  | some h => nI h
section MOD
variable {M : PM} {q g : Nat} {P : Pal} {R : Rol} {W : Wk}
theorem s_thing (hB : mB M q P g R) (hg : gOK P R) (hW : wOK P W) (hC : mW M R W) (r : Nat) {k : Nat} (hk : k < 15) : f_X11_thing (nI r) (nI k) M = some (ocI (thg R W r k), M) := by
  have hn : oN R ≤ 9 := hg.1.2.1
  have h10 : pH P ≤ 10 := hg.1.1.1
  unfold f_X11_thing
  by_cases h9 : k < 9
  · simp (disch := omega) only [q_lit, q_m1, q_m2, q_m1000, q_add, q_mul, q_cl, q_le, q_lt, q_eq, q_in, q_bd_some, eq_self, if_true, if_false, q_b0, q_b1, q_b01, q_bt, q_bf, q_ft, q_tf, Nat.mul_zero, Nat.add_zero, Nat.zero_add, or_true, true_or, not_true_eq_false, not_false_eq_true, reduceCtorEq, show ¬ 9 ≤ k by omega, s_pictures hB.2]
    by_cases h1 : k < oN R
    · simp (disch := omega) only [q_lit, q_m1, q_m2, q_m1000, q_add, q_mul, q_cl, q_le, q_lt, q_eq, q_in, q_bd_some, eq_self, if_true, if_false, q_b0, q_b1, q_b01, q_bt, q_bf, q_ft, q_tf, Nat.mul_zero, Nat.add_zero, Nat.zero_add, or_true, true_or, not_true_eq_false, not_false_eq_true, reduceCtorEq, show ¬ oN R ≤ k by omega, hC.2.1 k h9, hC.2.2.1 k h1, s_hueOf hB.2]
      unfold thg
      rw [if_pos h9]
      by_cases h2 : wH W k = nI r
      · by_cases h3 : wA W k ≤ 0
        · rw [if_pos h2, if_pos (show wA W k ≤ nI 0 from h3), if_neg (fun z => z.2.2 h3)]
          rfl
        · rw [if_pos h2, if_neg (show ¬ wA W k ≤ nI 0 from h3), if_pos ⟨h1, h2, h3⟩]
          show _ = some (nI (oA R k).toNat, M)
          rw [q_nz, Int.toNat_of_nonneg (hg.2 k h1).1.1]
      · rw [if_neg h2, if_neg (fun z => h2 z.2.1)]
        rfl
    · simp (disch := omega) only [q_lit, q_m1, q_m2, q_m1000, q_add, q_mul, q_cl, q_le, q_lt, q_eq, q_in, q_bd_some, eq_self, if_true, if_false, q_b0, q_b1, q_b01, q_bt, q_bf, q_ft, q_tf, Nat.mul_zero, Nat.add_zero, Nat.zero_add, or_true, true_or, not_true_eq_false, not_false_eq_true, reduceCtorEq, show oN R ≤ k by omega]
      unfold thg
      rw [if_pos h9, if_neg (fun z => h1 z.1)]
      rfl
  · have hp := hC.2.2.2 (k - 9) (by omega)
    simp (disch := omega) only [q_lit, q_m1, q_m2, q_m1000, q_add, q_mul, q_cl, q_le, q_lt, q_eq, q_in, q_bd_some, eq_self, if_true, if_false, q_b0, q_b1, q_b01, q_bt, q_bf, q_ft, q_tf, Nat.mul_zero, Nat.add_zero, Nat.zero_add, or_true, true_or, not_true_eq_false, not_false_eq_true, reduceCtorEq, show 9 ≤ k by omega, q_sub, hp.1, hp.2.1]
    unfold thg
    rw [if_neg h9]
    by_cases h2 : wS W (k - 9) = nI r
    · rw [if_pos h2]
      rcases hW.2 (k - 9) (by omega) with h3 | ⟨j, h4, h5⟩
      · rw [if_neg (fun z => z.2 h3), h3]
        rfl
      · have : ¬ nI j = zI (-1) := fun z => by have := (q_nzeq (by omega) (by omega)).mp z; omega
        rw [h5, if_pos ⟨h2, this⟩, q_cl (by omega)]
        rfl
    · rw [if_neg h2, if_neg (fun z => h2 z.1)]
      rfl
theorem ocI_n {R : Rol} {W : Wk} {r k : Nat} (h : thB R W r k = false) : ocI (thg R W r k) = zI (-1) := by
  unfold thB at h
  cases hq : thg R W r k with
  | none => rfl
  | some a => rw [hq] at h; cases h
theorem ocI_s {R : Rol} {W : Wk} {r k : Nat} (h : thB R W r k = true) : ocI (thg R W r k) = nI (thH R W r k) := by
  unfold thB at h
  unfold thH
  cases hq : thg R W r k with
  | none => rw [hq] at h; cases h
  | some a => rfl
theorem sumN_0 (n : Nat) : sumN (fun _ => 0) n = 0 := by
  induction n with
  | zero => rfl
  | succ n ih => unfold sumN; rw [ih]
theorem s_rash11_13 (hB : mB M q P g R) (hg : gOK P R) (hW : wOK P W) (hC : mW M R W) (r : Nat) (k4 : Int32 → Int32 → PM → Option (Int32 × PM)) {i A : Nat} (hi : i < 15) : f_X11_rash_13 (nI r) k4 FU (nI A) (nI i) (nI 0) M = k4 (nI (A + if thB R W r i then sumN (fun j => if thB R W r j then strH P (thH R W r i) (thH R W r j) else 0) i else 0)) (nI (i + 1)) M := by
  have h10 : pH P ≤ 10 := hg.1.1.1
  let f : Nat → Nat := fun j => if thB R W r i then (if thB R W r j then strH P (thH R W r i) (thH R W r j) else 0) else 0
  have e : (if thB R W r i then sumN (fun j => if thB R W r j then strH P (thH R W r i) (thH R W r j) else 0) i else 0) = sumN f i := by
    cases hb : thB R W r i with
    | true =>
      rw [if_pos rfl]
      exact sumN_congr (fun j _ => by show _ = if thB R W r i then _ else _; rw [hb, if_pos rfl])
    | false =>
      rw [if_neg (by simp)]
      rw [← sumN_0 i]
      exact sumN_congr (fun j _ => by show _ = if thB R W r i then _ else _; rw [hb, if_neg (by simp)])
  rw [e]
  refine hr_for (σ := Int32) (fun f j x => f_X11_rash_13 (nI r) k4 f x (nI i) (nI j) M) i (fun j x => x = nI (A + sumN f j)) (fun z => z = k4 (nI (A + sumN f i)) (nI (i + 1)) M) ?_ ?_ FU 0 (nI A) (Nat.zero_le _) (FU_ok (by omega)) rfl
  · rintro fu j x hj rfl
    right
    show ∃ s', f_X11_rash_13 (nI r) k4 (fu + 1) _ (nI i) (nI j) M = f_X11_rash_13 (nI r) k4 fu s' (nI i) (nI (j + 1)) M ∧ _
    rw [f_X11_rash_13.eq_2]
    simp (disch := omega) only [q_lit, q_m1, q_m2, q_m1000, q_add, q_mul, q_cl, q_le, q_lt, q_eq, q_in, q_bd_some, eq_self, if_true, if_false, q_b0, q_b1, q_b01, q_bt, q_bf, q_ft, q_tf, Nat.mul_zero, Nat.add_zero, Nat.zero_add, or_true, true_or, not_true_eq_false, not_false_eq_true, reduceCtorEq, show ¬ i ≤ j by omega, s_thing hB hg hW hC]
    have ef : sumN f (j + 1) = sumN f j + f j := rfl
    have fj : f j = if thB R W r i then (if thB R W r j then strH P (thH R W r i) (thH R W r j) else 0) else 0 := rfl
    cases hb : thB R W r i with
    | false =>
      rw [ocI_n hb, if_pos rfl]
      refine ⟨_, rfl, ?_⟩
      rw [ef, fj, hb]
      rfl
    | true =>
      have hl := thH_lt hg hW hi hb
      rw [ocI_s hb, if_neg (fun z => by have := (q_nzeq (by omega) (by omega)).mp z; omega)]
      cases hb2 : thB R W r j with
      | false =>
        rw [ocI_n hb2, if_pos rfl]
        refine ⟨_, rfl, ?_⟩
        rw [ef, fj, hb, hb2]
        rfl
      | true =>
        have hl2 := thH_lt hg hW (show j < 15 by omega) hb2
        rw [ocI_s hb2, if_neg (fun z => by have := (q_nzeq (by omega) (by omega)).mp z; omega)]
        simp (disch := omega) only [q_lit, q_m1, q_m2, q_m1000, q_add, q_mul, q_cl, q_le, q_lt, q_eq, q_in, q_bd_some, eq_self, if_true, if_false, q_b0, q_b1, q_b01, q_bt, q_bf, q_ft, q_tf, Nat.mul_zero, Nat.add_zero, Nat.zero_add, or_true, true_or, not_true_eq_false, not_false_eq_true, reduceCtorEq, hB.1.2.2 _ _ hl hl2]
        refine ⟨_, rfl, ?_⟩
        rw [ef, fj, hb, hb2, Nat.add_assoc]
        rfl
  · rintro fu x rfl
    show f_X11_rash_13 (nI r) k4 (fu + 1) _ (nI i) (nI i) M = _
    rw [f_X11_rash_13.eq_2]
    simp (disch := omega) only [q_lit, q_m1, q_m2, q_m1000, q_add, q_mul, q_cl, q_le, q_lt, q_eq, q_in, q_bd_some, eq_self, if_true, if_false, q_b0, q_b1, q_b01, q_bt, q_bf, q_ft, q_tf, Nat.mul_zero, Nat.add_zero, Nat.zero_add, or_true, true_or, not_true_eq_false, not_false_eq_true, reduceCtorEq, Nat.le_refl]
theorem s_rash11 (hB : mB M q P g R) (hg : gOK P R) (hW : wOK P W) (hC : mW M R W) (r : Nat) : f_X11_rash (nI r) M = some (nI (rashS P R W r), M) := by
  unfold f_X11_rash rashS
  refine hr_for (σ := Int32) (fun f i x => f_X11_rash_4 (nI r) f x (nI i) M) 15 (fun i x => x = nI (sumN (fun k => if thB R W r k then sumN (fun j => if thB R W r j then strH P (thH R W r k) (thH R W r j) else 0) k else 0) i)) (fun z => z = some (nI (sumN (fun k => if thB R W r k then sumN (fun j => if thB R W r j then strH P (thH R W r k) (thH R W r j) else 0) k else 0) 15), M)) ?_ ?_ FU 0 0 (Nat.zero_le _) (FU_ok (by omega)) rfl
  · rintro f i x hi rfl
    right
    show ∃ s', f_X11_rash_4 (nI r) (f + 1) _ (nI i) M = f_X11_rash_4 (nI r) f s' (nI (i + 1)) M ∧ _
    rw [f_X11_rash_4.eq_2]
    simp (disch := omega) only [q_lit, q_m1, q_m2, q_m1000, q_add, q_mul, q_cl, q_le, q_lt, q_eq, q_in, q_bd_some, eq_self, if_true, if_false, q_b0, q_b1, q_b01, q_bt, q_bf, q_ft, q_tf, Nat.mul_zero, Nat.add_zero, Nat.zero_add, or_true, true_or, not_true_eq_false, not_false_eq_true, reduceCtorEq, show ¬ 15 ≤ i by omega]
    rw [s_rash11_13 hB hg hW hC r _ hi]
    exact ⟨_, rfl, rfl⟩
  · rintro f x rfl
    show f_X11_rash_4 (nI r) (f + 1) _ (nI 15) M = _
    rw [f_X11_rash_4.eq_2]
    simp (disch := omega) only [q_lit, q_m1, q_m2, q_m1000, q_add, q_mul, q_cl, q_le, q_lt, q_eq, q_in, q_bd_some, eq_self, if_true, if_false, q_b0, q_b1, q_b01, q_bt, q_bf, q_ft, q_tf, Nat.mul_zero, Nat.add_zero, Nat.zero_add, or_true, true_or, not_true_eq_false, not_false_eq_true, reduceCtorEq, Nat.le_refl]
theorem s_isClashing (hB : mB M q P g R) (hg : gOK P R) (hW : wOK P W) (hC : mW M R W) {r k : Nat} (hk : k < oN R) (h1 : wH W k = nI r) (h2 : ¬ wA W k ≤ 0) : f_X11_isClashing (nI k) M = some (bI (clsS P R W r k), M) := by
  have h10 : pH P ≤ 10 := hg.1.1.1
  have hn : oN R ≤ 9 := hg.1.2.1
  obtain ⟨t1, t2⟩ := thg_g hg hk h1 h2
  have hl := thH_lt hg hW (show k < 15 by omega) t1
  have hk0 := s_hueOf hB.2 hk
  rw [t2] at hk0
  have e290 : M.1 290 k = nI r := (hC.2.1 k (by omega)).trans h1
  unfold f_X11_isClashing
  refine hr_for (σ := Unit) (fun f j _ => f_X11_isClashing_2 (nI k) f (nI j) M) 15 (fun j _ => exb (fun j => decide (j ≠ k) && (thB R W r j && foe P (thH R W r k) (thH R W r j))) j = false) (fun z => z = some (bI (clsS P R W r k), M)) ?_ ?_ FU 0 () (Nat.zero_le _) (FU_ok (by omega)) rfl
  · rintro f j - hj hno
    show f_X11_isClashing_2 (nI k) (f + 1) (nI j) M = _ ∨ ∃ _ : Unit, f_X11_isClashing_2 (nI k) (f + 1) (nI j) M = f_X11_isClashing_2 (nI k) f (nI (j + 1)) M ∧ _
    rw [f_X11_isClashing_2.eq_2]
    simp (disch := omega) only [q_lit, q_m1, q_m2, q_m1000, q_add, q_mul, q_cl, q_le, q_lt, q_eq, q_in, q_bd_some, eq_self, if_true, if_false, q_b0, q_b1, q_b01, q_bt, q_bf, q_ft, q_tf, Nat.mul_zero, Nat.add_zero, Nat.zero_add, or_true, true_or, not_true_eq_false, not_false_eq_true, reduceCtorEq, show ¬ 15 ≤ j by omega, e290, s_thing hB hg hW hC]
    have go : (decide (j ≠ k) && (thB R W r j && foe P (thH R W r k) (thH R W r j))) = false → exb (fun j => decide (j ≠ k) && (thB R W r j && foe P (thH R W r k) (thH R W r j))) (j + 1) = false := by
      intro h
      show (exb _ j || _) = false
      rw [hno]
      exact h
    by_cases e : j = k
    · rw [if_pos e]
      exact Or.inr ⟨(), rfl, go (by rw [decide_eq_false (fun z => z e)]; rfl)⟩
    · rw [if_neg e]
      cases hb : thB R W r j with
      | false =>
        rw [ocI_n hb, if_pos rfl]
        exact Or.inr ⟨(), rfl, go (by rw [hb]; simp)⟩
      | true =>
        have hl2 := thH_lt hg hW hj hb
        rw [ocI_s hb, if_neg (fun z => by have := (q_nzeq (by omega) (by omega)).mp z; omega)]
        simp (disch := omega) only [q_lit, q_m1, q_m2, q_m1000, q_add, q_mul, q_cl, q_le, q_lt, q_eq, q_in, q_bd_some, eq_self, if_true, if_false, q_b0, q_b1, q_b01, q_bt, q_bf, q_ft, q_tf, Nat.mul_zero, Nat.add_zero, Nat.zero_add, or_true, true_or, not_true_eq_false, not_false_eq_true, reduceCtorEq, hk0, s_clash hB.1]
        cases hf : foe P (thH R W r k) (thH R W r j) with
        | false =>
          rw [if_pos rfl]
          exact Or.inr ⟨(), rfl, go (by rw [hb, hf]; simp)⟩
        | true =>
          rw [if_neg (by simp)]
          left
          unfold clsS
          rw [t1, exb_iff.mpr ⟨j, hj, by rw [decide_eq_true e, hb, hf]; rfl⟩]
          rfl
  · rintro f - hno
    show f_X11_isClashing_2 (nI k) (f + 1) (nI 15) M = _
    rw [f_X11_isClashing_2.eq_2]
    simp (disch := omega) only [q_lit, q_m1, q_m2, q_m1000, q_add, q_mul, q_cl, q_le, q_lt, q_eq, q_in, q_bd_some, eq_self, if_true, if_false, q_b0, q_b1, q_b01, q_bt, q_bf, q_ft, q_tf, Nat.mul_zero, Nat.add_zero, Nat.zero_add, or_true, true_or, not_true_eq_false, not_false_eq_true, reduceCtorEq, Nat.le_refl]
    unfold clsS
    rw [hno, Bool.and_false]
    rfl
theorem cls_off {P : Pal} {R : Rol} {W : Wk} {k : Nat} (h9 : k < 9) {r : Nat} (h : ¬ (k < oN R ∧ wH W k = nI r ∧ ¬ wA W k ≤ 0)) : clsS P R W r k = false := by
  unfold clsS
  rw [thB_g h9 h]
  rfl
theorem fad_at {P : Pal} {R : Rol} {W : Wk} {k r : Nat} (h9 : k < 9) (hr : r < 4) (h : wH W k = nI r) : fadS P R W k = clsS P R W r k := by
  apply bool_iff
  unfold fadS
  rw [exb_iff]
  constructor
  · rintro ⟨r', h1, h2⟩
    by_cases e : r' = r
    · rw [← e]; exact h2
    · rw [cls_off h9 (fun z => e (by have := z.2.1; rw [h] at this; exact ((q_eq (by omega) (by omega)).mp this).symm))] at h2
      cases h2
  · intro h2
    exact ⟨r, hr, h2⟩
theorem fad_off {P : Pal} {R : Rol} {W : Wk} {k : Nat} (h9 : k < 9) (h : wH W k = zI (-1) ∨ wA W k ≤ 0) : fadS P R W k = false := by
  unfold fadS
  apply exb_no.mpr
  intro r hr
  apply cls_off h9
  rintro ⟨_, h2, h3⟩
  rcases h with h | h
  · rw [h] at h2
    have := (q_zneq (by omega) (by omega)).mp h2
    omega
  · exact h3 h
end MOD
