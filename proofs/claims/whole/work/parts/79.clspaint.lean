/-! REPAINTED, by the class -/
/-- the first of the least -/
def amS (f : Nat → Option Nat) (n : Nat) : Option Nat := match lsO f n with
  | none => none
  | some a => fst1 (fun h => decide (f h = some a)) n
def fhS (P : Pal) (R : Rol) (k w : Nat) : Nat := (amS (csW P R k w) (pH P)).getD 0
/-- the hues of the cheapest row, and who is shunned there -/
def ptN (P : Pal) (R : Rol) : Nat → Nat
  | 0 => fhS P R 0 0
  | i + 1 => fhS P R (i + 1) (foes P (ptN P R i))
def ptW (P : Pal) (R : Rol) : Nat → Nat
  | 0 => 0
  | i + 1 => foes P (ptN P R i)
theorem ptN_eq (P : Pal) (R : Rol) (i : Nat) : ptN P R i = fhS P R i (ptW P R i) := by cases i <;> rfl
def totC (P : Pal) (R : Rol) : Option Nat := if oN R = 0 then some 0 else lsO (csW P R 0 0) (pH P)
theorem am_hit {f : Nat → Option Nat} {n a : Nat} (h : lsO f n = some a) : ∃ j, amS f n = some j ∧ fst1 (fun h => decide (f h = some a)) n = some j ∧ j < n ∧ f j = some a := by
  unfold amS
  rw [h]
  obtain ⟨⟨k, k1, k2⟩, -⟩ := lsO_hit h
  cases hq : fst1 (fun h => decide (f h = some a)) n with
  | none => have := fst1_none hq k k1; rw [k2] at this; simp at this
  | some j =>
    obtain ⟨j1, j2, -⟩ := fst1_some hq
    exact ⟨j, hq, rfl, j1, by simpa using j2⟩
def dueN (P : Pal) (R : Rol) (i : Nat) : Nat := if i < oN R then (lsO (csW P R i (ptW P R i)) (pH P)).getD 0 else 0
theorem ptW_lt {P : Pal} (h10 : pH P ≤ 10) (R : Rol) (i : Nat) : ptW P R i < 1024 := by
  cases i with
  | zero => show 0 < 1024; omega
  | succ i => exact bset_lt10 _ h10
/-- every place has one -/
theorem pt_ok {P : Pal} {R : Rol} {c : Nat} (ht : totC P R = some c) : ∀ i, i < oN R → lsO (csW P R i (ptW P R i)) (pH P) = some (dueN P R i) ∧ fst1 (fun h => decide (csW P R i (ptW P R i) h = some (dueN P R i))) (pH P) = some (ptN P R i) ∧ ptN P R i < pH P ∧ csW P R i (ptW P R i) (ptN P R i) = some (dueN P R i) ∧ dueN P R i = cq P R i (ptN P R i) + dueN P R (i + 1) := by
  have fin : ∀ i, i < oN R → (∃ d, lsO (csW P R i (ptW P R i)) (pH P) = some d) → lsO (csW P R i (ptW P R i)) (pH P) = some (dueN P R i) ∧ fst1 (fun h => decide (csW P R i (ptW P R i) h = some (dueN P R i))) (pH P) = some (ptN P R i) ∧ ptN P R i < pH P ∧ csW P R i (ptW P R i) (ptN P R i) = some (dueN P R i) := by
    rintro i hi ⟨d, hd⟩
    have e : dueN P R i = d := by unfold dueN; rw [if_pos hi, hd]; rfl
    obtain ⟨j, j1, j2, j3, j4⟩ := am_hit hd
    have ep : ptN P R i = j := by rw [ptN_eq]; unfold fhS; rw [j1]; rfl
    rw [e, ep]
    exact ⟨hd, j2, j3, j4⟩
  have stp : ∀ i, i < oN R → csW P R i (ptW P R i) (ptN P R i) = some (dueN P R i) → (i + 1 < oN R → ∃ d, lsO (csW P R (i + 1) (ptW P R (i + 1))) (pH P) = some d) ∧ dueN P R i = cq P R i (ptN P R i) + dueN P R (i + 1) := by
    intro i hi hc
    unfold csW at hc
    split at hc
    · cases hc
    · by_cases h1 : i + 1 < oN R
      · rw [cs_step h1] at hc
        cases hq : lsO (csW P R (i + 1) (foes P (ptN P R i))) (pH P) with
        | none => rw [hq] at hc; cases hc
        | some d =>
          rw [hq] at hc
          dsimp only at hc
          refine ⟨fun _ => ⟨d, hq⟩, ?_⟩
          have : dueN P R (i + 1) = d := by
            unfold dueN
            rw [if_pos h1, show ptW P R (i + 1) = foes P (ptN P R i) from rfl, hq]
            rfl
          rw [this]
          injection hc with hc
          exact hc.symm
      · refine ⟨fun z => absurd z h1, ?_⟩
        rw [show oN R - 1 - i = 0 by omega] at hc
        unfold cs at hc
        injection hc with hc
        rw [show oN R - 1 = i by omega] at hc
        have : dueN P R (i + 1) = 0 := by unfold dueN; rw [if_neg h1]
        rw [this, ← hc]
        rfl
  intro i
  induction i with
  | zero =>
    intro hi
    unfold totC at ht
    rw [if_neg (by omega)] at ht
    obtain ⟨f1, f2, f3, f4⟩ := fin 0 hi ⟨c, ht⟩
    exact ⟨f1, f2, f3, f4, (stp 0 hi f4).2⟩
  | succ i ih =>
    intro hi
    obtain ⟨-, -, -, g4, -⟩ := ih (by omega)
    obtain ⟨f1, f2, f3, f4⟩ := fin (i + 1) hi ((stp i (by omega) g4).1 hi)
    exact ⟨f1, f2, f3, f4, (stp (i + 1) hi f4).2⟩
theorem due_le {P : Pal} {R : Rol} (hg : gOK P R) {c : Nat} (ht : totC P R = some c) (i : Nat) : dueN P R i ≤ 2430 := by
  by_cases hi : i < oN R
  · have h9 := hg.1.2.1
    obtain ⟨f1, -⟩ := pt_ok ht i hi
    exact lsO_le (b := 2430) (fun j c _ hj => by
      unfold csW at hj
      split at hj
      · cases hj
      · exact Nat.le_trans (cs_le hg (by omega) j c hj) (by omega)) f1
  · unfold dueN; rw [if_neg hi]; omega
def rpS (P : Pal) (R : Rol) (w : Int32) : Int32 := match totC P R with
  | none => zI (-1)
  | some c => if w = 0 then nI c else if w < nI 10 then zI (-1) else if w.toNatClampNeg - 10 < oN R then nI (ptN P R (w.toNatClampNeg - 10)) else zI (-1)
def sp_repainted (T : Tol) (p g w : Int32) : Int32 := match ix p (tz T 0), ix g (tz T 1) with
  | some p, some g => if tog (tP T p) (tR T 1 g) then rpS (tP T p) (tR T 1 g) w else zI (-1)
  | _, _ => zI (-1)
section CLS
variable {a b : Nat} {P : Pal} {R : Rol}
theorem s_hueOfCost {M : PM} (hP : rP M a P) (hg : gOK P R) {k w d : Nat} (hk : k < oN R) (hw1 : w < 2147483648) (hd : d ≤ 2430) (hm : mkC M P R 0) : f_X0_hueOfCost a (nI k) (nI w) (nI d) M = some (ocI (fst1 (fun h => decide (csW P R k w h = some d)) (pH P)), M) := by
  have hn := hg.1.2.1
  have h10 := hg.1.1.1
  unfold f_X0_hueOfCost
  rw [if_pos hP.1.1]
  refine hr_for (σ := Unit) (fun f h _ => f_X0_hueOfCost_3 a (nI k) (nI w) (nI d) f (nI h) M) (pH P) (fun h _ => fst1 (fun h => decide (csW P R k w h = some d)) h = none) (fun r => r = some (ocI (fst1 (fun h => decide (csW P R k w h = some d)) (pH P)), M)) ?_ ?_ FU 0 () (Nat.zero_le _) (FU_ok (by omega)) rfl
  · intro f h _ hh hno
    have e8 := hm k (Nat.zero_le _) hk h hh
    show f_X0_hueOfCost_3 a (nI k) (nI w) (nI d) (f + 1) (nI h) M = _ ∨ ∃ _ : Unit, f_X0_hueOfCost_3 a (nI k) (nI w) (nI d) (f + 1) (nI h) M = f_X0_hueOfCost_3 a (nI k) (nI w) (nI d) f (nI (h + 1)) M ∧ _
    rw [f_X0_hueOfCost_3.eq_2]
    simp (disch := omega) only [q_lit, q_m1, q_m2, q_m1000, q_add, q_mul, q_cl, q_le, q_lt, q_eq, q_in, q_bd_some, eq_self, if_true, if_false, q_b0, q_b1, q_b01, q_bt, q_bf, q_ft, q_tf, Nat.mul_zero, Nat.add_zero, Nat.zero_add, or_true, true_or, not_true_eq_false, not_false_eq_true, reduceCtorEq, hP.2.1.1, show ¬ pH P ≤ h by omega, s_holdsBit, e8]
    cases hb : w.testBit h with
    | true =>
      right
      rw [if_neg (by simp)]
      exact ⟨(), rfl, fst1_no hno (by unfold csW; rw [hb]; simp)⟩
    | false =>
      have ec : csW P R k w h = cs P R (oN R - 1 - k) h := by unfold csW; rw [hb]; rfl
      rw [if_pos rfl]
      cases hc : cs P R (oN R - 1 - k) h with
      | none =>
        right
        rw [if_neg (show ¬ ocI none = nI d from fun z => by have := (q_zneq (a := -1) (b := d) (by omega) (by omega)).mp z; omega)]
        exact ⟨(), rfl, fst1_no hno (by rw [ec, hc]; simp)⟩
      | some c =>
        have hc2 : c ≤ 2430 := Nat.le_trans (cs_le hg (by omega) h c hc) (by omega)
        by_cases e : c = d
        · left
          rw [if_pos (show ocI (some c) = nI d by rw [e]; rfl), fst1_hit hno (by rw [ec, hc, e]; simp) hh]
          rfl
        · right
          rw [if_neg (show ¬ ocI (some c) = nI d from fun z => e ((q_eq (a := c) (b := d) (by omega) (by omega)).mp z))]
          exact ⟨(), rfl, fst1_no hno (by rw [ec, hc]; simpa using e)⟩
  · intro f _ hno
    show f_X0_hueOfCost_3 a (nI k) (nI w) (nI d) (f + 1) (nI (pH P)) M = _
    rw [f_X0_hueOfCost_3.eq_2]
    simp (disch := omega) only [q_lit, q_m1, q_m2, q_m1000, q_add, q_mul, q_cl, q_le, q_lt, q_eq, q_in, q_bd_some, eq_self, if_true, if_false, q_b0, q_b1, q_b01, q_bt, q_bf, q_ft, q_tf, Nat.mul_zero, Nat.add_zero, Nat.zero_add, or_true, true_or, not_true_eq_false, not_false_eq_true, reduceCtorEq, hP.2.1.1, Nat.le_refl]
    rw [hno]
    rfl
theorem s_repaint130 {M0 M : PM} (hP : rP M0 a P) (ha : a + 9 ≤ 240) (hR : rR M0 b R) (hb : b + 4 ≤ 240) (hg : gOK P R) {c : Nat} (ht : totC P R = some c) (hf0 : hr_fr [(258, 0), (259, 0)] M0 M) (hm : mkC M P R 0) : ∃ M', f_X0_repaint_130 a b FU (nI c) (nI (dueN P R 0)) (nI 0) (nI 0) M = some (nI c, M') ∧ (∀ k, k < oN R → M'.1 259 k = nI (ptN P R k)) ∧ hr_fr [(258, 0), (259, 0)] M0 M' := by
  have hn := hg.1.2.1
  have h10 := hg.1.1.1
  have hc2 : c ≤ 2430 := by
    by_cases hn0 : oN R = 0
    · unfold totC at ht; rw [if_pos hn0] at ht; cases ht; omega
    · have h1 := (pt_ok ht 0 (by omega)).1
      unfold totC at ht
      rw [if_neg hn0] at ht
      have : lsO (csW P R 0 (ptW P R 0)) (pH P) = some c := ht
      rw [this] at h1
      cases h1
      exact due_le hg (show totC P R = some (dueN P R 0) by unfold totC; rw [if_neg hn0]; exact ht) 0
  refine hr_for (σ := PM) (fun f i N => f_X0_repaint_130 a b f (nI c) (nI (dueN P R i)) (nI (ptW P R i)) (nI i) N) (oN R) (fun i N => (∀ k, k < i → N.1 259 k = nI (ptN P R k)) ∧ mkC N P R 0 ∧ hr_fr [(258, 0), (259, 0)] M0 N) (fun r => ∃ M', r = some (nI c, M') ∧ (∀ k, k < oN R → M'.1 259 k = nI (ptN P R k)) ∧ hr_fr [(258, 0), (259, 0)] M0 M') ?_ ?_ FU 0 M (Nat.zero_le _) (FU_ok (by omega)) ⟨fun k hk => by omega, hm, hf0⟩
  · rintro f i N hi ⟨hk, hm, hf⟩
    right
    obtain ⟨o1, o2, o3, o4, o5⟩ := pt_ok ht i hi
    have hf1 : hr_fr [(258, 0), (259, 0)] M0 (hr_si N 259 i (nI (ptN P R i))) := hr_fr.si rfl hf
    have hPN := rP_ag hP (hf.agr (n := 240) rfl) (Nat.zero_le _) (by omega)
    have hRN := rR_ag hR (hf.agr (n := 240) rfl) (Nat.zero_le _) (by omega)
    have hP1 := rP_ag hP (hf1.agr (n := 240) rfl) (Nat.zero_le _) (by omega)
    have hR1 := rR_ag hR (hf1.agr (n := 240) rfl) (Nat.zero_le _) (by omega)
    have hwl := ptW_lt h10 R i
    have hdl := due_le hg ht i
    have hc := s_hueOfCost (w := ptW P R i) hPN hg hi (by omega) hdl hm
    rw [o2] at hc
    have e9 : (hr_si N 259 i (nI (ptN P R i))).1 259 i = nI (ptN P R i) := by rw [si_same, if_pos rfl]
    have es : nI (dueN P R i) - nI (cq P R i (ptN P R i)) = nI (dueN P R (i + 1)) := by
      rw [q_sub (by omega)]
      congr 1
      omega
    show ∃ s', f_X0_repaint_130 a b (f + 1) (nI c) (nI (dueN P R i)) (nI (ptW P R i)) (nI i) N = f_X0_repaint_130 a b f (nI c) (nI (dueN P R (i + 1))) (nI (ptW P R (i + 1))) (nI (i + 1)) s' ∧ _
    rw [f_X0_repaint_130.eq_2, ← es]
    simp (disch := omega) only [q_lit, q_m1, q_m2, q_m1000, q_add, q_mul, q_cl, q_le, q_lt, q_eq, q_in, q_bd_some, eq_self, if_true, if_false, q_b0, q_b1, q_b01, q_bt, q_bf, q_ft, q_tf, Nat.mul_zero, Nat.add_zero, Nat.zero_add, or_true, true_or, not_true_eq_false, not_false_eq_true, reduceCtorEq, hRN.2.1.1, show ¬ oN R ≤ i by omega, q_nzeq, show ¬ ((c : Nat) : Int) = -1 by omega, hc, ocI, e9, show ¬ ((ptN P R i : Nat) : Int) = -1 by omega, s_costOf hP1 hR1 hg hi o3, s_foesOf hP1 o3]
    refine ⟨_, rfl, ?_, ?_, hf1⟩
    · intro k hk2
      rw [si_same]
      by_cases e : k = i
      · rw [if_pos e, e]
      · rw [if_neg e]; exact hk k (by omega)
    · intro k h1 h2 h hh
      rw [si_ne _ _ _ (show 258 ≠ 259 by omega)]
      exact hm k h1 h2 h hh
  · rintro f N ⟨hk, hm, hf⟩
    have hRN := rR_ag hR (hf.agr (n := 240) rfl) (Nat.zero_le _) (by omega)
    show ∃ M', f_X0_repaint_130 a b (f + 1) _ _ _ (nI (oN R)) N = _ ∧ _
    rw [f_X0_repaint_130.eq_2]
    simp (disch := omega) only [q_lit, q_m1, q_m2, q_m1000, q_add, q_mul, q_cl, q_le, q_lt, q_eq, q_in, q_bd_some, eq_self, if_true, if_false, q_b0, q_b1, q_b01, q_bt, q_bf, q_ft, q_tf, Nat.mul_zero, Nat.add_zero, Nat.zero_add, or_true, true_or, not_true_eq_false, not_false_eq_true, reduceCtorEq, hRN.2.1.1, Nat.le_refl]
    exact ⟨N, rfl, hk, hf⟩
theorem s_repaint {M0 : PM} (hP : rP M0 a P) (ha : a + 9 ≤ 240) (hR : rR M0 b R) (hb : b + 4 ≤ 240) (hg : gOK P R) : ∃ M', f_X0_repaint a b M0 = some (ocI (totC P R), M') ∧ ((totC P R).isSome = true → ∀ k, k < oN R → M'.1 259 k = nI (ptN P R k)) ∧ hr_fr [(258, 0), (259, 0)] M0 M' := by
  have hn := hg.1.2.1
  have h10 := hg.1.1.1
  unfold f_X0_repaint
  rw [if_pos hP.1.1, if_pos hR.1, hR.2.1.1, q_lit 1, gO, q_nsub, show ((oN R : Nat) : Int) - (1 : Nat) = (oN R : Int) - 1 - (0 : Nat) by omega]
  refine hr_for (σ := PM) (fun f j N => f_X0_repaint_7 a b f (zI ((oN R : Int) - 1 - j)) N) (oN R) (fun j N => mkC N P R (oN R - j) ∧ hr_fr [(258, 0)] M0 N) (fun r => ∃ M', r = some (ocI (totC P R), M') ∧ ((totC P R).isSome = true → ∀ k, k < oN R → M'.1 259 k = nI (ptN P R k)) ∧ hr_fr [(258, 0), (259, 0)] M0 M') ?_ ?_ FU 0 M0 (Nat.zero_le _) (FU_ok (by omega)) ⟨fun k h1 h2 => by omega, hr_fr.rf _ _⟩
  · rintro f j N hj ⟨hm, hf⟩
    right
    have ei : zI ((oN R : Int) - 1 - j) = nI (oN R - 1 - j) := by rw [q_nz]; congr 1; omega
    have en : nI (oN R - 1 - j) + zI (-1) = zI ((oN R : Int) - 1 - (j + 1 : Nat)) := by rw [q_nzadd]; congr 1; omega
    obtain ⟨N', g1, g2, g3⟩ := s_repaint14 hP ha hR hb hg (show oN R - 1 - j < oN R by omega) hf (by rw [show oN R - 1 - j + 1 = oN R - j by omega]; exact hm) (fun x3 M => f_X0_repaint_7 a b f x3 M)
    show ∃ s', f_X0_repaint_7 a b (f + 1) (zI ((oN R : Int) - 1 - j)) N = f_X0_repaint_7 a b f (zI ((oN R : Int) - 1 - (j + 1 : Nat))) s' ∧ _
    rw [f_X0_repaint_7.eq_2, ei, if_neg (show ¬ nI (oN R - 1 - j) < 0 from nI_pos (by omega)), show (0 : Int32) = nI 0 from rfl, g1, en]
    exact ⟨N', rfl, by rw [show oN R - (j + 1) = oN R - 1 - j by omega]; exact g2, g3⟩
  · rintro f N ⟨hm, hf⟩
    rw [Nat.sub_self] at hm
    have hRN := rR_ag hR (hf.agr (n := 240) rfl) (Nat.zero_le _) (by omega)
    have hPN := rP_ag hP (hf.agr (n := 240) rfl) (Nat.zero_le _) (by omega)
    have hf2 : hr_fr [(258, 0), (259, 0)] M0 N := hr_fr.mono rfl hf
    show ∃ M', f_X0_repaint_7 a b (f + 1) (zI ((oN R : Int) - 1 - (oN R : Nat))) N = _ ∧ _
    rw [f_X0_repaint_7.eq_2, if_pos (show zI ((oN R : Int) - 1 - (oN R : Nat)) < 0 by
      show _ < nI 0
      rw [q_znlt (by omega) (by omega)]
      omega), hRN.2.1.1]
    by_cases hn0 : oN R = 0
    · have ht : totC P R = some 0 := by unfold totC; rw [if_pos hn0]
      obtain ⟨M', g1, g2, g3⟩ := s_repaint130 hP ha hR hb hg ht hf2 hm
      have ed : dueN P R 0 = 0 := by unfold dueN; rw [if_neg (by omega)]
      rw [ed] at g1
      rw [if_pos (show nI (oN R) = 0 by rw [hn0]; rfl)]
      exact ⟨M', by rw [ht]; exact g1, fun _ => g2, g3⟩
    · have et : totC P R = lsO (csW P R 0 0) (pH P) := by unfold totC; rw [if_neg hn0]
      have lc := s_leastCost (w := 0) hPN hg (show 0 < oN R by omega) (by omega) hm
      rw [if_neg (show ¬ nI (oN R) = 0 from fun z => hn0 ((q_eq (b := 0) (by omega) (by omega)).mp z)), show f_X0_leastCost a 0 0 N = f_X0_leastCost a (nI 0) (nI 0) N from rfl, lc, q_bd_some, ← et]
      cases hq : totC P R with
      | none =>
        refine ⟨N, ?_, fun z => absurd z (by simp), hf2⟩
        show f_X0_repaint_130 a b (3999 + 1) _ _ _ (nI 0) N = _
        rw [f_X0_repaint_130.eq_2, hRN.2.1.1, if_neg (show ¬ nI (oN R) ≤ nI 0 from fun z => by have := (q_le (by omega) (by omega)).mp z; omega), if_pos (show ocI none = -1 by show zI (-1) = -1; decide)]
      | some c =>
        obtain ⟨M', g1, g2, g3⟩ := s_repaint130 hP ha hR hb hg hq hf2 hm
        have ed : dueN P R 0 = c := by
          unfold dueN
          rw [if_pos (by omega), show ptW P R 0 = 0 from rfl, ← et, hq]
          rfl
        rw [ed] at g1
        exact ⟨M', g1, fun _ => g2, g3⟩
end CLS
