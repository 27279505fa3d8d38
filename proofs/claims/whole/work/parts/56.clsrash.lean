/-! THE CLASS'S RASH OF A ROOM -/
theorem i_or0 (x : Int32) : x ||| nI 0 = x := by
  apply Int32.toBitVec_inj.1
  rw [Int32.toBitVec_or]
  show x.toBitVec ||| BitVec.ofNat 32 0 = x.toBitVec
  exact BitVec.or_zero
theorem i_ora (x : Int32) (a b : Nat) : (x ||| nI a) ||| nI b = x ||| nI (a ||| b) := by
  rw [← q_or]
  apply Int32.toBitVec_inj.1
  simp only [Int32.toBitVec_or]
  exact BitVec.or_assoc _ _ _
theorem s_mark {M : PM} {i k : Nat} (hi : i < 15) (hk : M.1 256 i = if k < 9 then nI k else zI (-1)) : ∃ M', f_X9_markFading (nI i) M = some ((), M') ∧ M'.1 249 12 = M.1 249 12 ||| nI (if k < 9 then 2 ^ k else 0) ∧ hr_fr hW_X9_markFading M M' := by
  have e : ∃ M', f_X9_markFading (nI i) M = some ((), M') ∧ M'.1 249 12 = M.1 249 12 ||| nI (if k < 9 then 2 ^ k else 0) := by
    unfold f_X9_markFading
    by_cases h : k < 9
    · rw [if_pos h] at hk ⊢
      simp (disch := omega) only [q_lit, q_m1, q_m2, q_m1000, q_add, q_mul, q_cl, q_le, q_lt, q_eq, q_in, q_bd_some, eq_self, if_true, if_false, q_b0, q_b1, q_b01, q_bt, q_bf, q_ft, q_tf, Nat.mul_zero, Nat.add_zero, Nat.zero_add, or_true, true_or, not_true_eq_false, not_false_eq_true, reduceCtorEq, hk, q_nzeq, show ¬ ((k : Nat) : Int) = -1 by omega, q_jl]
      exact ⟨_, rfl, by simp [q_si1]⟩
    · rw [if_neg h] at hk ⊢
      simp (disch := omega) only [q_lit, q_m1, q_m2, q_m1000, q_add, q_mul, q_cl, q_le, q_lt, q_eq, q_in, q_bd_some, eq_self, if_true, if_false, q_b0, q_b1, q_b01, q_bt, q_bf, q_ft, q_tf, Nat.mul_zero, Nat.add_zero, Nat.zero_add, or_true, true_or, not_true_eq_false, not_false_eq_true, reduceCtorEq, hk]
      exact ⟨_, rfl, (i_or0 _).symm⟩
  obtain ⟨M', e1, e2⟩ := e
  exact ⟨M', e1, e2, fr_X9_markFading (nI i) M _ e1⟩
theorem fdO_lt (s : Nat → Nat → Bool) {mk : Nat → Nat} (h : ∀ i, mk i < 1024) (n : Nat) : fdO s mk n < 1024 := by
  have h1 : ∀ i j, fdI s mk i j < 1024 := by
    intro i j
    induction j with
    | zero => show 0 < 1024; omega
    | succ j ih =>
      unfold fdI
      apply or_lt ih
      split
      · exact or_lt (h i) (h j)
      · omega
  induction n with
  | zero => show 0 < 1024; omega
  | succ n ih => exact or_lt ih (h1 n n)
section CLS
variable {a b : Nat} {P : Pal} {R : Rol} {W : Wk} {M0 : PM}
theorem s_rash24 (hP : rP M0 a P) (ha : a + 9 ≤ 240) {n : Nat} (hn : n ≤ 15) {H K : Nat → Nat} (hH : ∀ i, i < n → H i < pH P) (h1 : ∀ i, i < n → M0.1 255 i = nI (H i) ∧ M0.1 256 i = if K i < 9 then nI (K i) else zI (-1)) (r : Int32) (k12 : Int32 → Int32 → PM → Option (Int32 × PM)) {i A : Nat} (hi : i < n) {M : PM} (hf : hr_fr hW_X9_markFading M0 M) :
    ∃ M', f_X9_rashOf_24 a b r k12 FU (nI A) (nI i) (nI 0) M = k12 (nI (A + sumN (fun j => strH P (H i) (H j)) i)) (nI (i + 1)) M' ∧ M'.1 249 12 = M.1 249 12 ||| nI (fdI (fun i j => foe P (H i) (H j)) (fun i => if K i < 9 then 2 ^ K i else 0) i i) ∧ hr_fr hW_X9_markFading M0 M' := by
  have h10 : pH P ≤ 10 := hP.1.2.1
  have h6 : pR P ≤ 6 := hP.1.2.2.1
  have gi := h1 i hi
  refine hr_for (σ := Int32 × PM) (fun f j s => f_X9_rashOf_24 a b r k12 f s.1 (nI i) (nI j) s.2) i (fun j s => s.1 = nI (A + sumN (fun j => strH P (H i) (H j)) j) ∧ s.2.1 249 12 = M.1 249 12 ||| nI (fdI (fun i j => foe P (H i) (H j)) (fun i => if K i < 9 then 2 ^ K i else 0) i j) ∧ hr_fr hW_X9_markFading M0 s.2) (fun x => ∃ M', x = k12 (nI (A + sumN (fun j => strH P (H i) (H j)) i)) (nI (i + 1)) M' ∧ M'.1 249 12 = M.1 249 12 ||| nI (fdI (fun i j => foe P (H i) (H j)) (fun i => if K i < 9 then 2 ^ K i else 0) i i) ∧ hr_fr hW_X9_markFading M0 M') ?_ ?_ FU 0 (nI A, M) (Nat.zero_le _) (FU_ok (by omega)) ⟨rfl, (i_or0 _).symm, hf⟩
  · rintro f j ⟨x, N⟩ hj ⟨hx, he, hf⟩
    dsimp only at hx he hf
    subst hx
    right
    have gj := h1 j (by omega)
    have hPN := rP_ag hP (hf.agr (n := 249) rfl) (Nat.zero_le _) (by omega)
    have e5 : N.1 255 = M0.1 255 := hf.row 255 (fun _ => rfl)
    have e6 : N.1 256 = M0.1 256 := hf.row 256 (fun _ => rfl)
    have hs := strH_le P (H i) (H j)
    show ∃ s' : Int32 × PM, f_X9_rashOf_24 a b r k12 (f + 1) _ (nI i) (nI j) N = f_X9_rashOf_24 a b r k12 f s'.1 (nI i) (nI (j + 1)) s'.2 ∧ _
    rw [f_X9_rashOf_24.eq_2]
    simp (disch := omega) only [q_lit, q_m1, q_m2, q_m1000, q_add, q_mul, q_cl, q_le, q_lt, q_eq, q_in, q_bd_some, eq_self, if_true, if_false, q_b0, q_b1, q_b01, q_bt, q_bf, q_ft, q_tf, Nat.mul_zero, Nat.add_zero, Nat.zero_add, or_true, true_or, not_true_eq_false, not_false_eq_true, reduceCtorEq, show ¬ i ≤ j by omega, e5, gi.1, gj.1, s_strengthOf hPN (hH i hi) (hH j (by omega))]
    by_cases h0 : strH P (H i) (H j) ≤ 0
    · rw [if_pos h0]
      refine ⟨(nI (A + sumN (fun j => strH P (H i) (H j)) j), N), rfl, ?_, ?_, hf⟩
      · show nI (A + sumN (fun j => strH P (H i) (H j)) j) = nI (A + (sumN (fun j => strH P (H i) (H j)) j + strH P (H i) (H j)))
        rw [show strH P (H i) (H j) = 0 by omega, Nat.add_zero]
      · show N.1 249 12 = _ ||| nI (fdI _ _ i j ||| (if foe P (H i) (H j) = true then _ else 0))
        unfold foe
        rw [decide_eq_false (by omega)]
        simp only [Bool.false_eq_true, if_false, Nat.or_zero]
        exact he
    · rw [if_neg h0]
      obtain ⟨N1, m1, m2, m3⟩ := s_mark (M := N) (i := i) (k := K i) (by omega) (by rw [e6]; exact gi.2)
      rw [m1, q_bd_some]
      obtain ⟨N2, m4, m5, m6⟩ := s_mark (M := N1) (i := j) (k := K j) (by omega) (by rw [m3.row 256 (fun _ => rfl), e6]; exact gj.2)
      rw [m4, q_bd_some]
      refine ⟨(nI (A + sumN (fun j => strH P (H i) (H j)) j + strH P (H i) (H j)), N2), rfl, ?_, ?_, (hf.tr m3).tr m6⟩
      · show _ = nI (A + (sumN (fun j => strH P (H i) (H j)) j + strH P (H i) (H j)))
        rw [Nat.add_assoc]
      · show N2.1 249 12 = _ ||| nI (fdI _ _ i j ||| (if foe P (H i) (H j) = true then _ else 0))
        rw [if_pos (show foe P (H i) (H j) = true by unfold foe; rw [decide_eq_true (by omega)]), m5, m2, he, i_ora, i_ora]
  · rintro f ⟨x, N⟩ ⟨hx, he, hf⟩
    dsimp only at hx he hf
    subst hx
    show ∃ M', f_X9_rashOf_24 a b r k12 (f + 1) _ (nI i) (nI i) N = _ ∧ _
    rw [f_X9_rashOf_24.eq_2]
    simp (disch := omega) only [q_lit, q_m1, q_m2, q_m1000, q_add, q_mul, q_cl, q_le, q_lt, q_eq, q_in, q_bd_some, eq_self, if_true, if_false, q_b0, q_b1, q_b01, q_bt, q_bf, q_ft, q_tf, Nat.mul_zero, Nat.add_zero, Nat.zero_add, or_true, true_or, not_true_eq_false, not_false_eq_true, reduceCtorEq, Nat.le_refl]
    exact ⟨N, rfl, he, hf⟩
theorem s_rash (hP : rP M0 a P) (ha : a + 9 ≤ 240) (hR : rR M0 b R) (hb : b + 4 ≤ 240) (hg : gOK P R) (hW : wOK P W) (hC : cW M0 R W) (r : Nat) : ∃ M' F, f_X9_rashOf a b (nI r) M0 = some (nI (rashS P R W r), M') ∧ M'.1 249 12 = M0.1 249 12 ||| nI F ∧ F < 1024 ∧ (∀ k, k < 9 → F.testBit k = clsS P R W r k) ∧ hr_fr hW_X9_rashOf M0 M' := by
  unfold f_X9_rashOf
  rw [if_pos hP.1.1, if_pos hR.1]
  obtain ⟨M1, g1, g2, g3⟩ := s_gather hR (by omega) hg hW hC r
  rw [g1, q_bd_some]
  have hP1 := rP_ag hP (g3.agr (n := 249) rfl) (Nat.zero_le _) (by omega)
  obtain ⟨K, k1, k2⟩ := cnt_pick (thB R W r) 15
  have hn : cnt (thB R W r) 15 ≤ 15 := cnt_le _ _
  have hM : ∀ i, i < cnt (thB R W r) 15 → M1.1 255 i = nI (thH R W r (K i)) ∧ M1.1 256 i = if K i < 9 then nI (K i) else zI (-1) := by
    intro i hi
    obtain ⟨h1, h2, h3⟩ := k1 i hi
    have := g2.2 (K i) h1 h2
    rw [h3] at this
    exact this
  have hH : ∀ i, i < cnt (thB R W r) 15 → thH R W r (K i) < pH P := fun i hi => thH_lt hg hW (k1 i hi).1 (k1 i hi).2.1
  have e12 : M1.1 249 12 = M0.1 249 12 := g3.at 249 12 rfl
  refine hr_for (σ := Int32 × PM) (fun f i s => f_X9_rashOf_12 a b (nI r) f s.1 (nI i) s.2) (cnt (thB R W r) 15) (fun i s => s.1 = nI (sumN (fun i => sumN (fun j => strH P (thH R W r (K i)) (thH R W r (K j))) i) i) ∧ s.2.1 249 12 = M0.1 249 12 ||| nI (fdO (fun i j => foe P (thH R W r (K i)) (thH R W r (K j))) (fun i => if K i < 9 then 2 ^ K i else 0) i) ∧ hr_fr hW_X9_markFading M1 s.2) (fun x => ∃ M' F, x = some (nI (rashS P R W r), M') ∧ M'.1 249 12 = M0.1 249 12 ||| nI F ∧ F < 1024 ∧ (∀ k, k < 9 → F.testBit k = clsS P R W r k) ∧ hr_fr hW_X9_rashOf M0 M') ?_ ?_ FU 0 (nI 0, M1) (Nat.zero_le _) (FU_ok (by omega)) ⟨rfl, e12.trans (i_or0 _).symm, hr_fr.rf _ _⟩
  · rintro f i ⟨x, N⟩ hi ⟨hx, he, hf⟩
    dsimp only at hx he hf
    subst hx
    right
    have e9 : N.1 249 9 = nI (cnt (thB R W r) 15) := (hf.at 249 9 rfl).trans g2.1
    obtain ⟨N', n1, n2, n3⟩ := s_rash24 (b := b) hP1 ha hn hH hM (nI r) (fun x4 x5 M => f_X9_rashOf_12 a b (nI r) f x4 x5 M) hi (A := sumN (fun i => sumN (fun j => strH P (thH R W r (K i)) (thH R W r (K j))) i) i) hf
    show ∃ s' : Int32 × PM, f_X9_rashOf_12 a b (nI r) (f + 1) _ (nI i) N = f_X9_rashOf_12 a b (nI r) f s'.1 (nI (i + 1)) s'.2 ∧ _
    rw [f_X9_rashOf_12.eq_2, e9]
    simp (disch := omega) only [q_lit, q_m1, q_m2, q_m1000, q_add, q_mul, q_cl, q_le, q_lt, q_eq, q_in, q_bd_some, eq_self, if_true, if_false, q_b0, q_b1, q_b01, q_bt, q_bf, q_ft, q_tf, Nat.mul_zero, Nat.add_zero, Nat.zero_add, or_true, true_or, not_true_eq_false, not_false_eq_true, reduceCtorEq, show ¬ cnt (thB R W r) 15 ≤ i by omega]
    rw [n1]
    refine ⟨(_, N'), rfl, rfl, ?_, n3⟩
    rw [n2, he, i_ora]
    rfl
  · rintro f ⟨x, N⟩ ⟨hx, he, hf⟩
    dsimp only at hx he hf
    subst hx
    have e9 : N.1 249 9 = nI (cnt (thB R W r) 15) := (hf.at 249 9 rfl).trans g2.1
    show ∃ M' F, f_X9_rashOf_12 a b (nI r) (f + 1) _ (nI (cnt (thB R W r) 15)) N = _ ∧ _
    rw [f_X9_rashOf_12.eq_2, e9]
    simp (disch := omega) only [q_lit, q_m1, q_m2, q_m1000, q_add, q_mul, q_cl, q_le, q_lt, q_eq, q_in, q_bd_some, eq_self, if_true, if_false, q_b0, q_b1, q_b01, q_bt, q_bf, q_ft, q_tf, Nat.mul_zero, Nat.add_zero, Nat.zero_add, or_true, true_or, not_true_eq_false, not_false_eq_true, reduceCtorEq, Nat.le_refl]
    refine ⟨N, _, ?_, he, fdO_lt _ (fun i => by split; exact pow_lt (by omega); omega) _, fun k hk => fd_cls k1 k2 hk, (hr_fr.mono rfl g3).tr (hr_fr.mono rfl hf)⟩
    rw [rash_pick k2]
end CLS
