/-! THE CLASS'S WALK -/
theorem gO (k : Nat) : (OfNat.ofNat k : Nat) = k := rfl
/-- it holds a walk -/
def cW (M : PM) (R : Rol) (W : Wk) : Prop := (M.1 249 0, M.1 249 1, M.1 249 2, M.1 249 3) = wF W ∧ (∀ k, k < 9 → M.1 250 k = wH W k) ∧ (∀ k, k < oN R → M.1 251 k = wA W k) ∧ ∀ p, p < 6 → M.1 252 p = wS W p ∧ M.1 253 p = wW W p ∧ M.1 254 p = wN W p
theorem cW.fr {M M' : PM} {R : Rol} {W : Wk} (h : cW M R W) {V : List (Nat × Nat)} (hf : hr_fr V M M') (hv : hr_sub V hW_X9_rashOf = true) : cW M' R W := by
  have g : ∀ a k, hr_in hW_X9_rashOf a k = false → M'.1 a k = M.1 a k := fun a k h2 => hf.at a k (hr_sub_in hv h2)
  obtain ⟨h1, h2, h3, h4⟩ := h
  unfold cW
  rw [g 249 0 rfl, g 249 1 rfl, g 249 2 rfl, g 249 3 rfl]
  refine ⟨h1, fun k hk => ?_, fun k hk => ?_, fun p hp => ?_⟩
  · rw [g 250 k rfl]; exact h2 k hk
  · rw [g 251 k rfl]; exact h3 k hk
  · rw [g 252 p rfl, g 253 p rfl, g 254 p rfl]; exact h4 p hp
/-- so many things are gathered -/
def gat (R : Rol) (W : Wk) (r k : Nat) (M : PM) : Prop := M.1 249 9 = nI (cnt (thB R W r) k) ∧ ∀ j, j < k → thB R W r j = true → M.1 255 (cnt (thB R W r) j) = nI (thH R W r j) ∧ M.1 256 (cnt (thB R W r) j) = if j < 9 then nI j else zI (-1)
theorem s_addThing {M : PM} {n : Nat} (h : M.1 249 9 = nI n) (hn : n < 15) (x y : Int32) : f_X9_addThing x y M = some ((), hr_si (hr_si (hr_si M 255 n x) 256 n y) 249 9 (nI (n + 1))) := by
  have e0 : ∀ (a k : Nat) (v : Int32), ¬ a = 249 → (hr_si M a k v).1 249 9 = nI n := by
    intro a k v ha
    rw [q_si1, if_neg (by omega)]
    exact h
  have e1 : (hr_si (hr_si M 255 n x) 256 n y).1 249 9 = nI n := by
    rw [q_si1, if_neg (by omega), q_si1, if_neg (by omega)]
    exact h
  unfold f_X9_addThing
  rw [h, q_cl (by omega), e0 255 n x (by omega), q_cl (by omega), e1]
  simp (disch := omega) only [q_lit, q_m1, q_m2, q_m1000, q_add, q_mul, q_cl, q_le, q_lt, q_eq, q_in, q_bd_some, eq_self, if_true, if_false, q_b0, q_b1, q_b01, q_bt, q_bf, q_ft, q_tf, Nat.mul_zero, Nat.add_zero, Nat.zero_add, or_true, true_or, not_true_eq_false, not_false_eq_true, reduceCtorEq, show ¬ 15 ≤ n by omega]
theorem gat.no {R : Rol} {W : Wk} {r k : Nat} {M : PM} (h : gat R W r k M) (hb : thB R W r k = false) : gat R W r (k + 1) M := by
  have e : cnt (thB R W r) (k + 1) = cnt (thB R W r) k + (if thB R W r k then 1 else 0) := rfl
  rw [hb] at e
  refine ⟨by rw [e]; exact h.1, ?_⟩
  intro j hj hbj
  by_cases ej : j = k
  · rw [ej, hb] at hbj; cases hbj
  · exact h.2 j (by omega) hbj
theorem gat.nos {R : Rol} {W : Wk} {r k m : Nat} {M : PM} (h : gat R W r k M) (hm : k ≤ m) (hb : ∀ j, k ≤ j → j < m → thB R W r j = false) : gat R W r m M := by
  induction m with
  | zero => rw [show k = 0 by omega] at h; exact h
  | succ m ih =>
    by_cases e : k = m + 1
    · rw [← e]; exact h
    · exact (ih (by omega) (fun j h1 h2 => hb j h1 (by omega))).no (hb m (by omega) (by omega))
theorem gat.add {R : Rol} {W : Wk} {r k : Nat} {M : PM} (h : gat R W r k M) (hb : thB R W r k = true) {x y : Int32} (hx : x = nI (thH R W r k)) (hy : y = if k < 9 then nI k else zI (-1)) :
    gat R W r (k + 1) (hr_si (hr_si (hr_si M 255 (cnt (thB R W r) k) x) 256 (cnt (thB R W r) k) y) 249 9 (nI (cnt (thB R W r) k + 1))) := by
  have e : cnt (thB R W r) (k + 1) = cnt (thB R W r) k + (if thB R W r k then 1 else 0) := rfl
  rw [hb] at e
  simp only [if_true] at e
  refine ⟨by rw [e]; simp [q_si1], ?_⟩
  intro j hj hbj
  have e5 : ∀ a b, (hr_si (hr_si (hr_si M 255 a x) 256 a y) 249 9 (nI (a + 1))).1 255 b = if b = a then x else M.1 255 b := by
    intro a b; simp [q_si1]
  have e6 : ∀ a b, (hr_si (hr_si (hr_si M 255 a x) 256 a y) 249 9 (nI (a + 1))).1 256 b = if b = a then y else M.1 256 b := by
    intro a b; simp [q_si1]
  rw [e5, e6]
  by_cases ej : j = k
  · subst ej
    rw [if_pos rfl, if_pos rfl]
    exact ⟨hx, hy⟩
  · have := cnt_ltk (show j < k by omega) hbj
    rw [if_neg (by omega), if_neg (by omega)]
    exact h.2 j (by omega) hbj
section CLS
variable {a b : Nat} {P : Pal} {R : Rol} {W : Wk} {M0 : PM}
theorem fr_add {M : PM} {n : Nat} {x y z : Int32} (h : hr_fr hW_X9_gatherThings M0 M) : hr_fr hW_X9_gatherThings M0 (hr_si (hr_si (hr_si M 255 n x) 256 n y) 249 9 z) := by
  refine hr_fr.si rfl (hr_fr.si ?_ (hr_fr.si ?_ h))
  · rfl
  · rfl
theorem s_gather53 (hg : gOK P R) (hW : wOK P W) (hC : cW M0 R W) (r : Nat) {M : PM} (hf : hr_fr hW_X9_gatherThings M0 M) (h : gat R W r 9 M) : ∃ M', f_X9_gatherThings_53 b (nI r) FU (nI 0) M = some ((), M') ∧ gat R W r 15 M' ∧ hr_fr hW_X9_gatherThings M0 M' := by
  have h10 : pH P ≤ 10 := hg.1.1.1
  refine hr_for (σ := PM) (fun f p M => f_X9_gatherThings_53 b (nI r) f (nI p) M) 6 (fun p M => hr_fr hW_X9_gatherThings M0 M ∧ gat R W r (9 + p) M) (fun x => ∃ M', x = some ((), M') ∧ gat R W r 15 M' ∧ hr_fr hW_X9_gatherThings M0 M') ?_ ?_ FU 0 M (Nat.zero_le _) (FU_ok (by omega)) ⟨hf, h⟩
  · rintro f p M hp ⟨hf, h⟩
    right
    have c4 := hC.2.2.2 p hp
    have e1 : M.1 252 p = wS W p := (hf.at 252 p rfl).trans c4.1
    have e2 : M.1 253 p = wW W p := (hf.at 253 p rfl).trans c4.2.1
    have hc := cnt_le (thB R W r) (9 + p)
    show ∃ s', f_X9_gatherThings_53 b (nI r) (f + 1) (nI p) M = f_X9_gatherThings_53 b (nI r) f (nI (p + 1)) s' ∧ _
    rw [f_X9_gatherThings_53.eq_2]
    simp (disch := omega) only [q_lit, q_m1, q_m2, q_m1000, q_add, q_mul, q_cl, q_le, q_lt, q_eq, q_in, q_bd_some, eq_self, if_true, if_false, q_b0, q_b1, q_b01, q_bt, q_bf, q_ft, q_tf, Nat.mul_zero, Nat.add_zero, Nat.zero_add, or_true, true_or, not_true_eq_false, not_false_eq_true, reduceCtorEq, show ¬ 6 ≤ p by omega, e1, e2]
    by_cases h1 : wS W p = nI r
    · by_cases h2 : wW W p = zI (-1)
      · rw [if_pos h1, if_pos h2]
        exact ⟨M, rfl, hf, h.no (thB_p (fun z => z.2 h2))⟩
      · obtain ⟨g1, g2⟩ := thg_p hW h10 hp h1 h2
        rw [if_pos h1, if_neg h2, s_addThing h.1 (by omega), q_bd_some]
        exact ⟨_, rfl, fr_add hf, h.add g1 g2 (by rw [if_neg (by omega)])⟩
    · rw [if_neg h1]
      exact ⟨M, rfl, hf, h.no (thB_p (fun z => h1 z.1))⟩
  · rintro f M ⟨hf, h⟩
    show ∃ M', f_X9_gatherThings_53 b (nI r) (f + 1) (nI 6) M = _ ∧ _
    rw [f_X9_gatherThings_53.eq_2]
    simp (disch := omega) only [q_lit, q_m1, q_m2, q_m1000, q_add, q_mul, q_cl, q_le, q_lt, q_eq, q_in, q_bd_some, eq_self, if_true, if_false, q_b0, q_b1, q_b01, q_bt, q_bf, q_ft, q_tf, Nat.mul_zero, Nat.add_zero, Nat.zero_add, or_true, true_or, not_true_eq_false, not_false_eq_true, reduceCtorEq, Nat.le_refl]
    exact ⟨M, rfl, h, hf⟩
theorem s_gather (hR : rR M0 b R) (hb : b < 240) (hg : gOK P R) (hW : wOK P W) (hC : cW M0 R W) (r : Nat) : ∃ M', f_X9_gatherThings b (nI r) M0 = some ((), M') ∧ gat R W r 15 M' ∧ hr_fr hW_X9_gatherThings M0 M' := by
  have h10 : pH P ≤ 10 := hg.1.1.1
  have hn : oN R ≤ 9 := hg.1.2.1
  unfold f_X9_gatherThings
  rw [if_pos hR.1]
  refine hr_for (σ := PM) (fun f k M => f_X9_gatherThings_7 b (nI r) f (nI k) M) (oN R) (fun k M => hr_fr hW_X9_gatherThings M0 M ∧ gat R W r k M) (fun x => ∃ M', x = some ((), M') ∧ gat R W r 15 M' ∧ hr_fr hW_X9_gatherThings M0 M') ?_ ?_ FU 0 _ (Nat.zero_le _) (FU_ok (by omega)) ⟨hr_fr.si rfl (hr_fr.rf _ _), by simp [q_si1]; rfl, fun j hj => by omega⟩
  · rintro f k M hk ⟨hf, h⟩
    right
    have ho := rR_ag hR (hf.agr (n := 249) rfl) (Nat.zero_le _) (by omega)
    have e0 := ho.2.1.1
    have e3 := (ho.2.2 k hk).2.1
    have e1 : M.1 250 k = wH W k := (hf.at 250 k rfl).trans (hC.2.1 k (by omega))
    have e2 : M.1 251 k = wA W k := (hf.at 251 k rfl).trans (hC.2.2.1 k hk)
    have hc := cnt_le (thB R W r) k
    show ∃ s', f_X9_gatherThings_7 b (nI r) (f + 1) (nI k) M = f_X9_gatherThings_7 b (nI r) f (nI (k + 1)) s' ∧ _
    rw [f_X9_gatherThings_7.eq_2]
    simp (disch := omega) only [q_lit, q_m1, q_m2, q_m1000, q_add, q_mul, q_cl, q_le, q_lt, q_eq, q_in, q_bd_some, eq_self, if_true, if_false, q_b0, q_b1, q_b01, q_bt, q_bf, q_ft, q_tf, Nat.mul_zero, Nat.add_zero, Nat.zero_add, or_true, true_or, not_true_eq_false, not_false_eq_true, reduceCtorEq, e0, show ¬ oN R ≤ k by omega, e1, e2, e3]
    by_cases h1 : wH W k = nI r
    · by_cases h2 : wA W k ≤ 0
      · rw [if_pos h1, if_pos (show wA W k ≤ nI 0 from h2)]
        exact ⟨M, rfl, hf, h.no (thB_g (by omega) (fun z => z.2.2 h2))⟩
      · obtain ⟨g1, g2⟩ := thg_g hg hk h1 h2
        rw [if_pos h1, if_neg (show ¬ wA W k ≤ nI 0 from h2), s_addThing h.1 (by omega), q_bd_some]
        exact ⟨_, rfl, fr_add hf, h.add g1 g2 (by rw [if_pos (by omega)])⟩
    · rw [if_neg h1]
      exact ⟨M, rfl, hf, h.no (thB_g (by omega) (fun z => h1 z.2.1))⟩
  · rintro f M ⟨hf, h⟩
    have ho := rR_ag hR (hf.agr (n := 249) rfl) (Nat.zero_le _) (by omega)
    have e0 := ho.2.1.1
    show ∃ M', f_X9_gatherThings_7 b (nI r) (f + 1) (nI (oN R)) M = _ ∧ _
    rw [f_X9_gatherThings_7.eq_2]
    simp (disch := omega) only [q_lit, q_m1, q_m2, q_m1000, q_add, q_mul, q_cl, q_le, q_lt, q_eq, q_in, q_bd_some, eq_self, if_true, if_false, q_b0, q_b1, q_b01, q_bt, q_bf, q_ft, q_tf, Nat.mul_zero, Nat.add_zero, Nat.zero_add, or_true, true_or, not_true_eq_false, not_false_eq_true, reduceCtorEq, e0, Nat.le_refl]
    exact s_gather53 hg hW hC r hf (h.nos hn (fun j h1 h2 => thB_g h2 (fun z => by omega)))
end CLS
