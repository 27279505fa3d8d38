/-! DINNERS: the class counts the ways -/
theorem rP.eq1 {M N : PM} {a : Nat} {P : Pal} (h : rP M a P) (e : N.1 = M.1) : rP N a P := h.agr (fun d _ _ => by rw [e])
theorem rR.eq1 {M N : PM} {b : Nat} {R : Rol} (h : rR M b R) (e : N.1 = M.1) : rR N b R := by
  unfold rR at h ⊢
  rw [e]
  exact h
/-- the ways of a guest and all behind him, as they lie -/
def rowW (M : PM) (P : Pal) (R : Rol) (f k : Nat) : Prop := ∀ h, h < pH P → M.2.1 272 (10 * k + h) = lN (dV P R (bC P f) 1023 (oN R - 1 - k) h)
/-- memory but for the ways -/
def eqW (M N : PM) : Prop := N.1 = M.1 ∧ ∀ c, c ≠ 272 → N.2.1 c = M.2.1 c
theorem sl_same (M : PM) (a k : Nat) (v : Int64) (j : Nat) : (hr_sl M a k v).2.1 a j = if j = k then v else M.2.1 a j := by rw [q_sl2, if_pos rfl]
theorem sl_ne (M : PM) {a b : Nat} (k : Nat) (v : Int64) (h : b ≠ a) : (hr_sl M a k v).2.1 b = M.2.1 b := by
  funext j
  rw [q_sl2, if_neg h]
theorem eqW.sl {M N : PM} (h : eqW M N) (k : Nat) (v : Int64) : eqW M (hr_sl N 272 k v) := ⟨h.1, fun c hc => by rw [sl_ne _ _ _ hc]; exact h.2 c hc⟩
theorem lc0le {x : Nat} (h : x < 2147483648) : (lg_cmp (lN x) 0 ≤ 0) = (x = 0) := propext (by
  rw [lg_cmp_le, show (0 : Int64) = lN 0 from rfl, lN_le (by omega) (by omega)]
  omega)
section CLS
variable {a b : Nat} {P : Pal} {R : Rol}
theorem s_waysBehind {M : PM} (hP : rP M a P) (hR : rR M b R) (hO : nOK P R) {f k h : Nat} (hk : k + 1 < oN R) (hh : h < pH P) (hw : rowW M P R f (k + 1)) : f_X7_waysBehind a b (nI k) (nI h) M = some (lN (dV P R (bC P f) 1023 (oN R - 1 - k) h), M) := by
  have h10 := hP.1.2.1
  have h8 : oN R ≤ 8 := hO.2.1.1
  have gl := gw_lt hO hk
  have e1 : M.1 (b + 2) (k + 1) = nI (gw R (k + 1)) := by rw [(hR.2.2 _ hk).2.1, (hO.2.2 _ hk).2]
  have bl := bd_le (gw R (k + 1)) (foes P h)
  have ed : oN R - 1 - k = oN R - 1 - (k + 1) + 1 := by omega
  have ek : oN R - 1 - (oN R - 1 - (k + 1)) = k + 1 := by omega
  unfold f_X7_waysBehind
  rw [if_pos hP.1.1, if_pos hR.1, q_lit 1, gO 1, q_add, if_pos (q_in (by omega) (by omega)), q_cl (by omega), s_foesOf hP hh, q_bd_some, e1, q_m1, q_bd]
  refine hr_for (σ := Unit) (fun g j _ => f_X7_waysBehind_25 a b (nI k) (nI h) g (nI (bd (gw R (k + 1)) (foes P h))) (lN (sumN (fun j => if foe P h j then 0 else if (gw R (oN R - 1 - (oN R - 1 - (k + 1))) &&& 1023).testBit j then dV P R (bC P f) 1023 (oN R - 1 - (k + 1)) j else 0) j)) (nI j) M) (pH P) (fun _ _ => True) (fun r => r = some (lN (dV P R (bC P f) 1023 (oN R - 1 - k) h), M)) ?_ ?_ FU 0 () (Nat.zero_le _) (FU_ok (by omega)) trivial
  · intro g j _ hj _
    right
    refine ⟨(), ?_, trivial⟩
    have eb : (bd (gw R (k + 1)) (foes P h)).testBit j = ((gw R (k + 1)).testBit j && !foe P h j) := by
      rw [bd_bit]
      unfold foes
      rw [bset_bit, decide_eq_true hj]
      rfl
    show f_X7_waysBehind_25 a b (nI k) (nI h) (g + 1) _ (lN (sumN _ j)) (nI j) M = f_X7_waysBehind_25 a b (nI k) (nI h) g _ (lN (sumN _ j + (if foe P h j then 0 else if (gw R (oN R - 1 - (oN R - 1 - (k + 1))) &&& 1023).testBit j then dV P R (bC P f) 1023 (oN R - 1 - (k + 1)) j else 0))) (nI (j + 1)) M
    rw [f_X7_waysBehind_25.eq_2, hP.2.1.1, if_neg (fun z => by have := (q_le (by omega) (by omega)).mp z; omega), s_holdsBit M (by omega) (by omega), q_bd_some, eb, q_lit 1, gO 1, q_add, q_lit 10, gO 10, q_add, q_mul, q_add, if_pos (q_in (by omega) (by omega)), q_cl (by omega), hw j hj, lN_add, ek, gw_and hO hk]
    cases h1 : (gw R (k + 1)).testBit j with
    | false =>
      rw [Bool.false_and, if_pos (show bI false = 0 from rfl), if_neg (show ¬ false = true by simp)]
      cases foe P h j <;> rfl
    | true =>
      cases hf : foe P h j with
      | true => rw [if_pos (show bI (true && !true) = 0 from rfl)]; rfl
      | false => rw [if_neg (show ¬ bI (true && !false) = 0 by decide)]; rfl
  · intro g _ _
    show f_X7_waysBehind_25 a b (nI k) (nI h) (g + 1) _ (lN (sumN _ (pH P))) (nI (pH P)) M = _
    rw [f_X7_waysBehind_25.eq_2, hP.2.1.1, if_pos (Int32.le_refl _), ed]
    rfl
theorem s_begun67 {M0 M : PM} (hP : rP M0 a P) (hR : rR M0 b R) (hO : nOK P R) {f : Nat} (hf : f < pH P) (h2 : 2 ≤ oN R) (he : eqW M0 M) (hw : rowW M P R f (oN R - 1)) : ∃ M', f_X7_waysBegunBy_67 a b (nI f) FU (nI (oN R - 2)) M = some (lN (dV P R (bC P f) 1023 (oN R - 1) f), M') ∧ eqW M0 M' ∧ ∀ k, 1 ≤ k → k < oN R → rowW M' P R f k := by
  have h10 := hP.1.2.1
  have h8 : oN R ≤ 8 := hO.2.1.1
  refine hr_for (σ := PM) (fun g i N => f_X7_waysBegunBy_67 a b (nI f) g (nI (oN R - 2 - i)) N) (oN R - 2) (fun i N => eqW M0 N ∧ ∀ k, oN R - 2 - i < k → k < oN R → rowW N P R f k) (fun r => ∃ M', r = some (lN (dV P R (bC P f) 1023 (oN R - 1) f), M') ∧ eqW M0 M' ∧ ∀ k, 1 ≤ k → k < oN R → rowW M' P R f k) ?_ ?_ FU 0 M (Nat.zero_le _) (FU_ok (by omega)) ⟨he, fun k h1 h2 => by rw [show k = oN R - 1 by omega]; exact hw⟩
  · rintro g i N hi ⟨he, hw⟩
    right
    have en : nI (oN R - 2 - i) + -(1 : Int32) = nI (oN R - 2 - (i + 1)) := by
      rw [show (-(1 : Int32)) = zI (-1) by decide, q_nzadd, q_nz]; congr 1; omega
    show ∃ s', f_X7_waysBegunBy_67 a b (nI f) (g + 1) (nI (oN R - 2 - i)) N = f_X7_waysBegunBy_67 a b (nI f) g (nI (oN R - 2 - (i + 1))) s' ∧ _
    rw [f_X7_waysBegunBy_67.eq_2, show (0 : Int32) = nI 0 from rfl, if_neg (fun z => by have := (q_le (by omega) (by omega)).mp z; omega)]
    refine hr_for (σ := PM) (fun g2 h N => f_X7_waysBegunBy_75 a b (nI f) (fun x5 M => f_X7_waysBegunBy_67 a b (nI f) g x5 M) g2 (nI (oN R - 2 - i)) (nI h) N) (pH P) (fun h N => eqW M0 N ∧ (∀ k, oN R - 2 - i < k → k < oN R → rowW N P R f k) ∧ ∀ j, j < h → N.2.1 272 (10 * (oN R - 2 - i) + j) = lN (dV P R (bC P f) 1023 (oN R - 1 - (oN R - 2 - i)) j)) (fun r => ∃ s', r = f_X7_waysBegunBy_67 a b (nI f) g (nI (oN R - 2 - (i + 1))) s' ∧ eqW M0 s' ∧ ∀ k, oN R - 2 - (i + 1) < k → k < oN R → rowW s' P R f k) ?_ ?_ FU 0 N (Nat.zero_le _) (FU_ok (by omega)) ⟨he, hw, fun j hj => by omega⟩
    · rintro g2 h N hh ⟨he, hw, hr⟩
      right
      have sw := s_waysBehind (hP.eq1 he.1) (hR.eq1 he.1) hO (f := f) (k := oN R - 2 - i) (h := h) (by omega) hh (hw _ (by omega) (by omega))
      show ∃ s', f_X7_waysBegunBy_75 a b (nI f) _ (g2 + 1) (nI (oN R - 2 - i)) (nI h) N = f_X7_waysBegunBy_75 a b (nI f) _ g2 (nI (oN R - 2 - i)) (nI (h + 1)) s' ∧ _
      rw [f_X7_waysBegunBy_75.eq_2, (hP.eq1 he.1).2.1.1, if_neg (fun z => by have := (q_le (by omega) (by omega)).mp z; omega), sw, q_bd_some, q_lit 10, gO 10, q_mul, q_add, if_pos (q_in (by omega) (by omega)), q_cl (by omega), q_lit 1, gO 1, q_add]
      refine ⟨_, rfl, he.sl _ _, fun k k1 k2 j hj => ?_, fun j hj => ?_⟩
      · rw [sl_same, if_neg (by omega)]; exact hw k k1 k2 j hj
      · rw [sl_same]
        by_cases z : j = h
        · rw [if_pos (by omega), z]
        · rw [if_neg (by omega)]; exact hr j (by omega)
    · rintro g2 N ⟨he, hw, hr⟩
      show ∃ s', f_X7_waysBegunBy_75 a b (nI f) _ (g2 + 1) (nI (oN R - 2 - i)) (nI (pH P)) N = _ ∧ _
      rw [f_X7_waysBegunBy_75.eq_2, (hP.eq1 he.1).2.1.1, if_pos (Int32.le_refl _), en]
      refine ⟨N, rfl, he, fun k k1 k2 => ?_⟩
      by_cases z : k = oN R - 2 - i
      · rw [z]; exact fun j hj => hr j hj
      · exact hw k (by omega) k2
  · rintro g N ⟨he, hw⟩
    show ∃ M', f_X7_waysBegunBy_67 a b (nI f) (g + 1) (nI (oN R - 2 - (oN R - 2))) N = _ ∧ _
    rw [f_X7_waysBegunBy_67.eq_2, Nat.sub_self, show (0 : Int32) = nI 0 from rfl, if_pos (Int32.le_refl _), s_waysBehind (hP.eq1 he.1) (hR.eq1 he.1) hO (f := f) (k := 0) (by omega) hf (hw _ (by omega) (by omega)), q_bd_some]
    exact ⟨N, rfl, he, fun k k1 k2 => hw k (by omega) k2⟩
theorem s_waysBegunBy {M0 : PM} (hP : rP M0 a P) (hR : rR M0 b R) (hO : nOK P R) {f : Nat} (hf : f < pH P) (h1 : 1 ≤ oN R) : ∃ M', f_X7_waysBegunBy a b (nI f) M0 = some (lN (dV P R (bC P f) 1023 (oN R - 1) f), M') ∧ eqW M0 M' ∧ ∀ k, 1 ≤ k → k < oN R → rowW M' P R f k := by
  have h10 := hP.1.2.1
  have h8 : oN R ≤ 8 := hO.2.1.1
  unfold f_X7_waysBegunBy
  rw [if_pos hP.1.1, if_pos hR.1, hR.2.1.1, q_lit 1, gO 1, q_sub h1]
  by_cases e1 : oN R = 1
  · rw [if_pos (show nI (oN R - 1) = 0 by rw [e1]; rfl)]
    refine ⟨M0, ?_, ⟨rfl, fun _ _ => rfl⟩, fun k k1 k2 => by omega⟩
    rw [e1]
    show _ = some (lN (bC P f f), M0)
    unfold bC
    rw [foe_self, if_neg (by simp)]
    rfl
  · rw [if_neg (show ¬ nI (oN R - 1) = 0 from fun z => by have := (q_eq (b := 0) (by omega) (by omega)).mp z; omega)]
    refine hr_for (σ := PM) (fun g h N => f_X7_waysBegunBy_18 a b (nI f) g (nI (oN R - 1)) (nI h) N) (pH P) (fun h N => eqW M0 N ∧ ∀ j, j < h → N.2.1 272 (10 * (oN R - 1) + j) = lN (bC P f j)) (fun r => ∃ M', r = some (lN (dV P R (bC P f) 1023 (oN R - 1) f), M') ∧ eqW M0 M' ∧ ∀ k, 1 ≤ k → k < oN R → rowW M' P R f k) ?_ ?_ FU 0 M0 (Nat.zero_le _) (FU_ok (by omega)) ⟨⟨rfl, fun _ _ => rfl⟩, fun j hj => by omega⟩
    · rintro g h N hh ⟨he, hr⟩
      right
      have hst := strH_le P h f
      have h6 := hP.1.2.2.1
      have eb : lN (bC P f h) = if strH P h f = 0 then 1 else 0 := by
        unfold bC foe
        by_cases z : strH P h f = 0
        · rw [if_pos z, decide_eq_false (by omega), if_neg (by simp)]; rfl
        · rw [if_neg z, decide_eq_true (by omega), if_pos rfl]; rfl
      show ∃ s', f_X7_waysBegunBy_18 a b (nI f) (g + 1) (nI (oN R - 1)) (nI h) N = f_X7_waysBegunBy_18 a b (nI f) g (nI (oN R - 1)) (nI (h + 1)) s' ∧ _
      rw [f_X7_waysBegunBy_18.eq_2, (hP.eq1 he.1).2.1.1, if_neg (fun z => by have := (q_le (by omega) (by omega)).mp z; omega), s_strengthOf (hP.eq1 he.1) hh hf, q_bd_some, q_lit 10, gO 10, q_mul, q_add, if_pos (q_in (by omega) (by omega)), if_pos (q_in (by omega) (by omega)), q_cl (by omega), show (1 : Int32) = nI 1 from rfl, q_add]
      refine ⟨hr_sl N 272 (10 * (oN R - 1) + h) (lN (bC P f h)), ?_, he.sl _ _, fun j hj => ?_⟩
      · rw [eb]
        by_cases z : strH P h f = 0
        · rw [if_pos (show nI (strH P h f) ≤ 0 by rw [z]; decide), if_pos z]
        · rw [if_neg (show ¬ nI (strH P h f) ≤ 0 from fun y => by have := (q_le (b := 0) (by omega) (by omega)).mp y; omega), if_neg z]
      · rw [sl_same]
        by_cases z : j = h
        · rw [if_pos (by omega), z]
        · rw [if_neg (by omega)]; exact hr j (by omega)
    · rintro g N ⟨he, hr⟩
      show ∃ M', f_X7_waysBegunBy_18 a b (nI f) (g + 1) (nI (oN R - 1)) (nI (pH P)) N = _ ∧ _
      rw [f_X7_waysBegunBy_18.eq_2, (hP.eq1 he.1).2.1.1, if_pos (Int32.le_refl _), q_lit 1, gO 1, q_sub (show 1 ≤ oN R - 1 by omega), show oN R - 1 - 1 = oN R - 2 by omega]
      refine s_begun67 hP hR hO hf (by omega) he (fun j hj => ?_)
      rw [hr j hj, Nat.sub_self]
      rfl
end CLS
