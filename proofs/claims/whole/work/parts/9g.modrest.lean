/-! DINNERS: the model counts the ways -/
theorem gN.eq1 {M N : PM} {k : Nat} {R : Rol} (h : gN M k R) (e : N.1 = M.1) : gN N k R := h.at (by rw [e]) (by rw [e])
/-- the ways of a guest and all behind him, as the model has them -/
def mRv (P : Pal) (R : Rol) (s f k h : Nat) : Nat := if (gw R k &&& s).testBit h = true ∧ (0 < k ∨ h = f) then dV P R (bM P R f) s (oN R - 1 - k) h else 0
def mRow (M : PM) (P : Pal) (R : Rol) (s f k : Nat) : Prop := ∀ h, h < pH P → M.2.1 302 (10 * k + h) = lN (mRv P R s f k h)
section MOD
variable {q g : Nat} {P : Pal} {R : Rol}
theorem s_rest153 {N : PM} {k h : Nat} (hk : k < 8) (hh : h < 10) (v : Nat) (c : Bool) (a1 a2 x3 : Int32) (k10 : Int32 → Int32 → PM → Option (Unit × PM)) (k18 : Int32 → Int32 → Int32 → PM → Option (Unit × PM)) : f_X11_findRest_153 a1 a2 k10 k18 x3 (nI k) (nI h) (lN v) (bI c) N = k18 x3 (nI k) (nI (h + 1)) (hr_sl N 302 (10 * k + h) (lN (if c then v else 0))) := by
  unfold f_X11_findRest_153
  rw [q_lit 10, gO 10, q_mul, q_add, if_pos (q_in (by omega) (by omega)), if_pos (q_in (by omega) (by omega)), q_cl (by omega), q_lit 1, gO 1, q_add]
  cases c with
  | false => rw [if_pos (show bI false = 0 from rfl)]; rfl
  | true => rw [if_neg (show ¬ bI true = 0 by decide)]; rfl
theorem s_rest121 {N : PM} (hN : gN N g R) (hO : nOK P R) {s f k h : Nat} (hs : s < 1024) (hk : k < oN R) (hh : h < pH P) (hf : f < pH P) (v : Nat) (x3 : Int32) (k10 : Int32 → Int32 → PM → Option (Unit × PM)) (k18 : Int32 → Int32 → Int32 → PM → Option (Unit × PM)) : f_X11_findRest_121 (nI f) (nI s) k10 k18 x3 (nI k) (nI h) (lN v) N = k18 x3 (nI k) (nI (h + 1)) (hr_sl N 302 (10 * k + h) (lN (if (gw R k &&& s).testBit h = true ∧ (0 < k ∨ h = f) then v else 0))) := by
  have h10 := hO.1.1
  have h8 : oN R ≤ 8 := hO.2.1.1
  have gl := gw_lt hO hk
  have al : gw R k &&& s ≤ gw R k := Nat.and_le_left
  have e153 := fun c => s_rest153 (N := N) (show k < 8 by omega) (show h < 10 by omega) v c (nI f) (nI s) x3 k10 k18
  unfold f_X11_findRest_121
  rw [s_worn hN hk, q_bd_some, (hO.2.2 k hk).2, q_and, s_has11 N (by omega) (by omega), q_bd_some]
  cases hb : (gw R k &&& s).testBit h with
  | false =>
    rw [if_pos (show bI false = 0 from rfl), show (0 : Int32) = bI false from rfl, e153, if_neg (show ¬ false = true by simp), if_neg (show ¬ (false = true ∧ (0 < k ∨ h = f)) by simp)]
  | true =>
    rw [if_neg (show ¬ bI true = 0 by decide), show (1 : Int32) = bI true from rfl]
    by_cases z1 : 0 < k
    · rw [if_pos (show (0 : Int32) < nI k from (q_lt (a := 0) (by omega) (by omega)).mpr z1), e153, if_pos rfl, if_pos ⟨rfl, Or.inl z1⟩]
    · rw [if_neg (show ¬ (0 : Int32) < nI k from fun y => z1 ((q_lt (a := 0) (by omega) (by omega)).mp y))]
      by_cases z2 : h = f
      · rw [if_pos (show nI h = nI f by rw [z2]), e153, if_pos rfl, if_pos ⟨rfl, Or.inr z2⟩]
      · rw [if_neg (fun y => z2 ((q_eq (by omega) (by omega)).mp y)), show (0 : Int32) = bI false from rfl, e153, if_neg (show ¬ false = true by simp), if_neg (fun y => by rcases y.2 with w | w <;> omega)]
theorem s_findRest {M : PM} (hH : hM M q P) (hN : gN M g R) (hO : nOK P R) {s f : Nat} (hs : s < 1024) (hf : f < pH P) : ∃ M', f_X11_findRest (nI f) (nI s) M = some ((), M') ∧ M'.1 = M.1 ∧ ∀ k, k < oN R → mRow M' P R s f k := by
  have h10 := hO.1.1
  have h8 : oN R ≤ 8 := hO.2.1.1
  unfold f_X11_findRest
  rw [s_guests hN, q_bd_some, q_lit 1, gO 1, show nI (oN R) - nI 1 = zI ((oN R : Int) - 1 - (0 : Nat)) by rw [q_nsub]; congr 1; omega]
  refine hr_for (σ := PM) (fun t i N => f_X11_findRest_10 (nI f) (nI s) t (nI (oN R)) (zI ((oN R : Int) - 1 - i)) N) (oN R) (fun i N => N.1 = M.1 ∧ ∀ k, oN R - i ≤ k → k < oN R → mRow N P R s f k) (fun r => ∃ M', r = some ((), M') ∧ M'.1 = M.1 ∧ ∀ k, k < oN R → mRow M' P R s f k) ?_ ?_ FU 0 M (Nat.zero_le _) (FU_ok (by omega)) ⟨rfl, fun k h1 h2 => by omega⟩
  · rintro t i N hi ⟨he, hr⟩
    right
    have ek : zI ((oN R : Int) - 1 - i) = nI (oN R - 1 - i) := by rw [q_nz]; congr 1; omega
    have en : nI (oN R - 1 - i) + -(1 : Int32) = zI ((oN R : Int) - 1 - (i + 1 : Nat)) := by
      rw [show (-(1 : Int32)) = zI (-1) by decide, q_nzadd]; congr 1; omega
    generalize hk : oN R - 1 - i = k at *
    have hkn : k < oN R := by omega
    show ∃ s', f_X11_findRest_10 (nI f) (nI s) (t + 1) (nI (oN R)) (zI ((oN R : Int) - 1 - i)) N = f_X11_findRest_10 (nI f) (nI s) t (nI (oN R)) (zI ((oN R : Int) - 1 - (i + 1 : Nat))) s' ∧ _
    rw [ek, f_X11_findRest_10.eq_2, if_neg (nI_pos (by omega)), ← en]
    refine hr_for (σ := PM) (fun t2 h N => f_X11_findRest_18 (nI f) (nI s) (fun x3 x4 M => f_X11_findRest_10 (nI f) (nI s) t x3 x4 M) t2 (nI (oN R)) (nI k) (nI h) N) (pH P) (fun h N => N.1 = M.1 ∧ (∀ k', k < k' → k' < oN R → mRow N P R s f k') ∧ ∀ j, j < h → N.2.1 302 (10 * k + j) = lN (mRv P R s f k j)) (fun r => ∃ s', r = f_X11_findRest_10 (nI f) (nI s) t (nI (oN R)) (nI k + -(1 : Int32)) s' ∧ s'.1 = M.1 ∧ ∀ k', oN R - (i + 1) ≤ k' → k' < oN R → mRow s' P R s f k') ?_ ?_ FU 0 N (Nat.zero_le _) (FU_ok (by omega)) ⟨he, fun k' h1 h2 => hr k' (by omega) h2, fun j hj => by omega⟩
    · rintro t2 h N hh ⟨he, hr, hrow⟩
      right
      have hHN := hH.eq1 he
      have hNN := hN.eq1 he
      have fin : ∀ v, v = dV P R (bM P R f) s (oN R - 1 - k) h → (hr_sl N 302 (10 * k + h) (lN (if (gw R k &&& s).testBit h = true ∧ (0 < k ∨ h = f) then v else 0))).1 = M.1 ∧ (∀ k', k < k' → k' < oN R → mRow (hr_sl N 302 (10 * k + h) (lN (if (gw R k &&& s).testBit h = true ∧ (0 < k ∨ h = f) then v else 0))) P R s f k') ∧ ∀ j, j < h + 1 → (hr_sl N 302 (10 * k + h) (lN (if (gw R k &&& s).testBit h = true ∧ (0 < k ∨ h = f) then v else 0))).2.1 302 (10 * k + j) = lN (mRv P R s f k j) := by
        intro v hv
        refine ⟨he, fun k' h1 h2 j hj => ?_, fun j hj => ?_⟩
        · rw [sl_same, if_neg (by omega)]; exact hr k' h1 h2 j hj
        · rw [sl_same]
          by_cases z : j = h
          · rw [if_pos (by omega), z, hv]; rfl
          · rw [if_neg (by omega)]; exact hrow j (by omega)
      have out := fun v => s_rest121 hNN hO hs hkn hh hf v (nI (oN R)) (fun x3 x4 M => f_X11_findRest_10 (nI f) (nI s) t x3 x4 M) (fun x3 x4 x5 M => f_X11_findRest_18 (nI f) (nI s) (fun x3 x4 M => f_X11_findRest_10 (nI f) (nI s) t x3 x4 M) t2 x3 x4 x5 M)
      show ∃ s', f_X11_findRest_18 (nI f) (nI s) _ (t2 + 1) (nI (oN R)) (nI k) (nI h) N = f_X11_findRest_18 (nI f) (nI s) _ t2 (nI (oN R)) (nI k) (nI (h + 1)) s' ∧ _
      rw [f_X11_findRest_18.eq_2, hHN.2.1.2, if_neg (fun z => by have := (q_le (by omega) (by omega)).mp z; omega), q_lit 1, gO 1, q_sub (show 1 ≤ oN R by omega)]
      -- the last one's row: no sum goes on
      have last : k = oN R - 1 → ∀ v, f_X11_findRest_63 (nI f) (nI s) (fun x3 x4 M => f_X11_findRest_10 (nI f) (nI s) t x3 x4 M) (fun x3 x4 x5 M => f_X11_findRest_18 (nI f) (nI s) (fun x3 x4 M => f_X11_findRest_10 (nI f) (nI s) t x3 x4 M) t2 x3 x4 x5 M) FU (nI (oN R)) (nI k) (nI h) (lN v) 0 N = f_X11_findRest_121 (nI f) (nI s) (fun x3 x4 M => f_X11_findRest_10 (nI f) (nI s) t x3 x4 M) (fun x3 x4 x5 M => f_X11_findRest_18 (nI f) (nI s) (fun x3 x4 M => f_X11_findRest_10 (nI f) (nI s) t x3 x4 M) t2 x3 x4 x5 M) (nI (oN R)) (nI k) (nI h) (lN v) N := by
        intro z v
        show f_X11_findRest_63 (nI f) (nI s) _ _ (3999 + 1) (nI (oN R)) (nI k) (nI h) (lN v) (nI 0) N = _
        rw [f_X11_findRest_63.eq_2, hHN.2.1.2, if_neg (fun z => by have := (q_le (by omega) (by omega)).mp z; omega), q_lit 1, gO 1, q_sub (show 1 ≤ oN R by omega), if_pos ((q_le (by omega) (by omega)).mpr (by omega))]
      by_cases z : k = oN R - 1
      · rw [if_pos (show nI k = nI (oN R - 1) by rw [z])]
        have ev : dV P R (bM P R f) s (oN R - 1 - k) h = bM P R f h := by rw [z, Nat.sub_self]; rfl
        by_cases z3 : oN R < 3
        · rw [if_pos (show nI (oN R) < 3 from (q_lt (b := 3) (by omega) (by omega)).mpr z3)]
          unfold f_X11_findRest_53
          rw [show (1 : Int64) = lN 1 from rfl, last z, out]
          exact ⟨_, rfl, fin 1 (by rw [ev]; unfold bM; rw [if_pos (Or.inl z3)])⟩
        · rw [if_neg (show ¬ nI (oN R) < 3 from fun y => z3 ((q_lt (b := 3) (by omega) (by omega)).mp y)), s_clash hHN hh hf, q_bd_some]
          cases hq : foe P h f with
          | false =>
            rw [if_pos (show bI false = 0 from rfl)]
            unfold f_X11_findRest_53
            rw [show (1 : Int64) = lN 1 from rfl, last z, out]
            exact ⟨_, rfl, fin 1 (by rw [ev]; unfold bM; rw [if_pos (Or.inr hq)])⟩
          | true =>
            rw [if_neg (show ¬ bI true = 0 by decide), show (0 : Int64) = lN 0 from rfl, last z, out]
            exact ⟨_, rfl, fin 0 (by rw [ev]; unfold bM; rw [if_neg (by rw [hq]; simp; omega)])⟩
      · rw [if_neg (show ¬ nI k = nI (oN R - 1) from fun y => z ((q_eq (by omega) (by omega)).mp y))]
        have ed : oN R - 1 - k = oN R - 1 - (k + 1) + 1 := by omega
        have e2 : oN R - 1 - (oN R - 1 - (k + 1)) = k + 1 := by omega
        refine hr_for (σ := Unit) (fun t3 j _ => f_X11_findRest_63 (nI f) (nI s) (fun x3 x4 M => f_X11_findRest_10 (nI f) (nI s) t x3 x4 M) (fun x3 x4 x5 M => f_X11_findRest_18 (nI f) (nI s) (fun x3 x4 M => f_X11_findRest_10 (nI f) (nI s) t x3 x4 M) t2 x3 x4 x5 M) t3 (nI (oN R)) (nI k) (nI h) (lN (sumN (fun j => if foe P h j then 0 else if (gw R (oN R - 1 - (oN R - 1 - (k + 1))) &&& s).testBit j then dV P R (bM P R f) s (oN R - 1 - (k + 1)) j else 0) j)) (nI j) N) (pH P) (fun _ _ => True) (fun r => ∃ s', r = f_X11_findRest_18 (nI f) (nI s) (fun x3 x4 M => f_X11_findRest_10 (nI f) (nI s) t x3 x4 M) t2 (nI (oN R)) (nI k) (nI (h + 1)) s' ∧ s'.1 = M.1 ∧ (∀ k', k < k' → k' < oN R → mRow s' P R s f k') ∧ ∀ j, j < h + 1 → s'.2.1 302 (10 * k + j) = lN (mRv P R s f k j)) ?_ ?_ FU 0 () (Nat.zero_le _) (FU_ok (by omega)) trivial
        · intro t3 j _ hj _
          right
          refine ⟨(), ?_, trivial⟩
          have er := hr (k + 1) (by omega) (by omega) j hj
          unfold mRv at er
          show f_X11_findRest_63 (nI f) (nI s) _ _ (t3 + 1) (nI (oN R)) (nI k) (nI h) (lN (sumN _ j)) (nI j) N = f_X11_findRest_63 (nI f) (nI s) _ _ t3 (nI (oN R)) (nI k) (nI h) (lN (sumN _ j + (if foe P h j then 0 else if (gw R (oN R - 1 - (oN R - 1 - (k + 1))) &&& s).testBit j then dV P R (bM P R f) s (oN R - 1 - (k + 1)) j else 0))) (nI (j + 1)) N
          rw [f_X11_findRest_63.eq_2, hHN.2.1.2, if_neg (fun z => by have := (q_le (by omega) (by omega)).mp z; omega), q_lit 1, gO 1, q_sub (show 1 ≤ oN R by omega), if_neg (fun z => by have := (q_le (by omega) (by omega)).mp z; omega), s_clash hHN hh hj, q_bd_some, q_add, q_add, q_lit 10, gO 10, q_mul, q_add, if_pos (q_in (by omega) (by omega)), q_cl (by omega), er, e2, show (0 : Int64) = lN 0 from rfl, lN_add, lN_add]
          cases foe P h j with
          | false =>
            rw [if_pos (show bI false = 0 from rfl), if_neg (show ¬ false = true by simp)]
            cases (gw R (k + 1) &&& s).testBit j with
            | false => rw [if_neg (show ¬ (false = true ∧ (0 < k + 1 ∨ j = f)) by simp), if_neg (show ¬ false = true by simp)]
            | true => rw [if_pos ⟨rfl, Or.inl (by omega)⟩, if_pos rfl]
          | true => rw [if_neg (show ¬ bI true = 0 by decide), if_pos rfl]
        · intro t3 _ _
          show ∃ s', f_X11_findRest_63 (nI f) (nI s) _ _ (t3 + 1) (nI (oN R)) (nI k) (nI h) (lN (sumN _ (pH P))) (nI (pH P)) N = _ ∧ _
          rw [f_X11_findRest_63.eq_2, hHN.2.1.2, if_pos (Int32.le_refl _), out]
          exact ⟨_, rfl, fin _ (by rw [ed]; rfl)⟩
    · rintro t2 N ⟨he, hr, hrow⟩
      have hHN := hH.eq1 he
      show ∃ s', f_X11_findRest_18 (nI f) (nI s) _ (t2 + 1) (nI (oN R)) (nI k) (nI (pH P)) N = _ ∧ _
      rw [f_X11_findRest_18.eq_2, hHN.2.1.2, if_pos (Int32.le_refl _)]
      refine ⟨N, rfl, he, fun k' h1 h2 => ?_⟩
      by_cases z : k' = k
      · rw [z]; exact fun j hj => hrow j hj
      · exact hr k' (by omega) h2
  · rintro t N ⟨he, hr⟩
    show ∃ M', f_X11_findRest_10 (nI f) (nI s) (t + 1) (nI (oN R)) (zI ((oN R : Int) - 1 - (oN R : Nat))) N = _ ∧ _
    rw [f_X11_findRest_10.eq_2, if_pos (show zI ((oN R : Int) - 1 - (oN R : Nat)) < 0 from (q_znlt (b := 0) (by omega) (by omega)).mpr (by omega))]
    exact ⟨N, rfl, he, fun k hk => hr k (by omega) hk⟩
end MOD
