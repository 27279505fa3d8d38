/-! THE CLASS'S CROWD, gathered; quiet sets -/
def hb (s : Int32) (k : Nat) : Bool := s.toBitVec.getLsbD k
theorem s_holdsAny (s : Int32) {k : Nat} (hk : k < 32) (M : PM) : f_X10_holdsBit s (nI k) M = some (bI (hb s k), M) := by
  obtain ⟨z, -, rfl⟩ := q_anyz s
  unfold f_X10_holdsBit
  rw [q_lit 1, gO, q_bitz hk]
  unfold hb
  cases (zI z).toBitVec.getLsbD k <;> rfl
noncomputable def pk (p : Nat → Bool) (n : Nat) : Nat → Nat := Classical.choose (cnt_pick p n)
theorem pk_ok (p : Nat → Bool) (n : Nat) : (∀ i, i < cnt p n → pk p n i < n ∧ p (pk p n i) = true ∧ cnt p (pk p n i) = i) ∧ ∀ k, k < n → p k = true → pk p n (cnt p k) = k := Classical.choose_spec (cnt_pick p n)
theorem s_join {M : PM} {n : Nat} (h : M.1 240 0 = nI n) (hn : n < 10) (x y : Int32) : f_X1_join x y M = some ((), hr_si (hr_si (hr_si M 242 n x) 241 n y) 240 0 (nI (n + 1))) := by
  have e0 : ∀ (a k : Nat) (v : Int32), ¬ a = 240 → (hr_si M a k v).1 240 0 = nI n := by
    intro a k v ha
    rw [q_si1, if_neg (by omega)]
    exact h
  have e1 : (hr_si (hr_si M 242 n x) 241 n y).1 240 0 = nI n := by
    rw [q_si1, if_neg (by omega), q_si1, if_neg (by omega)]
    exact h
  unfold f_X1_join
  rw [h, q_cl (by omega), e0 242 n x (by omega), q_cl (by omega), e1]
  simp (disch := omega) only [q_lit, q_m1, q_m2, q_m1000, q_add, q_mul, q_cl, q_le, q_lt, q_eq, q_in, q_bd_some, eq_self, if_true, if_false, q_b0, q_b1, q_b01, q_bt, q_bf, q_ft, q_tf, Nat.mul_zero, Nat.add_zero, Nat.zero_add, or_true, true_or, not_true_eq_false, not_false_eq_true, reduceCtorEq, show ¬ 10 ≤ n by omega]
def jnd (M : PM) (n : Nat) (hs nu : Nat → Nat) : Prop := M.1 240 0 = nI n ∧ ∀ k, k < n → M.1 241 k = nI (hs k) ∧ M.1 242 k = nI (nu k)
theorem jnd.add {M : PM} {n : Nat} {hs nu : Nat → Nat} (h : jnd M n hs nu) {x y : Int32} (hx : x = nI (nu n)) (hy : y = nI (hs n)) : jnd (hr_si (hr_si (hr_si M 242 n x) 241 n y) 240 0 (nI (n + 1))) (n + 1) hs nu := by
  refine ⟨by rw [si_same, if_pos rfl], fun k hk => ?_⟩
  rw [si_ne _ _ _ (show 241 ≠ 240 by omega), si_ne _ _ _ (show 242 ≠ 240 by omega), si_same, si_ne _ _ _ (show 242 ≠ 241 by omega), si_same]
  by_cases e : k = n
  · rw [if_pos e, if_pos e, e]; exact ⟨hy, hx⟩
  · rw [if_neg e, if_neg e]; exact h.2 k (by omega)
section CLS
variable {a b : Nat} {P : Pal} {R : Rol} {M0 : PM}
theorem fr_join {M : PM} {n : Nat} {x y z : Int32} (h : hr_fr hW_X1_gatherPictures M0 M) : hr_fr hW_X1_gatherPictures M0 (hr_si (hr_si (hr_si M 242 n x) 241 n y) 240 0 z) := by
  refine hr_fr.si rfl (hr_fr.si ?_ (hr_fr.si ?_ h))
  · rfl
  · rfl
def hsR (R : Rol) (k : Nat) : Nat := (oA R k).toNat
theorem s_gatherPictures (hP : rP M0 a P) (ha : a + 9 ≤ 240) (hR : rR M0 b R) (hb : b + 4 ≤ 240) (hg : gOK P R) : ∃ M', f_X1_gatherPictures a b M0 = some ((), M') ∧ cK M' P (oN R) (hsR R) (fun k => k) ∧ hr_fr hW_X1_gatherPictures M0 M' := by
  have hn : oN R ≤ 9 := hg.1.2.1
  unfold f_X1_gatherPictures
  rw [if_pos hP.1.1, if_pos hR.1]
  refine hr_for (σ := PM) (fun f k M => f_X1_gatherPictures_7 a b f (nI k) M) (oN R) (fun k M => jnd M k (hsR R) (fun k => k) ∧ hr_fr hW_X1_gatherPictures M0 M) (fun x => ∃ M', x = some ((), M') ∧ cK M' P (oN R) (hsR R) (fun k => k) ∧ hr_fr hW_X1_gatherPictures M0 M') ?_ ?_ FU 0 _ (Nat.zero_le _) (FU_ok (by omega)) ⟨⟨by rw [si_same, if_pos rfl]; rfl, fun k hk => by omega⟩, hr_fr.si rfl (hr_fr.rf _ _)⟩
  · rintro f k M hk ⟨h, hf⟩
    right
    have ho := rR_ag hR (hf.agr (n := 240) rfl) (Nat.zero_le _) (by omega)
    have e3 := (ho.2.2 k hk).2.1
    have e4 : zI (oA R k) = nI (hsR R k) := by unfold hsR; rw [q_nz, Int.toNat_of_nonneg (hg.2 k hk).1.1]
    show ∃ s', f_X1_gatherPictures_7 a b (f + 1) (nI k) M = f_X1_gatherPictures_7 a b f (nI (k + 1)) s' ∧ _
    rw [f_X1_gatherPictures_7.eq_2]
    simp (disch := omega) only [q_lit, q_m1, q_m2, q_m1000, q_add, q_mul, q_cl, q_le, q_lt, q_eq, q_in, q_bd_some, eq_self, if_true, if_false, q_b0, q_b1, q_b01, q_bt, q_bf, q_ft, q_tf, Nat.mul_zero, Nat.add_zero, Nat.zero_add, or_true, true_or, not_true_eq_false, not_false_eq_true, reduceCtorEq, ho.2.1.1, show ¬ oN R ≤ k by omega, e3, e4, s_join h.1]
    exact ⟨_, rfl, h.add rfl rfl, fr_join hf⟩
  · rintro f M ⟨h, hf⟩
    have ho := rR_ag hR (hf.agr (n := 240) rfl) (Nat.zero_le _) (by omega)
    have hPM := rP_ag hP (hf.agr (n := 240) rfl) (Nat.zero_le _) (by omega)
    obtain ⟨M', g1, g2, g3⟩ := s_findFoes hPM ha (n := oN R) (hs := hsR R) (nu := fun k => k) (by omega) h.1 (fun k hk => ⟨⟨(h.2 k hk).1, (hg.2 k hk).1.2⟩, (h.2 k hk).2⟩)
    show ∃ M', f_X1_gatherPictures_7 a b (f + 1) (nI (oN R)) M = _ ∧ _
    rw [f_X1_gatherPictures_7.eq_2]
    simp (disch := omega) only [q_lit, q_m1, q_m2, q_m1000, q_add, q_mul, q_cl, q_le, q_lt, q_eq, q_in, q_bd_some, eq_self, if_true, if_false, q_b0, q_b1, q_b01, q_bt, q_bf, q_ft, q_tf, Nat.mul_zero, Nat.add_zero, Nat.zero_add, or_true, true_or, not_true_eq_false, not_false_eq_true, reduceCtorEq, ho.2.1.1, Nat.le_refl, g1]
    exact ⟨M', rfl, g2, hf.tr (hr_fr.mono rfl g3)⟩
theorem s_gatherHues (hP : rP M0 a P) (ha : a + 9 ≤ 240) (s : Int32) : ∃ M', f_X1_gatherHues a s M0 = some ((), M') ∧ cK M' P (cnt (hb s) (pH P)) (pk (hb s) (pH P)) (pk (hb s) (pH P)) ∧ hr_fr hW_X1_gatherPictures M0 M' := by
  have hn : pH P ≤ 10 := hP.1.2.1
  obtain ⟨k1, k2⟩ := pk_ok (hb s) (pH P)
  have hc := cnt_le (hb s) (pH P)
  unfold f_X1_gatherHues
  rw [if_pos hP.1.1]
  refine hr_for (σ := PM) (fun f k M => f_X1_gatherHues_7 a s f (nI k) M) (pH P) (fun k M => jnd M (cnt (hb s) k) (pk (hb s) (pH P)) (pk (hb s) (pH P)) ∧ hr_fr hW_X1_gatherPictures M0 M) (fun x => ∃ M', x = some ((), M') ∧ cK M' P (cnt (hb s) (pH P)) (pk (hb s) (pH P)) (pk (hb s) (pH P)) ∧ hr_fr hW_X1_gatherPictures M0 M') ?_ ?_ FU 0 _ (Nat.zero_le _) (FU_ok (by omega)) ⟨⟨by rw [si_same, if_pos rfl]; rfl, fun k hk => absurd hk (Nat.not_lt_zero _)⟩, hr_fr.si rfl (hr_fr.rf _ _)⟩
  · rintro f k M hk ⟨h, hf⟩
    right
    have hPM := rP_ag hP (hf.agr (n := 240) rfl) (Nat.zero_le _) (by omega)
    have hck := cnt_le (hb s) k
    have ec : cnt (hb s) (k + 1) = cnt (hb s) k + (if hb s k then 1 else 0) := rfl
    show ∃ s', f_X1_gatherHues_7 a s (f + 1) (nI k) M = f_X1_gatherHues_7 a s f (nI (k + 1)) s' ∧ _
    rw [f_X1_gatherHues_7.eq_2, s_holdsAny s (by omega)]
    simp (disch := omega) only [q_lit, q_m1, q_m2, q_m1000, q_add, q_mul, q_cl, q_le, q_lt, q_eq, q_in, q_bd_some, eq_self, if_true, if_false, q_b0, q_b1, q_b01, q_bt, q_bf, q_ft, q_tf, Nat.mul_zero, Nat.add_zero, Nat.zero_add, or_true, true_or, not_true_eq_false, not_false_eq_true, reduceCtorEq, hPM.2.1.1, show ¬ pH P ≤ k by omega]
    cases hbk : hb s k with
    | false =>
      rw [if_pos rfl]
      refine ⟨M, rfl, ?_, hf⟩
      rw [ec, hbk]
      exact h
    | true =>
      rw [if_neg (by simp), s_join h.1 (by omega), q_bd_some]
      refine ⟨_, rfl, ?_, fr_join hf⟩
      rw [ec, hbk]
      exact h.add (by rw [k2 k hk hbk]) (by rw [k2 k hk hbk])
  · rintro f M ⟨h, hf⟩
    have hPM := rP_ag hP (hf.agr (n := 240) rfl) (Nat.zero_le _) (by omega)
    obtain ⟨M', g1, g2, g3⟩ := s_findFoes hPM ha (n := cnt (hb s) (pH P)) (hs := pk (hb s) (pH P)) (nu := pk (hb s) (pH P)) (by omega) h.1 (fun k hk => ⟨⟨(h.2 k hk).1, (k1 k hk).1⟩, (h.2 k hk).2⟩)
    show ∃ M', f_X1_gatherHues_7 a s (f + 1) (nI (pH P)) M = _ ∧ _
    rw [f_X1_gatherHues_7.eq_2]
    simp (disch := omega) only [q_lit, q_m1, q_m2, q_m1000, q_add, q_mul, q_cl, q_le, q_lt, q_eq, q_in, q_bd_some, eq_self, if_true, if_false, q_b0, q_b1, q_b01, q_bt, q_bf, q_ft, q_tf, Nat.mul_zero, Nat.add_zero, Nat.zero_add, or_true, true_or, not_true_eq_false, not_false_eq_true, reduceCtorEq, hPM.2.1.1, Nat.le_refl, g1]
    exact ⟨M', rfl, g2, hf.tr (hr_fr.mono rfl g3)⟩
theorem cK.fr {M M' : PM} {n : Nat} {hs nu : Nat → Nat} (h : cK M P n hs nu) {V : List (Nat × Nat)} (hf : hr_fr V M M') (h0 : hr_in V 240 0 = false) (h1 : ∀ k, hr_in V 241 k = false) (h2 : ∀ k, hr_in V 242 k = false) (h3 : ∀ k, hr_in V 243 k = false) : cK M' P n hs nu := by
  refine ⟨⟨h.1.1, (hf.at 240 0 h0).trans h.1.2⟩, fun k hk => ⟨⟨(hf.at 241 k (h1 k)).trans (h.2 k hk).1.1, (h.2 k hk).1.2⟩, (hf.at 242 k (h2 k)).trans (h.2 k hk).2.1, (hf.at 243 k (h3 k)).trans (h.2 k hk).2.2⟩⟩
theorem s_everyone {M : PM} {n : Nat} {hs nu : Nat → Nat} (h : cK M P n hs nu) : f_X1_everyone M = some (nI (2 ^ n - 1), M) := by
  have := h.1.1
  have h2 : 1 ≤ 2 ^ n := Nat.one_le_two_pow
  have h3 : 2 ^ n ≤ 2 ^ 10 := Nat.pow_le_pow_right (by decide) h.1.1
  unfold f_X1_everyone
  rw [h.1.2, q_lit 1, gO, q_jl (by omega), q_sub h2]
theorem nar_b : vp_nar .boolean 0 = nI 0 ∧ vp_nar .boolean 1 = nI 1 := by decide
/-- quiet sets are marked -/
def mkQ (M : PM) (P : Pal) (n : Nat) (hs : Nat → Nat) (k : Nat) : Prop := ∀ s, s < k → M.1 247 s = bI (qt (eF P hs) n s)
theorem s_findQuiet {n : Nat} {hs nu : Nat → Nat} (h : cK M0 P n hs nu) : ∃ M', f_X1_findQuiet M0 = some ((), M') ∧ mkQ M' P n hs (2 ^ n) ∧ hr_fr hW_X1_findQuiet M0 M' := by
  have h10 := h.1.1
  have h2 : 1 ≤ 2 ^ n := Nat.one_le_two_pow
  have h3 : 2 ^ n ≤ 2 ^ 10 := Nat.pow_le_pow_right (by decide) h10
  have q0 : qt (eF P hs) n 0 = true := qt_iff.mpr (fun i j _ _ hi => by rw [Nat.zero_testBit] at hi; cases hi)
  have m0 : mkQ (hr_si M0 247 0 (nI 1)) P n hs 1 := by
    intro s hs1
    rw [si_same, if_pos (by omega), show s = 0 by omega, q0]
    rfl
  unfold f_X1_findQuiet
  rw [if_pos (show inB 0 1024 = true from q_in (i := 0) (by omega) (by omega)), nar_b.2]
  refine hr_for (σ := PM) (fun f s M => f_X1_findQuiet_9 f (nI s) M) (2 ^ n) (fun s M => (1 ≤ s ∧ mkQ M P n hs s) ∧ hr_fr hW_X1_findQuiet M0 M) (fun x => ∃ M', x = some ((), M') ∧ mkQ M' P n hs (2 ^ n) ∧ hr_fr hW_X1_findQuiet M0 M') ?_ ?_ FU 1 (hr_si M0 247 0 (nI 1)) h2 (FU_ok (by omega)) ⟨⟨Nat.le_refl _, m0⟩, hr_fr.si rfl (hr_fr.rf _ _)⟩
  · rintro f s M hs2 ⟨⟨hs1, hq⟩, hf⟩
    right
    have hK : cK M P n hs nu := h.fr hf rfl (fun _ => rfl) (fun _ => rfl) (fun _ => rfl)
    obtain ⟨l, l1, l2, l3⟩ := low_ex s s (Nat.le_refl _) (by omega)
    have hl : l < n := lt2_iff.mp hs2 l l1
    have hle : (s &&& (s - 1)) < s := Nat.lt_of_le_of_lt (Nat.and_le_right) (by omega)
    have eq := hq _ hle
    have add : ∀ v, v = bI (qt (eF P hs) n s) → mkQ (hr_si M 247 s v) P n hs (s + 1) := by
      intro v hv t ht
      rw [si_same]
      by_cases e : t = s
      · rw [if_pos e, e]; exact hv
      · rw [if_neg e]; exact hq t (by omega)
    have st := qt_step (P := P) (hs := hs) hs2 l1 l3
    show ∃ s', f_X1_findQuiet_9 (f + 1) (nI s) M = f_X1_findQuiet_9 f (nI (s + 1)) s' ∧ _
    rw [f_X1_findQuiet_9.eq_2, nar_b.1, nar_b.2]
    simp (disch := omega) only [q_lit, q_m1, q_m2, q_m1000, q_add, q_mul, q_cl, q_le, q_lt, q_eq, q_in, q_bd_some, eq_self, if_true, if_false, q_b0, q_b1, q_b01, q_bt, q_bf, q_ft, q_tf, Nat.mul_zero, Nat.add_zero, Nat.zero_add, or_true, true_or, not_true_eq_false, not_false_eq_true, reduceCtorEq, s_everyone hK, show ¬ 2 ^ n - 1 < s by omega, q_sub, q_and, eq, s_leastOf, least_at (show l < 10 by omega) l1 l2, ocI, (hK.2 l hl).2.2]
    cases hx : qt (eF P hs) n (s &&& (s - 1)) with
    | false =>
      rw [if_pos rfl]
      exact ⟨_, rfl, ⟨by omega, add _ (by rw [st, hx]; rfl)⟩, hr_fr.si rfl hf⟩
    | true =>
      rw [if_neg (by simp)]
      have hlt : bset (eF P hs l) n &&& s < 1024 := Nat.lt_of_le_of_lt Nat.and_le_right (by omega)
      by_cases hz : bset (eF P hs l) n &&& s = 0
      · rw [if_pos (by rw [hz])]
        exact ⟨_, rfl, ⟨by omega, add _ (by rw [st, hx, decide_eq_true hz]; rfl)⟩, hr_fr.si rfl hf⟩
      · rw [if_neg (fun z => hz ((q_eq (by omega) (by omega)).mp z))]
        exact ⟨_, rfl, ⟨by omega, add _ (by rw [st, hx, decide_eq_false hz]; rfl)⟩, hr_fr.si rfl hf⟩
  · rintro f M ⟨⟨hs1, hq⟩, hf⟩
    have hK : cK M P n hs nu := h.fr hf rfl (fun _ => rfl) (fun _ => rfl) (fun _ => rfl)
    show ∃ M', f_X1_findQuiet_9 (f + 1) (nI (2 ^ n)) M = _ ∧ _
    rw [f_X1_findQuiet_9.eq_2]
    simp (disch := omega) only [q_lit, q_m1, q_m2, q_m1000, q_add, q_mul, q_cl, q_le, q_lt, q_eq, q_in, q_bd_some, eq_self, if_true, if_false, q_b0, q_b1, q_b01, q_bt, q_bf, q_ft, q_tf, Nat.mul_zero, Nat.add_zero, Nat.zero_add, or_true, true_or, not_true_eq_false, not_false_eq_true, reduceCtorEq, s_everyone hK, show 2 ^ n - 1 < 2 ^ n by omega]
    exact ⟨M, rfl, hq, hf⟩
end CLS
