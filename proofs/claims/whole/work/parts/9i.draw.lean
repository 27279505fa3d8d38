/-! DINNERS: what is drawn -/
def nxS (x : Int32) : Int32 := x * 1103515245 + 12345
def sdN (x : Int32) : Nat → Int32
  | 0 => x
  | k + 1 => nxS (sdN x k)
/-- a number drawn by a seed -/
def uS (x : Int32) : Nat := x.toBitVec.toNat / 65536
theorem uS_lt (x : Int32) : uS x < 65536 := by
  have := x.toBitVec.isLt
  unfold uS
  omega
theorem ju_16 (x : Int32) : ju x 16 = nI (uS x) := by
  have h := i_nat x
  conv => lhs; rw [h]
  unfold ju
  rw [pk_ushrN x.toBitVec.isLt 16 16 (by decide)]
  rfl
/-- of a set the r-th, from 0 on -/
noncomputable def nth (s r : Nat) : Nat := pk (fun i => s.testBit i) 10 r
theorem nth_ok {s r : Nat} (hr : r < popc s) : nth s r < 10 ∧ s.testBit (nth s r) = true ∧ cnt (fun i => s.testBit i) (nth s r) = r ∧ ∀ i, i < 10 → s.testBit i = true → cnt (fun i => s.testBit i) i = r → i = nth s r := by
  obtain ⟨p1, p2⟩ := pk_ok (fun i => s.testBit i) 10
  obtain ⟨q1, q2, q3⟩ := p1 r hr
  exact ⟨q1, q2, q3, fun i hi hb hc => by rw [← p2 i hi hb, hc]; rfl⟩
/-- what a guest wears, by the seed then -/
noncomputable def dHue (R : Rol) (x : Int32) (k : Nat) : Nat := nth (gw R k) (uS (sdN x (k + 1)) % popc (gw R k))
noncomputable def rowX (P : Pal) (R : Rol) (x : Int32) : Nat := sumN (fun k => strH P (dHue R x k) (dHue R x (k + 1))) (oN R - 1) + (if 2 < oN R then strH P (dHue R x (oN R - 1)) (dHue R x 0) else 0)
/-- the seed as an evening begins -/
def evX (R : Rol) (x : Int32) : Nat → Int32
  | 0 => x
  | e + 1 => sdN (evX R x e) (oN R)
noncomputable def clmX (P : Pal) (R : Rol) (x : Int32) (n : Nat) : Nat := cnt (fun e => decide (rowX P R (evX R x e) = 0)) n
noncomputable def sumX (P : Pal) (R : Rol) (x : Int32) (n : Nat) : Nat := sumN (fun e => rowX P R (evX R x e)) n
noncomputable def sp_drawn (T : Tol) (p g x n w : Int32) : Int32 := match ix p (tz T 0), ix g (tz T 4), ix n 41 with
  | some p, some g, some n => if tog (tP T p) (tR T 4 g) then (if w = nI 0 then nI (clmX (tP T p) (tR T 4 g) x n) else if w = nI 1 then nI (sumX (tP T p) (tR T 4 g) x n) else zI (-1)) else zI (-1)
  | _, _, _ => zI (-1)
section DRAW
variable {P : Pal} {R : Rol}
theorem popc_pos {s : Nat} (hs : s < 1024) (h : 1 ≤ s) : 1 ≤ popc s := by
  rcases Nat.eq_zero_or_pos (popc s) with z | z
  · have := (popc_0 hs).mp z; omega
  · exact z
theorem dHue_ok (hO : nOK P R) (x : Int32) {k : Nat} (hk : k < oN R) : dHue R x k < pH P ∧ uS (sdN x (k + 1)) % popc (gw R k) < popc (gw R k) := by
  have gl := gw_lt hO hk
  have hp := popc_pos gl (hO.2.2 k hk).1.2
  have hr := Nat.mod_lt (uS (sdN x (k + 1))) (show popc (gw R k) > 0 by omega)
  obtain ⟨n1, n2, -⟩ := nth_ok hr
  exact ⟨lt2_iff.mp (hO.2.2 k hk).1.1 _ n2, hr⟩
theorem rowX_le (hP : pOK P) (h8 : oN R ≤ 8) (x : Int32) : rowX P R x ≤ 48 := by
  have h6 := hP.2.1
  have hs : ∀ a b, strH P a b ≤ 6 := fun a b => Nat.le_trans (strH_le P a b) h6
  have h1 : sumN (fun k => strH P (dHue R x k) (dHue R x (k + 1))) (oN R - 1) ≤ (oN R - 1) * 6 := sumN_le (fun k _ => hs _ _)
  have h2 : (oN R - 1) * 6 ≤ 7 * 6 := Nat.mul_le_mul_right _ (by omega)
  have h3 : (if 2 < oN R then strH P (dHue R x (oN R - 1)) (dHue R x 0) else 0) ≤ 6 := by
    split
    · exact hs _ _
    · omega
  unfold rowX
  omega
/-- a set without its first bits -/
def lfN (s t : Nat) : Nat := bset (fun i => s.testBit i && decide (t ≤ cnt (fun i => s.testBit i) i)) 10
theorem lfN_bit {s t i : Nat} : (lfN s t).testBit i = (decide (i < 10) && (s.testBit i && decide (t ≤ cnt (fun i => s.testBit i) i))) := bset_bit _ _ _
theorem lfN_0 {s : Nat} (hs : s < 1024) : lfN s 0 = s := by
  apply Nat.eq_of_testBit_eq
  intro i
  rw [lfN_bit, decide_eq_true (Nat.zero_le _), Bool.and_true]
  by_cases z : i < 10
  · rw [decide_eq_true z, Bool.true_and]
  · rw [decide_eq_false z, Bool.false_and, Nat.testBit_lt_two_pow (Nat.lt_of_lt_of_le hs (Nat.pow_le_pow_right (n := 2) (i := 10) (by decide) (by omega)))]
theorem lfN_low {s t : Nat} (ht : t < popc s) : (lfN s t).testBit (nth s t) = true ∧ ∀ i, i < nth s t → (lfN s t).testBit i = false := by
  obtain ⟨n1, n2, n3, n4⟩ := nth_ok ht
  refine ⟨by rw [lfN_bit, decide_eq_true n1, n2, n3, decide_eq_true (Nat.le_refl _)]; rfl, fun i hi => ?_⟩
  rw [lfN_bit, decide_eq_true (by omega)]
  cases hb : s.testBit i with
  | false => rfl
  | true =>
    have h1 := cnt_upto (fun i => s.testBit i) (show i + 1 ≤ nth s t by omega)
    have h2 : cnt (fun i => s.testBit i) (i + 1) = cnt (fun i => s.testBit i) i + (if s.testBit i = true then 1 else 0) := rfl
    rw [hb, if_pos rfl] at h2
    rw [decide_eq_false (by omega)]
    rfl
theorem lfN_s {s t : Nat} (ht : t < popc s) : lfN s (t + 1) = lfN s t &&& (lfN s t - 1) := by
  obtain ⟨l1, l2⟩ := lfN_low ht
  obtain ⟨n1, n2, n3, n4⟩ := nth_ok ht
  obtain ⟨l, k1, k2, k3⟩ := low_ex (lfN s t) (lfN s t) (Nat.le_refl _) (fun z => by rw [z, Nat.zero_testBit] at l1; cases l1)
  have el : l = nth s t := by
    rcases Nat.lt_trichotomy l (nth s t) with z | z | z
    · rw [l2 l z] at k1; cases k1
    · exact z
    · rw [k2 _ z] at l1; cases l1
  apply Nat.eq_of_testBit_eq
  intro i
  rw [k3, el, lfN_bit, lfN_bit]
  by_cases z : i < 10
  · rw [decide_eq_true z, Bool.true_and, Bool.true_and]
    cases hb : s.testBit i with
    | false => rfl
    | true =>
      rw [Bool.true_and, Bool.true_and]
      by_cases z2 : i = nth s t
      · rw [z2, n3, decide_eq_false (show ¬ t + 1 ≤ t by omega), decide_eq_false (show ¬ nth s t ≠ nth s t from fun y => y rfl), Bool.and_false]
      · have z3 : cnt (fun i => s.testBit i) i ≠ t := fun y => z2 (n4 i z hb y)
        rw [decide_eq_true z2, Bool.and_true, decide_eq_decide]
        omega
  · rw [decide_eq_false z, Bool.false_and, Bool.false_and, Bool.false_and]
theorem s_hueAt (M : PM) {s r : Nat} (hs : s < 1024) (hr : r < popc s) : f_X7_hueAt (nI s) (nI r) M = some (nI (nth s r), M) := by
  have hp := popc_le s
  have ll : ∀ t, lfN s t < 1024 := fun t => bset_lt _ 10
  unfold f_X7_hueAt
  have e0 : f_X7_hueAt_4 (nI s) (nI r) FU (nI s) 0 M = f_X7_hueAt_4 (nI s) (nI r) FU (nI (lfN s 0)) (nI 0) M := by rw [lfN_0 hs]; rfl
  rw [e0]
  refine hr_for (σ := Unit) (fun f t _ => f_X7_hueAt_4 (nI s) (nI r) f (nI (lfN s t)) (nI t) M) r (fun _ _ => True) (fun x => x = some (nI (nth s r), M)) ?_ ?_ FU 0 () (Nat.zero_le _) (FU_ok (by omega)) trivial
  · intro f t _ ht _
    right
    have l1 := ll t
    have hne : lfN s t ≠ 0 := fun z => by
      have := (lfN_low (show t < popc s by omega)).1
      rw [z, Nat.zero_testBit] at this
      cases this
    refine ⟨(), ?_, trivial⟩
    show f_X7_hueAt_4 (nI s) (nI r) (f + 1) (nI (lfN s t)) (nI t) M = f_X7_hueAt_4 (nI s) (nI r) f (nI (lfN s (t + 1))) (nI (t + 1)) M
    rw [f_X7_hueAt_4.eq_2, if_neg (fun z => by have := (q_le (by omega) (by omega)).mp z; omega), q_lit 1, gO 1, q_sub (by omega), q_and, q_add, lfN_s (by omega)]
  · intro f _ _
    have l1 := ll r
    obtain ⟨b1, b2⟩ := lfN_low hr
    obtain ⟨n1, -⟩ := nth_ok hr
    show f_X7_hueAt_4 (nI s) (nI r) (f + 1) (nI (lfN s r)) (nI r) M = _
    rw [f_X7_hueAt_4.eq_2, if_pos (Int32.le_refl _), s_leastOf M (by omega), q_bd_some, least_at n1 b1 b2, show (0 : Int32) = nI 0 from rfl, show ocI (some (nth s r)) = nI (nth s r) from rfl, q_jx (by omega) (by omega), Nat.max_eq_right (Nat.zero_le _)]
end DRAW
section CLS
variable {a b : Nat} {P : Pal} {R : Rol}
/-- what is drawn for the guests -/
def drwM (M : PM) (c : Nat) (R : Rol) (x : Int32) (n : Nat) : Prop := ∀ k, k < n → M.1 c k = nI (dHue R x k)
theorem s_round {M : PM} (hP : rP M a P) (hO : nOK P R) {x : Int32} (hd : drwM M 274 R x (oN R)) : f_X7_strengthsRound a (nI (oN R)) M = some (nI (rowX P R x), M) := by
  have h8 : oN R ≤ 8 := hO.2.1.1
  have h6 := hP.1.2.2.1
  have hs : ∀ a b, strH P a b ≤ 6 := fun a b => Nat.le_trans (strH_le P a b) h6
  unfold f_X7_strengthsRound
  rw [if_pos hP.1.1]
  refine hr_for (σ := Unit) (fun f i _ => f_X7_strengthsRound_5 a (nI (oN R)) f (nI (sumN (fun k => strH P (dHue R x k) (dHue R x (k + 1))) i)) (nI (i + 1)) M) (oN R - 1) (fun _ _ => True) (fun r => r = some (nI (rowX P R x), M)) ?_ ?_ FU 0 () (Nat.zero_le _) (FU_ok (by omega)) trivial
  · intro f i _ hi _
    right
    refine ⟨(), ?_, trivial⟩
    have o1 := (dHue_ok hO x (show i < oN R by omega)).1
    have o2 := (dHue_ok hO x (show i + 1 < oN R by omega)).1
    show f_X7_strengthsRound_5 a (nI (oN R)) (f + 1) (nI (sumN _ i)) (nI (i + 1)) M = f_X7_strengthsRound_5 a (nI (oN R)) f (nI (sumN _ i + strH P (dHue R x i) (dHue R x (i + 1)))) (nI (i + 1 + 1)) M
    rw [f_X7_strengthsRound_5.eq_2, if_neg (fun z => by have := (q_le (by omega) (by omega)).mp z; omega), q_lit 1, gO 1, q_sub (by omega), if_pos (q_in (by omega) (by omega)), if_pos (q_in (by omega) (by omega)), q_cl (by omega), q_cl (by omega), show i + 1 - 1 = i by omega, hd i (by omega), hd (i + 1) (by omega), s_strengthOf hP o1 o2, q_bd_some, q_add, q_add]
  · intro f _ _
    show f_X7_strengthsRound_5 a (nI (oN R)) (f + 1) (nI (sumN _ (oN R - 1))) (nI (oN R - 1 + 1)) M = _
    rw [f_X7_strengthsRound_5.eq_2, if_pos ((q_le (by omega) (by omega)).mpr (by omega))]
    unfold rowX
    by_cases z : 2 < oN R
    · have o1 := (dHue_ok hO x (show oN R - 1 < oN R by omega)).1
      have o2 := (dHue_ok hO x (show 0 < oN R by omega)).1
      rw [if_neg (show ¬ nI (oN R) ≤ 2 from fun y => by have := (q_le (b := 2) (by omega) (by omega)).mp y; omega), q_lit 1, gO 1, q_sub (by omega), if_pos (q_in (by omega) (by omega)), if_pos (show inB 0 8 = true from q_in (i := 0) (by omega) (by omega)), show (0 : Int32).toNatClampNeg = 0 from rfl, q_cl (by omega), hd (oN R - 1) (by omega), hd 0 (by omega), s_strengthOf hP o1 o2, q_bd_some, q_add, if_pos z]
    · rw [if_pos (show nI (oN R) ≤ 2 from (q_le (b := 2) (by omega) (by omega)).mpr (by omega)), if_neg z, Nat.add_zero]
theorem s_dine {M0 : PM} (hP : rP M0 a P) (ha : a + 9 ≤ 240) (hR : rR M0 b R) (hb : b + 4 ≤ 240) (hO : nOK P R) (x : Int32) {n : Nat} (hn : n ≤ 40) : ∃ M', f_X7_dine a b x (nI n) M0 = some ((), M') ∧ M'.1 271 4 = nI (clmX P R x n) ∧ M'.1 271 5 = nI (sumX P R x n) := by
  have h8 : oN R ≤ 8 := hO.2.1.1
  have h10 := hO.1.1
  unfold f_X7_dine
  rw [if_pos hP.1.1, if_pos hR.1]
  refine hr_for (σ := PM) (fun f e N => f_X7_dine_16 a b x (nI n) f (evX R x e) (nI e) N) n (fun e N => agr 0 240 M0 N ∧ N.1 271 4 = nI (clmX P R x e) ∧ N.1 271 5 = nI (sumX P R x e)) (fun r => ∃ M', r = some ((), M') ∧ M'.1 271 4 = nI (clmX P R x n) ∧ M'.1 271 5 = nI (sumX P R x n)) ?_ ?_ FU 0 _ (Nat.zero_le _) (FU_ok (by omega)) ⟨((agr.rf _ _ _).si (by omega)).si (by omega), by rw [si_same, if_neg (by omega), si_same, if_pos rfl]; rfl, by rw [si_same, if_pos rfl]; rfl⟩
  · rintro f e N he ⟨i1, i2, i3⟩
    right
    have lr := rowX_le (P := P) hO.1 h8 (evX R x e)
    have lc := cnt_le (fun e => decide (rowX P R (evX R x e) = 0)) e
    have ls : sumX P R x e ≤ e * 48 := sumN_le (fun k _ => rowX_le hO.1 h8 _)
    show ∃ s', f_X7_dine_16 a b x (nI n) (f + 1) (evX R x e) (nI e) N = f_X7_dine_16 a b x (nI n) f (evX R x (e + 1)) (nI (e + 1)) s' ∧ _
    rw [f_X7_dine_16.eq_2, if_neg (fun z => by have := (q_le (by omega) (by omega)).mp z; omega)]
    refine hr_for (σ := PM) (fun f2 k N => f_X7_dine_26 a b x (nI n) (fun x5 x6 M => f_X7_dine_16 a b x (nI n) f x5 x6 M) f2 (sdN (evX R x e) k) (nI e) (nI k) N) (oN R) (fun k N => (agr 0 240 M0 N ∧ N.1 271 4 = nI (clmX P R x e) ∧ N.1 271 5 = nI (sumX P R x e)) ∧ drwM N 274 R (evX R x e) k) (fun r => ∃ s', r = f_X7_dine_16 a b x (nI n) f (evX R x (e + 1)) (nI (e + 1)) s' ∧ agr 0 240 M0 s' ∧ s'.1 271 4 = nI (clmX P R x (e + 1)) ∧ s'.1 271 5 = nI (sumX P R x (e + 1))) ?_ ?_ FU 0 N (Nat.zero_le _) (FU_ok (by omega)) ⟨⟨i1, i2, i3⟩, fun k hk => by omega⟩
    · rintro f2 k N hk ⟨⟨i1, i2, i3⟩, hd⟩
      right
      have hRN := rR_ag hR i1 (Nat.zero_le _) (by omega)
      have e1 : N.1 (b + 2) k = nI (gw R k) := by rw [(hRN.2.2 _ hk).2.1, (hO.2.2 _ hk).2]
      have gl := gw_lt hO hk
      have hp := popc_pos gl (hO.2.2 k hk).1.2
      have pl := popc_le (gw R k)
      have hr := (dHue_ok hO (evX R x e) hk).2
      have ul := uS_lt (sdN (evX R x e) (k + 1))
      have en : sdN (evX R x e) k * 1103515245 + 12345 = sdN (evX R x e) (k + 1) := rfl
      have eh := s_hueAt N gl hr
      show ∃ s', f_X7_dine_26 a b x (nI n) _ (f2 + 1) (sdN (evX R x e) k) (nI e) (nI k) N = f_X7_dine_26 a b x (nI n) _ f2 (sdN (evX R x e) (k + 1)) (nI e) (nI (k + 1)) s' ∧ _
      rw [f_X7_dine_26.eq_2, hRN.2.1.1, if_neg (fun z => by have := (q_le (by omega) (by omega)).mp z; omega), if_pos (q_in (by omega) (by omega)), q_cl (show k < 2147483648 by omega), e1, s_bitCount gl, q_bd_some, if_neg (show ¬ nI (popc (gw R k)) = 0 from fun z => by have := (q_eq (b := 0) (by omega) (by omega)).mp z; omega), if_pos (q_in (by omega) (by omega)), if_pos (show ¬ nI (popc (gw R k)) = 0 from fun z => by have := (q_eq (b := 0) (by omega) (by omega)).mp z; omega), e1, en, ju_16, q_rem (by omega) (by omega) (by omega), eh, q_bd_some, if_pos (q_in (by omega) (by omega)), q_lit 1, gO 1, q_add]
      refine ⟨_, rfl, ⟨i1.si (by omega), by rw [si_ne _ _ _ (by omega)]; exact i2, by rw [si_ne _ _ _ (by omega)]; exact i3⟩, fun j hj => ?_⟩
      rw [si_same]
      by_cases z : j = k
      · rw [if_pos z, z]; rfl
      · rw [if_neg z]; exact hd j (by omega)
    · rintro f2 N ⟨⟨i1, i2, i3⟩, hd⟩
      have hPN := rP_ag hP i1 (Nat.zero_le _) (by omega)
      have hRN := rR_ag hR i1 (Nat.zero_le _) (by omega)
      have ec : clmX P R x (e + 1) = clmX P R x e + (if decide (rowX P R (evX R x e) = 0) = true then 1 else 0) := rfl
      have es : sumX P R x (e + 1) = sumX P R x e + rowX P R (evX R x e) := rfl
      show ∃ s', f_X7_dine_26 a b x (nI n) _ (f2 + 1) (sdN (evX R x e) (oN R)) (nI e) (nI (oN R)) N = _ ∧ _
      rw [f_X7_dine_26.eq_2, hRN.2.1.1, if_pos (Int32.le_refl _), s_round hPN hO hd, q_bd_some, i3, q_add, show (0 : Int32) = nI 0 from rfl, show (1 : Int32) = nI 1 from rfl, q_add]
      have e4 : (hr_si N 271 5 (nI (sumX P R x e + rowX P R (evX R x e)))).1 271 4 = nI (clmX P R x e) := by rw [si_same, if_neg (by omega)]; exact i2
      rw [e4, q_add, q_add]
      by_cases z : rowX P R (evX R x e) = 0
      · rw [if_pos (show nI (rowX P R (evX R x e)) = nI 0 by rw [z])]
        refine ⟨_, rfl, (i1.si (by omega)).si (by omega), ?_, ?_⟩
        · rw [si_same, if_pos rfl, ec, decide_eq_true z, if_pos rfl]
        · rw [si_same, if_neg (by omega), si_same, if_pos rfl, es]
      · rw [if_neg (fun y => z ((q_eq (by omega) (by omega)).mp y))]
        refine ⟨_, rfl, (i1.si (by omega)).si (by omega), ?_, ?_⟩
        · rw [si_same, if_pos rfl, ec, decide_eq_false z, if_neg (by simp)]
        · rw [si_same, if_neg (by omega), si_same, if_pos rfl, es]
  · rintro f N ⟨i1, i2, i3⟩
    show ∃ M', f_X7_dine_16 a b x (nI n) (f + 1) (evX R x n) (nI n) N = _ ∧ _
    rw [f_X7_dine_16.eq_2, if_pos (Int32.le_refl _)]
    exact ⟨N, rfl, i2, i3⟩
end CLS
