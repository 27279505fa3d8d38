/-! REPAINTED: the least costs, and the class's way to them -/
/-- the least of what there is -/
def lsO (f : Nat → Option Nat) : Nat → Option Nat
  | 0 => none
  | n + 1 => match lsO f n with
    | none => f n
    | some a => match f n with
      | none => some a
      | some b => if b < a then some b else some a
theorem lsO_congr {f g : Nat → Option Nat} {n : Nat} (h : ∀ k, k < n → f k = g k) : lsO f n = lsO g n := by
  induction n with
  | zero => rfl
  | succ n ih =>
    unfold lsO
    rw [ih (fun k hk => h k (by omega)), h n (by omega)]
theorem lsO_le {f : Nat → Option Nat} {b n : Nat} (h : ∀ k a, k < n → f k = some a → a ≤ b) {a : Nat} (ha : lsO f n = some a) : a ≤ b := by
  induction n generalizing a with
  | zero => cases ha
  | succ n ih =>
    unfold lsO at ha
    cases h1 : lsO f n with
    | none => rw [h1] at ha; exact h n a (by omega) ha
    | some c =>
      rw [h1] at ha
      dsimp only at ha
      have hc := ih (fun k a hk => h k a (by omega)) h1
      cases h2 : f n with
      | none => rw [h2] at ha; cases ha; exact hc
      | some d =>
        rw [h2] at ha
        dsimp only at ha
        have := h n d (by omega) h2
        split at ha
        · cases ha; exact this
        · cases ha; exact hc
theorem lsO_hit {f : Nat → Option Nat} {n a : Nat} (ha : lsO f n = some a) : (∃ k, k < n ∧ f k = some a) ∧ ∀ k b, k < n → f k = some b → a ≤ b := by
  induction n generalizing a with
  | zero => cases ha
  | succ n ih =>
    unfold lsO at ha
    cases h1 : lsO f n with
    | none =>
      rw [h1] at ha
      dsimp only at ha
      have hno : ∀ m, lsO f m = none → ∀ k, k < m → f k = none := by
        intro m
        induction m with
        | zero => intro _ k hk; omega
        | succ m ihm =>
          intro hm k hk
          unfold lsO at hm
          cases h2 : lsO f m with
          | none =>
            rw [h2] at hm
            by_cases e : k = m
            · rw [e]; exact hm
            · exact ihm h2 k (by omega)
          | some c =>
            rw [h2] at hm
            dsimp only at hm
            split at hm
            · cases hm
            · split at hm <;> cases hm
      refine ⟨⟨n, by omega, ha⟩, ?_⟩
      intro k b hk hb
      by_cases e : k = n
      · rw [e, ha] at hb; cases hb; exact Nat.le_refl _
      · rw [hno n h1 k (by omega)] at hb; cases hb
    | some c =>
      rw [h1] at ha
      dsimp only at ha
      obtain ⟨⟨k, k1, k2⟩, k3⟩ := ih h1
      cases h2 : f n with
      | none =>
        rw [h2] at ha
        cases ha
        refine ⟨⟨k, by omega, k2⟩, ?_⟩
        intro j b hj hb
        by_cases e : j = n
        · rw [e, h2] at hb; cases hb
        · exact k3 j b (by omega) hb
      | some d =>
        rw [h2] at ha
        dsimp only at ha
        split at ha
        · next hlt =>
          cases ha
          refine ⟨⟨n, by omega, h2⟩, ?_⟩
          intro j b hj hb
          by_cases e : j = n
          · rw [e, h2] at hb; cases hb; exact Nat.le_refl _
          · have := k3 j b (by omega) hb; omega
        · next hlt =>
          cases ha
          refine ⟨⟨k, by omega, k2⟩, ?_⟩
          intro j b hj hb
          by_cases e : j = n
          · rw [e, h2] at hb; cases hb; omega
          · exact k3 j b (by omega) hb
/-- what a hue costs a picture -/
def cq (P : Pal) (R : Rol) (k h : Nat) : Nat := (oB R k).toNat * sumN (fun p => ((pP P (3 * h + p) : Int) - (pP P (3 * hsR R k + p) : Int)).natAbs) 3
/-- of a hue and all that is behind, d pictures -/
def cs (P : Pal) (R : Rol) : Nat → Nat → Option Nat
  | 0, h => some (cq P R (oN R - 1) h)
  | d + 1, h => match lsO (fun j => if foe P h j then none else cs P R d j) (pH P) with
    | none => none
    | some b => some (cq P R (oN R - 1 - (d + 1)) h + b)
theorem cq_le {P : Pal} {R : Rol} (hg : gOK P R) {k : Nat} (hk : k < oN R) (h : Nat) : cq P R k h ≤ 243 := by
  have hb := (hg.2 k hk).2
  have hp := pP_le hg.1.1
  have h1 : sumN (fun p => ((pP P (3 * h + p) : Int) - (pP P (3 * hsR R k + p) : Int)).natAbs) 3 ≤ 3 * 9 := sumN_le (fun p _ => by
    have := hp (3 * h + p)
    have := hp (3 * hsR R k + p)
    omega)
  unfold cq
  exact Nat.mul_le_mul (show (oB R k).toNat ≤ 9 by omega) h1
theorem cs_le {P : Pal} {R : Rol} (hg : gOK P R) {d : Nat} (hd : d < oN R) : ∀ h a, cs P R d h = some a → a ≤ 243 * (d + 1) := by
  induction d with
  | zero =>
    intro h a ha
    cases ha
    exact cq_le hg (by omega) h
  | succ d ih =>
    intro h a ha
    unfold cs at ha
    cases h1 : lsO (fun j => if foe P h j then none else cs P R d j) (pH P) with
    | none => rw [h1] at ha; cases ha
    | some b =>
      rw [h1] at ha
      cases ha
      have hb := lsO_le (b := 243 * (d + 1)) (fun k a _ hk => by
        split at hk
        · cases hk
        · exact ih (by omega) k a hk) h1
      have := cq_le hg (show oN R - 1 - (d + 1) < oN R by omega) h
      omega
/-- the costs at a place, of those that are not shunned -/
def csW (P : Pal) (R : Rol) (k w : Nat) (h : Nat) : Option Nat := if w.testBit h then none else cs P R (oN R - 1 - k) h
section CLS
variable {a b : Nat} {P : Pal} {R : Rol}
theorem s_costOf {M : PM} (hP : rP M a P) (hR : rR M b R) (hg : gOK P R) {k h : Nat} (hk : k < oN R) (hh : h < pH P) : f_X0_costOf a b (nI k) (nI h) M = some (nI (cq P R k h), M) := by
  have hn := hg.1.2.1
  have h10 := hg.1.1.1
  have e3 := (hR.2.2 k hk).2.2
  have lb := (hg.2 k hk).2
  have eb : zI (oB R k) = nI (oB R k).toNat := by rw [q_nz, Int.toNat_of_nonneg (by omega)]
  have hs := hsR_n hg hk
  have hp := pP_le hg.1.1
  unfold f_X0_costOf
  rw [if_pos hP.1.1, if_pos hR.1, if_pos (q_in (by omega) (by omega)), q_cl (by omega), s_roll hR hg hk]
  let g : Nat → Nat := fun p => ((pP P (3 * h + p) : Int) - (pP P (3 * hsR R k + p) : Int)).natAbs
  refine hr_for (σ := Int32) (fun f p x => f_X0_costOf_14 a b (nI k) (nI h) f (nI (hsR R k)) x (nI p) M) 3 (fun p x => x = nI (sumN g p)) (fun r => r = some (nI (cq P R k h), M)) ?_ ?_ FU 0 0 (Nat.zero_le _) (FU_ok (by omega)) rfl
  · rintro f p x hp3 rfl
    right
    refine ⟨_, ?_, rfl⟩
    have p1 := hp (3 * h + p)
    have p2 := hp (3 * hsR R k + p)
    show f_X0_costOf_14 a b (nI k) (nI h) (f + 1) (nI (hsR R k)) _ (nI p) M = _
    rw [f_X0_costOf_14.eq_2]
    simp (disch := omega) only [q_lit, q_m1, q_m2, q_m1000, q_add, q_mul, q_cl, q_le, q_lt, q_eq, q_in, q_bd_some, eq_self, if_true, if_false, q_b0, q_b1, q_b01, q_bt, q_bf, q_ft, q_tf, Nat.mul_zero, Nat.add_zero, Nat.zero_add, or_true, true_or, not_true_eq_false, not_false_eq_true, reduceCtorEq, show ¬ 3 ≤ p by omega, s_part hP hh hp3, s_part hP hs.2 hp3, q_nsub, q_jaz]
    rfl
  · rintro f x rfl
    show f_X0_costOf_14 a b (nI k) (nI h) (f + 1) (nI (hsR R k)) _ (nI 3) M = _
    rw [f_X0_costOf_14.eq_2]
    simp (disch := omega) only [q_lit, q_m1, q_m2, q_m1000, q_add, q_mul, q_cl, q_le, q_lt, q_eq, q_in, q_bd_some, eq_self, if_true, if_false, q_b0, q_b1, q_b01, q_bt, q_bf, q_ft, q_tf, Nat.mul_zero, Nat.add_zero, Nat.zero_add, or_true, true_or, not_true_eq_false, not_false_eq_true, reduceCtorEq, Nat.le_refl, e3, eb]
    rfl
/-- costs are found of the pictures from k0 on -/
def mkC (M : PM) (P : Pal) (R : Rol) (k0 : Nat) : Prop := ∀ k, k0 ≤ k → k < oN R → ∀ h, h < pH P → M.1 258 (10 * k + h) = ocI (cs P R (oN R - 1 - k) h)
theorem s_leastCost {M : PM} (hP : rP M a P) (hg : gOK P R) {k w : Nat} (hk : k < oN R) (hw1 : w < 2147483648) (hm : mkC M P R k) : f_X0_leastCost a (nI k) (nI w) M = some (ocI (lsO (csW P R k w) (pH P)), M) := by
  have hn := hg.1.2.1
  have h10 := hg.1.1.1
  unfold f_X0_leastCost
  rw [if_pos hP.1.1]
  refine hr_for (σ := Int32) (fun f h x => f_X0_leastCost_6 a (nI k) (nI w) f x (nI h) M) (pH P) (fun h x => x = ocI (lsO (csW P R k w) h)) (fun r => r = some (ocI (lsO (csW P R k w) (pH P)), M)) ?_ ?_ FU 0 (-1) (Nat.zero_le _) (FU_ok (by omega)) (by show (-1 : Int32) = zI (-1); decide)
  · rintro f h x hh rfl
    right
    have e8 := hm k (Nat.le_refl _) hk h hh
    have el : ∀ h a, cs P R (oN R - 1 - k) h = some a → a ≤ 2430 := fun h a ha => Nat.le_trans (cs_le hg (by omega) h a ha) (by omega)
    have elw : ∀ a, lsO (csW P R k w) h = some a → a ≤ 2430 := fun a ha => lsO_le (b := 2430) (fun j c _ hj => by
      unfold csW at hj
      split at hj
      · cases hj
      · exact el j c hj) ha
    have e1 : lsO (csW P R k w) (h + 1) = match lsO (csW P R k w) h with
      | none => csW P R k w h
      | some a => match csW P R k w h with
        | none => some a
        | some b => if b < a then some b else some a := rfl
    show ∃ s', f_X0_leastCost_6 a (nI k) (nI w) (f + 1) _ (nI h) M = f_X0_leastCost_6 a (nI k) (nI w) f s' (nI (h + 1)) M ∧ _
    rw [f_X0_leastCost_6.eq_2]
    simp (disch := omega) only [q_lit, q_m1, q_m2, q_m1000, q_add, q_mul, q_cl, q_le, q_lt, q_eq, q_in, q_bd_some, eq_self, if_true, if_false, q_b0, q_b1, q_b01, q_bt, q_bf, q_ft, q_tf, Nat.mul_zero, Nat.add_zero, Nat.zero_add, or_true, true_or, not_true_eq_false, not_false_eq_true, reduceCtorEq, hP.2.1.1, show ¬ pH P ≤ h by omega, s_holdsBit, e8]
    cases hb : w.testBit h with
    | true =>
      have ec : csW P R k w h = none := by unfold csW; rw [hb]; rfl
      rw [if_neg (by simp)]
      refine ⟨_, rfl, ?_⟩
      rw [e1, ec]
      cases lsO (csW P R k w) h <;> rfl
    | false =>
      have ec : csW P R k w h = cs P R (oN R - 1 - k) h := by unfold csW; rw [hb]; rfl
      rw [if_pos rfl]
      rw [e1, ec]
      cases hc : cs P R (oN R - 1 - k) h with
      | none =>
        rw [if_pos (show ocI none = zI (-1) from rfl)]
        refine ⟨_, rfl, ?_⟩
        cases lsO (csW P R k w) h <;> rfl
      | some c =>
        have hc2 := el h c hc
        rw [if_neg (show ¬ ocI (some c) = zI (-1) from fun z => by have := (q_nzeq (a := c) (by omega) (by omega)).mp z; omega)]
        cases hl : lsO (csW P R k w) h with
        | none =>
          rw [if_pos (show ocI none = zI (-1) from rfl)]
          exact ⟨_, rfl, rfl⟩
        | some d =>
          have hd2 := elw d hl
          rw [if_neg (show ¬ ocI (some d) = zI (-1) from fun z => by have := (q_nzeq (a := d) (by omega) (by omega)).mp z; omega)]
          dsimp only
          by_cases hlt : c < d
          · rw [if_neg (show ¬ ocI (some d) ≤ ocI (some c) from fun z => by have := (q_le (a := d) (b := c) (by omega) (by omega)).mp z; omega), if_pos hlt]
            exact ⟨_, rfl, rfl⟩
          · rw [if_pos (show ocI (some d) ≤ ocI (some c) from (q_le (a := d) (b := c) (by omega) (by omega)).mpr (by omega)), if_neg hlt]
            exact ⟨_, rfl, rfl⟩
  · rintro f x rfl
    show f_X0_leastCost_6 a (nI k) (nI w) (f + 1) _ (nI (pH P)) M = _
    rw [f_X0_leastCost_6.eq_2]
    simp (disch := omega) only [q_lit, q_m1, q_m2, q_m1000, q_add, q_mul, q_cl, q_le, q_lt, q_eq, q_in, q_bd_some, eq_self, if_true, if_false, q_b0, q_b1, q_b01, q_bt, q_bf, q_ft, q_tf, Nat.mul_zero, Nat.add_zero, Nat.zero_add, or_true, true_or, not_true_eq_false, not_false_eq_true, reduceCtorEq, hP.2.1.1, Nat.le_refl]
theorem cs_step {P : Pal} {R : Rol} {k h : Nat} (hk : k + 1 < oN R) : cs P R (oN R - 1 - k) h = match lsO (csW P R (k + 1) (foes P h)) (pH P) with
    | none => none
    | some b => some (cq P R k h + b) := by
  rw [show oN R - 1 - k = (oN R - 1 - (k + 1)) + 1 by omega]
  unfold cs
  rw [show oN R - 1 - (oN R - 1 - (k + 1) + 1) = k by omega]
  rw [lsO_congr (f := fun j => if foe P h j then none else cs P R (oN R - 1 - (k + 1)) j) (g := csW P R (k + 1) (foes P h))]
  intro j hj
  unfold csW foes
  rw [bset_bit, decide_eq_true hj, Bool.true_and]
theorem s_repaint14 {M0 M : PM} (hP : rP M0 a P) (ha : a + 9 ≤ 240) (hR : rR M0 b R) (hb : b + 4 ≤ 240) (hg : gOK P R) {k : Nat} (hk : k < oN R) (hf0 : hr_fr [(258, 0)] M0 M) (hm : mkC M P R (k + 1)) (k7 : Int32 → PM → Option (Int32 × PM)) : ∃ M', f_X0_repaint_14 a b k7 FU (nI k) (nI 0) M = k7 (nI k + zI (-1)) M' ∧ mkC M' P R k ∧ hr_fr [(258, 0)] M0 M' := by
  have hn := hg.1.2.1
  have h10 := hg.1.1.1
  refine hr_for (σ := PM) (fun f h N => f_X0_repaint_14 a b k7 f (nI k) (nI h) N) (pH P) (fun h N => (mkC N P R (k + 1) ∧ ∀ j, j < h → N.1 258 (10 * k + j) = ocI (cs P R (oN R - 1 - k) j)) ∧ hr_fr [(258, 0)] M0 N) (fun r => ∃ M', r = k7 (nI k + zI (-1)) M' ∧ mkC M' P R k ∧ hr_fr [(258, 0)] M0 M') ?_ ?_ FU 0 M (Nat.zero_le _) (FU_ok (by omega)) ⟨⟨hm, fun j hj => by omega⟩, hf0⟩
  · rintro f h N hh ⟨⟨hm, hj⟩, hf⟩
    right
    have hPN := rP_ag hP (hf.agr (n := 240) rfl) (Nat.zero_le _) (by omega)
    have hRN := rR_ag hR (hf.agr (n := 240) rfl) (Nat.zero_le _) (by omega)
    have cl := cq_le hg hk h
    have fin : ∀ v, v = ocI (cs P R (oN R - 1 - k) h) → (mkC (hr_si N 258 (10 * k + h) v) P R (k + 1) ∧ ∀ j, j < h + 1 → (hr_si N 258 (10 * k + h) v).1 258 (10 * k + j) = ocI (cs P R (oN R - 1 - k) j)) ∧ hr_fr [(258, 0)] M0 (hr_si N 258 (10 * k + h) v) := by
      intro v hv
      refine ⟨⟨?_, ?_⟩, hr_fr.si rfl hf⟩
      · intro t ht ht2 j hj2
        rw [si_same, if_neg (by omega)]
        exact hm t ht ht2 j hj2
      · intro j hj2
        rw [si_same]
        by_cases e : j = h
        · rw [e, if_pos rfl]; exact hv
        · rw [if_neg (by omega)]; exact hj j (by omega)
    show ∃ s', f_X0_repaint_14 a b k7 (f + 1) (nI k) (nI h) N = f_X0_repaint_14 a b k7 f (nI k) (nI (h + 1)) s' ∧ _
    rw [f_X0_repaint_14.eq_2]
    by_cases hl : oN R ≤ k + 1
    · have ed : cs P R (oN R - 1 - k) h = some (cq P R k h) := by
        rw [show oN R - 1 - k = 0 by omega]
        unfold cs
        rw [show oN R - 1 = k by omega]
      simp (disch := omega) only [q_lit, q_m1, q_m2, q_m1000, q_add, q_mul, q_cl, q_le, q_lt, q_eq, q_in, q_bd_some, eq_self, if_true, if_false, q_b0, q_b1, q_b01, q_bt, q_bf, q_ft, q_tf, Nat.mul_zero, Nat.add_zero, Nat.zero_add, or_true, true_or, not_true_eq_false, not_false_eq_true, reduceCtorEq, hPN.2.1.1, show ¬ pH P ≤ h by omega, hRN.2.1.1, hl, f_X0_repaint_51, s_costOf hPN hRN hg hk hh, q_nzeq, show ¬ ((0 : Nat) : Int) = -1 by omega]
      exact ⟨_, rfl, fin _ (by rw [ed]; rfl)⟩
    · have hfl : foes P h < 1024 := bset_lt10 (foe P h) h10
      have lc := s_leastCost (w := foes P h) hPN hg (show k + 1 < oN R by omega) (by omega) hm
      have ed := cs_step (P := P) (R := R) (k := k) (h := h) (by omega)
      simp (disch := omega) only [q_lit, q_m1, q_m2, q_m1000, q_add, q_mul, q_cl, q_le, q_lt, q_eq, q_in, q_bd_some, eq_self, if_true, if_false, q_b0, q_b1, q_b01, q_bt, q_bf, q_ft, q_tf, Nat.mul_zero, Nat.add_zero, Nat.zero_add, or_true, true_or, not_true_eq_false, not_false_eq_true, reduceCtorEq, hPN.2.1.1, show ¬ pH P ≤ h by omega, hRN.2.1.1, hl, s_foesOf hPN hh, lc, f_X0_repaint_51, s_costOf hPN hRN hg hk hh]
      cases hq : lsO (csW P R (k + 1) (foes P h)) (pH P) with
      | none =>
        rw [hq] at ed
        rw [if_pos (show ocI none = zI (-1) from rfl)]
        exact ⟨_, rfl, fin _ (by rw [ed]; rfl)⟩
      | some c =>
        rw [hq] at ed
        have hc2 : c ≤ 2430 := lsO_le (b := 2430) (fun j c _ hj => by
          unfold csW at hj
          split at hj
          · cases hj
          · exact Nat.le_trans (cs_le hg (by omega) j c hj) (by omega)) hq
        rw [if_neg (show ¬ ocI (some c) = zI (-1) from fun z => by have := (q_nzeq (a := c) (by omega) (by omega)).mp z; omega)]
        refine ⟨_, rfl, fin _ ?_⟩
        rw [ed]
        exact q_add _ _
  · rintro f N ⟨⟨hm, hj⟩, hf⟩
    have hPN := rP_ag hP (hf.agr (n := 240) rfl) (Nat.zero_le _) (by omega)
    show ∃ M', f_X0_repaint_14 a b k7 (f + 1) (nI k) (nI (pH P)) N = _ ∧ _
    rw [f_X0_repaint_14.eq_2]
    simp (disch := omega) only [q_lit, q_m1, q_m2, q_m1000, q_add, q_mul, q_cl, q_le, q_lt, q_eq, q_in, q_bd_some, eq_self, if_true, if_false, q_b0, q_b1, q_b01, q_bt, q_bf, q_ft, q_tf, Nat.mul_zero, Nat.add_zero, Nat.zero_add, or_true, true_or, not_true_eq_false, not_false_eq_true, reduceCtorEq, hPN.2.1.1, Nat.le_refl]
    refine ⟨N, rfl, ?_, hf⟩
    intro t ht ht2 j hj2
    by_cases e : t = k
    · rw [e]; exact hj j hj2
    · exact hm t (by omega) ht2 j hj2
end CLS
