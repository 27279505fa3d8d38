/-! QUARRELS AND HIDDEN ONES, on both sides -/
def gqS (q : Nat → Bool) : Nat → Nat
  | 0 => 0
  | s + 1 => if popc (gqS q s) < popc s ∧ q s = true then s else gqS q s
theorem gqS_lt (q : Nat → Bool) (s : Nat) : gqS q (s + 1) ≤ s := by
  induction s with
  | zero => unfold gqS; split <;> exact Nat.zero_le _
  | succ s ih =>
    unfold gqS
    split
    · exact Nat.le_refl _
    · omega
def hdS (q : Nat → Bool) (all : Nat) : Nat → Nat
  | 0 => all
  | h + 1 => if popc h < popc (hdS q all h) ∧ q (bd all h) = true then h else hdS q all h
def hmS (q : Nat → Bool) (all : Nat) : Nat → Nat
  | 0 => all
  | j + 1 => if popc (all - 1 - j) ≤ popc (hmS q all j) ∧ q (bd all (all - 1 - j)) = true then all - 1 - j else hmS q all j
theorem hd_hm {q : Nat → Bool} {n : Nat} (hn : n ≤ 10) (q0 : q 0 = true) : hdS q (2 ^ n - 1) (2 ^ n) = hmS q (2 ^ n - 1) (2 ^ n - 1) := by
  have h2 : 1 ≤ 2 ^ n := Nat.one_le_two_pow
  have h3 : 2 ^ n ≤ 2 ^ 10 := Nat.pow_le_pow_right (by decide) hn
  have bb : bd (2 ^ n - 1) (2 ^ n - 1) = 0 := by unfold bd; rw [Nat.and_self, Nat.xor_self]
  have pl : ∀ s, s < 2 ^ n - 1 → popc s < popc (2 ^ n - 1) := by
    intro s hs
    refine popc_lt (fun i hi => ?_) (by omega) (by omega)
    rw [Nat.testBit_two_pow_sub_one, decide_eq_true_eq]
    exact lt2_iff.mp (show s < 2 ^ n by omega) i hi
  have A : ∀ h, h ≤ 2 ^ n → (hdS q (2 ^ n - 1) h = 2 ^ n - 1 ∨ hdS q (2 ^ n - 1) h < h) ∧ hdS q (2 ^ n - 1) h ≤ 2 ^ n - 1 ∧ q (bd (2 ^ n - 1) (hdS q (2 ^ n - 1) h)) = true ∧ ∀ s, s < h → q (bd (2 ^ n - 1) s) = true → popc (hdS q (2 ^ n - 1) h) < popc s ∨ (popc (hdS q (2 ^ n - 1) h) = popc s ∧ hdS q (2 ^ n - 1) h ≤ s) := by
    intro h
    induction h with
    | zero => intro _; exact ⟨Or.inl rfl, Nat.le_refl _, by show q (bd _ (2 ^ n - 1)) = true; rw [bb]; exact q0, fun s hs => by omega⟩
    | succ h ih =>
      intro hh
      obtain ⟨i1, i2, i3, i4⟩ := ih (by omega)
      unfold hdS
      by_cases hc : popc h < popc (hdS q (2 ^ n - 1) h) ∧ q (bd (2 ^ n - 1) h) = true
      · rw [if_pos hc]
        refine ⟨by omega, by omega, hc.2, ?_⟩
        intro s hs hq
        by_cases e : s = h
        · right; exact ⟨by rw [e], by omega⟩
        · left
          rcases i4 s (by omega) hq with h5 | h5
          · omega
          · omega
      · rw [if_neg hc]
        refine ⟨by omega, i2, i3, ?_⟩
        intro s hs hq
        by_cases e : s = h
        · subst e
          have hle : popc (hdS q (2 ^ n - 1) s) ≤ popc s := Nat.le_of_not_lt (fun z => hc ⟨z, hq⟩)
          rcases i1 with h6 | h6
          · by_cases e2 : s = 2 ^ n - 1
            · right; rw [h6, e2]; exact ⟨rfl, Nat.le_refl _⟩
            · have := pl s (by omega)
              rw [h6] at hle
              omega
          · omega
        · exact i4 s (by omega) hq
  have B : ∀ j, j ≤ 2 ^ n - 1 → (2 ^ n - 1 - j ≤ hmS q (2 ^ n - 1) j) ∧ hmS q (2 ^ n - 1) j ≤ 2 ^ n - 1 ∧ q (bd (2 ^ n - 1) (hmS q (2 ^ n - 1) j)) = true ∧ ∀ s, 2 ^ n - 1 - j ≤ s → s ≤ 2 ^ n - 1 → q (bd (2 ^ n - 1) s) = true → popc (hmS q (2 ^ n - 1) j) < popc s ∨ (popc (hmS q (2 ^ n - 1) j) = popc s ∧ hmS q (2 ^ n - 1) j ≤ s) := by
    intro j
    induction j with
    | zero =>
      intro _
      refine ⟨Nat.le_refl _, Nat.le_refl _, by show q (bd _ (2 ^ n - 1)) = true; rw [bb]; exact q0, fun s h1 h2 _ => ?_⟩
      right
      have : s = 2 ^ n - 1 := by omega
      rw [this]
      exact ⟨rfl, Nat.le_refl _⟩
    | succ j ih =>
      intro hj
      obtain ⟨i1, i2, i3, i4⟩ := ih (by omega)
      unfold hmS
      by_cases hc : popc (2 ^ n - 1 - 1 - j) ≤ popc (hmS q (2 ^ n - 1) j) ∧ q (bd (2 ^ n - 1) (2 ^ n - 1 - 1 - j)) = true
      · rw [if_pos hc]
        refine ⟨by omega, by omega, hc.2, ?_⟩
        intro s h5 h6 hq
        by_cases e : s = 2 ^ n - 1 - 1 - j
        · right; rw [e]; exact ⟨rfl, Nat.le_refl _⟩
        · rcases i4 s (by omega) h6 hq with h7 | h7
          · left; omega
          · by_cases e3 : popc (2 ^ n - 1 - 1 - j) = popc s
            · right; exact ⟨e3, by omega⟩
            · left; omega
      · rw [if_neg hc]
        refine ⟨by omega, i2, i3, ?_⟩
        intro s h5 h6 hq
        by_cases e : s = 2 ^ n - 1 - 1 - j
        · left
          apply Nat.lt_of_not_le
          intro z
          exact hc ⟨by rw [e] at z; exact z, by rw [← e]; exact hq⟩
        · exact i4 s (by omega) h6 hq
  obtain ⟨-, a2, a3, a4⟩ := A (2 ^ n) (Nat.le_refl _)
  obtain ⟨-, b2, b3, b4⟩ := B (2 ^ n - 1) (Nat.le_refl _)
  have c1 := a4 _ (show hmS q (2 ^ n - 1) (2 ^ n - 1) < 2 ^ n by omega) b3
  have c2 := b4 _ (by omega) a2 a3
  omega
section CLS
variable {P : Pal} {M : PM} {n : Nat} {hs nu : Nat → Nat}
theorem s_isQuarrel (h : cK M P n hs nu) {s : Nat} (h2 : s < 2 ^ n) : f_X1_isQuarrel (nI s) M = some (bI (qr (eF P hs) n s), M) := by
  have h10 := h.1.1
  have h3 : 2 ^ n ≤ 2 ^ 10 := Nat.pow_le_pow_right (by decide) h10
  unfold f_X1_isQuarrel
  refine hr_for (σ := Unit) (fun f k _ => f_X1_isQuarrel_2 (nI s) f (nI k) M) n (fun k _ => exb (fun i => s.testBit i && exb (fun j => s.testBit j && (decide (i ≠ j) && !eF P hs i j)) n) k = false) (fun r => r = some (bI (qr (eF P hs) n s), M)) ?_ ?_ FU 0 () (Nat.zero_le _) (FU_ok (by omega)) rfl
  · intro f k _ hk hno
    show f_X1_isQuarrel_2 (nI s) (f + 1) (nI k) M = _ ∨ ∃ _ : Unit, f_X1_isQuarrel_2 (nI s) (f + 1) (nI k) M = f_X1_isQuarrel_2 (nI s) f (nI (k + 1)) M ∧ _
    rw [f_X1_isQuarrel_2.eq_2]
    simp (disch := omega) only [q_lit, q_m1, q_m2, q_m1000, q_add, q_mul, q_cl, q_le, q_lt, q_eq, q_in, q_bd_some, eq_self, if_true, if_false, q_b0, q_b1, q_b01, q_bt, q_bf, q_ft, q_tf, Nat.mul_zero, Nat.add_zero, Nat.zero_add, or_true, true_or, not_true_eq_false, not_false_eq_true, reduceCtorEq, h.1.2, show ¬ n ≤ k by omega, s_holdsBit, (h.2 k hk).2.2, q_jl, q_bd]
    have st := qr_step (P := P) (hs := hs) hk h2
    have hl : bd (bd s (2 ^ k)) (bset (eF P hs k) n) < 1024 := Nat.lt_of_le_of_lt (Nat.le_trans (bd_le _ _) (bd_le _ _)) (by omega)
    have ee : exb (fun i => s.testBit i && exb (fun j => s.testBit j && (decide (i ≠ j) && !eF P hs i j)) n) (k + 1) = (exb (fun i => s.testBit i && exb (fun j => s.testBit j && (decide (i ≠ j) && !eF P hs i j)) n) k || (s.testBit k && exb (fun j => s.testBit j && (decide (k ≠ j) && !eF P hs k j)) n)) := rfl
    cases hb : s.testBit k with
    | false =>
      right
      rw [if_pos rfl]
      refine ⟨(), rfl, ?_⟩
      rw [ee, hno, hb]
      rfl
    | true =>
      rw [if_neg (by simp)]
      by_cases hz : bd (bd s (2 ^ k)) (bset (eF P hs k) n) = 0
      · right
        rw [if_pos (by rw [hz])]
        refine ⟨(), rfl, ?_⟩
        rw [ee, hno, hb, Bool.false_or, Bool.true_and, exb_no]
        intro j hj
        cases hbj : s.testBit j with
        | false => rfl
        | true =>
          by_cases e : k = j
          · rw [decide_eq_false (fun z => z e)]; rfl
          · rw [st.mp hz j hj hbj e]; simp
      · left
        rw [if_neg (fun z => hz ((q_eq (by omega) (by omega)).mp z))]
        have : qr (eF P hs) n s = false := by
          cases hq : qr (eF P hs) n s with
          | false => rfl
          | true => exact absurd (st.mpr (fun j hj b e => qr_iff.mp hq k j hk hj hb b e)) hz
        rw [this]
        rfl
  · intro f _ hno
    show f_X1_isQuarrel_2 (nI s) (f + 1) (nI n) M = _
    rw [f_X1_isQuarrel_2.eq_2]
    simp (disch := omega) only [q_lit, q_m1, q_m2, q_m1000, q_add, q_mul, q_cl, q_le, q_lt, q_eq, q_in, q_bd_some, eq_self, if_true, if_false, q_b0, q_b1, q_b01, q_bt, q_bf, q_ft, q_tf, Nat.mul_zero, Nat.add_zero, Nat.zero_add, or_true, true_or, not_true_eq_false, not_false_eq_true, reduceCtorEq, h.1.2, Nat.le_refl]
    unfold qr
    rw [hno]
    rfl
theorem s_greatestQuarrel (h : cK M P n hs nu) : f_X1_greatestQuarrel M = some (nI (gqS (qr (eF P hs) n) (2 ^ n)), M) := by
  have h10 := h.1.1
  have h2 : 1 ≤ 2 ^ n := Nat.one_le_two_pow
  have h3 : 2 ^ n ≤ 2 ^ 10 := Nat.pow_le_pow_right (by decide) h10
  unfold f_X1_greatestQuarrel
  refine hr_for (σ := Int32) (fun f s x => f_X1_greatestQuarrel_4 f x (nI s) M) (2 ^ n) (fun s x => 1 ≤ s ∧ x = nI (gqS (qr (eF P hs) n) s)) (fun r => r = some (nI (gqS (qr (eF P hs) n) (2 ^ n)), M)) ?_ ?_ FU 1 0 h2 (FU_ok (by omega)) ⟨Nat.le_refl _, by show nI 0 = nI (if _ then 0 else 0); rw [ite_self]⟩
  · rintro f s x hs2 ⟨hs1, rfl⟩
    right
    have hg : gqS (qr (eF P hs) n) s ≤ s - 1 := by
      have := gqS_lt (qr (eF P hs) n) (s - 1)
      rw [show s - 1 + 1 = s by omega] at this
      exact this
    have p1 := popc_le s
    have p2 := popc_le (gqS (qr (eF P hs) n) s)
    have e1 : gqS (qr (eF P hs) n) (s + 1) = if popc (gqS (qr (eF P hs) n) s) < popc s ∧ qr (eF P hs) n s = true then s else gqS (qr (eF P hs) n) s := rfl
    show ∃ s', f_X1_greatestQuarrel_4 (f + 1) _ (nI s) M = f_X1_greatestQuarrel_4 f s' (nI (s + 1)) M ∧ _
    rw [f_X1_greatestQuarrel_4.eq_2, s_everyone h, q_bd_some]
    simp (disch := omega) only [q_lit, q_m1, q_m2, q_m1000, q_add, q_mul, q_cl, q_le, q_lt, q_eq, q_in, q_bd_some, eq_self, if_true, if_false, q_b0, q_b1, q_b01, q_bt, q_bf, q_ft, q_tf, Nat.mul_zero, Nat.add_zero, Nat.zero_add, or_true, true_or, not_true_eq_false, not_false_eq_true, reduceCtorEq, show ¬ 2 ^ n - 1 < s by omega, s_bitCount, s_isQuarrel h hs2]
    rw [e1]
    by_cases hc : popc s ≤ popc (gqS (qr (eF P hs) n) s)
    · rw [if_pos hc, if_neg (fun z => by omega)]
      exact ⟨_, rfl, by omega, rfl⟩
    · rw [if_neg hc]
      cases hq : qr (eF P hs) n s with
      | false =>
        rw [if_pos rfl, if_neg (fun z => by cases z.2)]
        exact ⟨_, rfl, by omega, rfl⟩
      | true =>
        rw [if_neg (by simp), if_pos ⟨by omega, rfl⟩]
        exact ⟨_, rfl, by omega, rfl⟩
  · rintro f x ⟨hs1, rfl⟩
    show f_X1_greatestQuarrel_4 (f + 1) _ (nI (2 ^ n)) M = _
    rw [f_X1_greatestQuarrel_4.eq_2, s_everyone h, q_bd_some]
    simp (disch := omega) only [q_lit, q_m1, q_m2, q_m1000, q_add, q_mul, q_cl, q_le, q_lt, q_eq, q_in, q_bd_some, eq_self, if_true, if_false, q_b0, q_b1, q_b01, q_bt, q_bf, q_ft, q_tf, Nat.mul_zero, Nat.add_zero, Nat.zero_add, or_true, true_or, not_true_eq_false, not_false_eq_true, reduceCtorEq, show 2 ^ n - 1 < 2 ^ n by omega]
theorem s_fewestHidden (h : cK M P n hs nu) : hw (f_X1_fewestHidden M) (fun v _ => v = nI (hdS (qt (eF P hs) n) (2 ^ n - 1) (2 ^ n))) := by
  have h10 := h.1.1
  have h2 : 1 ≤ 2 ^ n := Nat.one_le_two_pow
  have h3 : 2 ^ n ≤ 2 ^ 10 := Nat.pow_le_pow_right (by decide) h10
  unfold f_X1_fewestHidden
  obtain ⟨M1, g1, g2, g3⟩ := s_findQuiet h
  have hK : cK M1 P n hs nu := h.fr g3 rfl (fun _ => rfl) (fun _ => rfl) (fun _ => rfl)
  rw [g1, q_bd_some, s_everyone hK, q_bd_some]
  have hle : ∀ k, hdS (qt (eF P hs) n) (2 ^ n - 1) k < 1024 ∨ 2 ^ n < k := by
    intro k
    induction k with
    | zero => left; show 2 ^ n - 1 < 1024; omega
    | succ k ih =>
      unfold hdS
      split
      · omega
      · omega
  refine hr_for (σ := Int32) (fun f s x => f_X1_fewestHidden_11 f x (nI s) M1) (2 ^ n) (fun s x => x = nI (hdS (qt (eF P hs) n) (2 ^ n - 1) s)) (fun r => hw r (fun v _ => v = nI (hdS (qt (eF P hs) n) (2 ^ n - 1) (2 ^ n)))) ?_ ?_ FU 0 (nI (2 ^ n - 1)) (Nat.zero_le _) (FU_ok (by omega)) rfl
  · rintro f s x hs2 rfl
    right
    have hg := hle s
    have p1 := popc_le s
    have p2 := popc_le (hdS (qt (eF P hs) n) (2 ^ n - 1) s)
    have bl := bd_le (2 ^ n - 1) s
    have e1 : hdS (qt (eF P hs) n) (2 ^ n - 1) (s + 1) = if popc s < popc (hdS (qt (eF P hs) n) (2 ^ n - 1) s) ∧ qt (eF P hs) n (bd (2 ^ n - 1) s) = true then s else hdS (qt (eF P hs) n) (2 ^ n - 1) s := rfl
    show ∃ s', f_X1_fewestHidden_11 (f + 1) _ (nI s) M1 = f_X1_fewestHidden_11 f s' (nI (s + 1)) M1 ∧ _
    rw [f_X1_fewestHidden_11.eq_2]
    simp (disch := omega) only [q_lit, q_m1, q_m2, q_m1000, q_add, q_mul, q_cl, q_le, q_lt, q_eq, q_in, q_bd_some, eq_self, if_true, if_false, q_b0, q_b1, q_b01, q_bt, q_bf, q_ft, q_tf, Nat.mul_zero, Nat.add_zero, Nat.zero_add, or_true, true_or, not_true_eq_false, not_false_eq_true, reduceCtorEq, s_everyone hK, show ¬ 2 ^ n - 1 < s by omega, s_bitCount, q_bd, g2 (bd (2 ^ n - 1) s) (by omega)]
    rw [e1]
    by_cases hc : popc (hdS (qt (eF P hs) n) (2 ^ n - 1) s) ≤ popc s
    · rw [if_pos hc, if_neg (fun z => by omega)]
      exact ⟨_, rfl, rfl⟩
    · rw [if_neg hc]
      cases hq : qt (eF P hs) n (bd (2 ^ n - 1) s) with
      | false =>
        rw [if_pos rfl, if_neg (fun z => by cases z.2)]
        exact ⟨_, rfl, rfl⟩
      | true =>
        rw [if_neg (by simp), if_pos ⟨by omega, rfl⟩]
        exact ⟨_, rfl, rfl⟩
  · rintro f x rfl
    show hw (f_X1_fewestHidden_11 (f + 1) _ (nI (2 ^ n)) M1) _
    rw [f_X1_fewestHidden_11.eq_2, s_everyone hK, q_bd_some]
    simp (disch := omega) only [q_lit, q_m1, q_m2, q_m1000, q_add, q_mul, q_cl, q_le, q_lt, q_eq, q_in, q_bd_some, eq_self, if_true, if_false, q_b0, q_b1, q_b01, q_bt, q_bf, q_ft, q_tf, Nat.mul_zero, Nat.add_zero, Nat.zero_add, or_true, true_or, not_true_eq_false, not_false_eq_true, reduceCtorEq, show 2 ^ n - 1 < 2 ^ n by omega]
    exact hw.ok rfl
end CLS
section MOD
variable {M : PM} {q g : Nat} {P : Pal} {R : Rol}
theorem s_mind (hB : mB M q P g R) (hg : gOK P R) {i k : Nat} (hi : i < oN R) (hk : k < oN R) : f_X11_mind (nI i) (nI k) M = some (bI (eF P (hsR R) i k), M) := by
  have h10 : pH P ≤ 10 := hg.1.1.1
  have ei : zI (oA R i) = nI (hsR R i) := by unfold hsR; rw [q_nz, Int.toNat_of_nonneg (hg.2 i hi).1.1]
  have ek : zI (oA R k) = nI (hsR R k) := by unfold hsR; rw [q_nz, Int.toNat_of_nonneg (hg.2 k hk).1.1]
  have li : hsR R i < pH P := (hg.2 i hi).1.2
  have lk : hsR R k < pH P := (hg.2 k hk).1.2
  unfold f_X11_mind
  simp (disch := omega) only [q_lit, q_m1, q_m2, q_m1000, q_add, q_mul, q_cl, q_le, q_lt, q_eq, q_in, q_bd_some, eq_self, if_true, if_false, q_b0, q_b1, q_b01, q_bt, q_bf, q_ft, q_tf, Nat.mul_zero, Nat.add_zero, Nat.zero_add, or_true, true_or, not_true_eq_false, not_false_eq_true, reduceCtorEq, s_hueOf hB.2, ei, ek, s_clash hB.1]
  rw [show foe P (hsR R i) (hsR R k) = eF P (hsR R) i k from rfl]
def stS (E : Nat → Nat → Bool) (n s : Nat) (c : Bool) : Bool := !exb (fun i => exb (fun k => s.testBit i && (s.testBit k && (E i k != c))) i) n
theorem stS_0 {P : Pal} {hs : Nat → Nat} {n s : Nat} : stS (eF P hs) n s false = qt (eF P hs) n s := by
  apply bool_iff
  rw [qt_iff]
  unfold stS
  rw [Bool.not_eq_true', exb_no]
  constructor
  · intro h
    have half : ∀ i j, i < n → j < i → s.testBit i = true → s.testBit j = true → eF P hs i j = false := by
      intro i j hi hj b1 b2
      have := h i hi
      rw [exb_no] at this
      have := this j hj
      rw [b1, b2] at this
      simpa using this
    intro i j hi hj b1 b2
    rcases Nat.lt_trichotomy i j with e | e | e
    · rw [eF_comm]; exact half j i hj e b2 b1
    · rw [e]; exact eF_self _ _ _
    · exact half i j hi e b1 b2
  · intro h i hi
    rw [exb_no]
    intro k hk
    cases b1 : s.testBit i with
    | false => rfl
    | true =>
      cases b2 : s.testBit k with
      | false => rfl
      | true => rw [h i k hi (by omega) b1 b2]; rfl
theorem stS_1 {P : Pal} {hs : Nat → Nat} {n s : Nat} : stS (eF P hs) n s true = qr (eF P hs) n s := by
  apply bool_iff
  rw [qr_iff]
  unfold stS
  rw [Bool.not_eq_true', exb_no]
  constructor
  · intro h
    have half : ∀ i j, i < n → j < i → s.testBit i = true → s.testBit j = true → eF P hs i j = true := by
      intro i j hi hj b1 b2
      have := h i hi
      rw [exb_no] at this
      have := this j hj
      rw [b1, b2] at this
      simpa using this
    intro i j hi hj b1 b2 hn
    rcases Nat.lt_trichotomy i j with e | e | e
    · rw [eF_comm]; exact half j i hj e b2 b1
    · exact absurd e hn
    · exact half i j hi e b1 b2
  · intro h i hi
    rw [exb_no]
    intro k hk
    cases b1 : s.testBit i with
    | false => rfl
    | true =>
      cases b2 : s.testBit k with
      | false => rfl
      | true => rw [h i k hi (by omega) b1 b2 (by omega)]; rfl
theorem s_isSet (hB : mB M q P g R) (hg : gOK P R) {s : Nat} (hs : s < 2147483648) (c : Bool) : f_X11_isSet (nI s) (bI c) M = some (bI (stS (eF P (hsR R)) (oN R) s c), M) := by
  have hn : oN R ≤ 9 := hg.1.2.1
  unfold f_X11_isSet
  refine hr_for (σ := Unit) (fun f i _ => f_X11_isSet_2 (nI s) (bI c) f (nI i) M) (oN R) (fun i _ => exb (fun i => exb (fun k => s.testBit i && (s.testBit k && (eF P (hsR R) i k != c))) i) i = false) (fun r => r = some (bI (stS (eF P (hsR R)) (oN R) s c), M)) ?_ ?_ FU 0 () (Nat.zero_le _) (FU_ok (by omega)) rfl
  · intro f i _ hi hno
    show f_X11_isSet_2 (nI s) (bI c) (f + 1) (nI i) M = _ ∨ ∃ _ : Unit, f_X11_isSet_2 (nI s) (bI c) (f + 1) (nI i) M = f_X11_isSet_2 (nI s) (bI c) f (nI (i + 1)) M ∧ _
    rw [f_X11_isSet_2.eq_2]
    simp (disch := omega) only [q_lit, q_m1, q_m2, q_m1000, q_add, q_mul, q_cl, q_le, q_lt, q_eq, q_in, q_bd_some, eq_self, if_true, if_false, q_b0, q_b1, q_b01, q_bt, q_bf, q_ft, q_tf, Nat.mul_zero, Nat.add_zero, Nat.zero_add, or_true, true_or, not_true_eq_false, not_false_eq_true, reduceCtorEq, s_pictures hB.2, show ¬ oN R ≤ i by omega]
    refine hr_for (σ := Unit) (fun f' k _ => f_X11_isSet_13 (nI s) (bI c) (fun x3 M => f_X11_isSet_2 (nI s) (bI c) f x3 M) f' (nI i) (nI k) M) i (fun k _ => exb (fun k => s.testBit i && (s.testBit k && (eF P (hsR R) i k != c))) k = false) (fun r => r = some (bI (stS (eF P (hsR R)) (oN R) s c), M) ∨ ∃ _ : Unit, r = f_X11_isSet_2 (nI s) (bI c) f (nI (i + 1)) M ∧ exb (fun i => exb (fun k => s.testBit i && (s.testBit k && (eF P (hsR R) i k != c))) i) (i + 1) = false) ?_ ?_ FU 0 () (Nat.zero_le _) (FU_ok (by omega)) rfl
    · intro f' k _ hk hno2
      show (f_X11_isSet_13 (nI s) (bI c) _ (f' + 1) (nI i) (nI k) M = _ ∨ _) ∨ ∃ _ : Unit, f_X11_isSet_13 (nI s) (bI c) _ (f' + 1) (nI i) (nI k) M = f_X11_isSet_13 (nI s) (bI c) _ f' (nI i) (nI (k + 1)) M ∧ _
      rw [f_X11_isSet_13.eq_2]
      simp (disch := omega) only [q_lit, q_m1, q_m2, q_m1000, q_add, q_mul, q_cl, q_le, q_lt, q_eq, q_in, q_bd_some, eq_self, if_true, if_false, q_b0, q_b1, q_b01, q_bt, q_bf, q_ft, q_tf, Nat.mul_zero, Nat.add_zero, Nat.zero_add, or_true, true_or, not_true_eq_false, not_false_eq_true, reduceCtorEq, show ¬ i ≤ k by omega, s_has11, s_mind hB hg, q_bb]
      have ee : exb (fun k => s.testBit i && (s.testBit k && (eF P (hsR R) i k != c))) (k + 1) = (exb (fun k => s.testBit i && (s.testBit k && (eF P (hsR R) i k != c))) k || (s.testBit i && (s.testBit k && (eF P (hsR R) i k != c)))) := rfl
      rw [ee, hno2, Bool.false_or]
      cases b1 : s.testBit i with
      | false => rw [if_pos rfl]; exact Or.inr ⟨(), rfl, rfl⟩
      | true =>
        rw [if_neg (by simp)]
        cases b2 : s.testBit k with
        | false => rw [if_pos rfl]; exact Or.inr ⟨(), rfl, rfl⟩
        | true =>
          rw [if_neg (by simp)]
          by_cases e : eF P (hsR R) i k = c
          · rw [if_pos e, e]
            exact Or.inr ⟨(), rfl, by simp⟩
          · rw [if_neg e]
            left; left
            have : stS (eF P (hsR R)) (oN R) s c = false := by
              unfold stS
              have hx : exb (fun k => s.testBit i && (s.testBit k && (eF P (hsR R) i k != c))) i = true := exb_iff.mpr ⟨k, hk, by rw [b1, b2]; simpa using e⟩
              have hx2 : exb (fun i => exb (fun k => s.testBit i && (s.testBit k && (eF P (hsR R) i k != c))) i) (oN R) = true := exb_iff.mpr ⟨i, hi, hx⟩
              rw [hx2]
              rfl
            rw [this]
            rfl
    · intro f' _ hno2
      right
      refine ⟨(), ?_, ?_⟩
      · show f_X11_isSet_13 (nI s) (bI c) _ (f' + 1) (nI i) (nI i) M = _
        rw [f_X11_isSet_13.eq_2]
        simp (disch := omega) only [q_lit, q_m1, q_m2, q_m1000, q_add, q_mul, q_cl, q_le, q_lt, q_eq, q_in, q_bd_some, eq_self, if_true, if_false, q_b0, q_b1, q_b01, q_bt, q_bf, q_ft, q_tf, Nat.mul_zero, Nat.add_zero, Nat.zero_add, or_true, true_or, not_true_eq_false, not_false_eq_true, reduceCtorEq, Nat.le_refl]
      · show (exb _ i || exb _ i) = false
        rw [hno, hno2]
        rfl
  · intro f _ hno
    show f_X11_isSet_2 (nI s) (bI c) (f + 1) (nI (oN R)) M = _
    rw [f_X11_isSet_2.eq_2]
    simp (disch := omega) only [q_lit, q_m1, q_m2, q_m1000, q_add, q_mul, q_cl, q_le, q_lt, q_eq, q_in, q_bd_some, eq_self, if_true, if_false, q_b0, q_b1, q_b01, q_bt, q_bf, q_ft, q_tf, Nat.mul_zero, Nat.add_zero, Nat.zero_add, or_true, true_or, not_true_eq_false, not_false_eq_true, reduceCtorEq, s_pictures hB.2, Nat.le_refl]
    unfold stS
    rw [hno]
    rfl
end MOD
