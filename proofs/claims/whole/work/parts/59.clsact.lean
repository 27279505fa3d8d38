/-! THE CLASS'S DEEDS -/
def goS (P : Pal) (R D : Rol) (W : Wk) : Nat → Option Wk
  | 0 => some W
  | n + 1 => (goS P R D W n).bind (actS P R D n)
def begW (R : Rol) : Wk := ((nI 0, nI 0, zI (-1), zI (-1)), fun _ => zI (-1), fun k => zI (oB R k), fun _ => zI (-1), fun _ => zI (-1), fun _ => nI 0)
/-- how many of n deeds could be done -/
def doneS (P : Pal) (R D : Rol) (n : Nat) : Nat := (fst1 (fun k => (goS P R D (begW R) (k + 1)).isNone) n).getD n
theorem goS_none {P : Pal} {R D : Rol} {W : Wk} {n m : Nat} (h : n ≤ m) (h0 : goS P R D W n = none) : goS P R D W m = none := by
  induction m with
  | zero => rw [show n = 0 by omega] at h0; exact h0
  | succ m ih =>
    by_cases e : n = m + 1
    · rw [← e]; exact h0
    · show (goS P R D W m).bind _ = none
      rw [ih (by omega)]
      rfl
theorem goS_ok {P : Pal} {R D : Rol} (hD : ∀ k, k < oN D → deedOK (oC D k) (oA D k) (oB D k)) {W W' : Wk} (hW : wOK P W) {n : Nat} (hn : n ≤ oN D) (h : goS P R D W n = some W') : wOK P W' := by
  induction n generalizing W' with
  | zero => cases h; exact hW
  | succ n ih =>
    unfold goS at h
    cases h1 : goS P R D W n with
    | none => rw [h1] at h; cases h
    | some X =>
      rw [h1] at h
      exact actS_ok (hD n (by omega)) (ih (by omega) h1) h
theorem doneS_eq {P : Pal} {R D : Rol} {n m : Nat} (hm : m < n) {X : Wk} (h : goS P R D (begW R) m = some X) (ha : actS P R D m X = none) : doneS P R D n = m := by
  unfold doneS
  have h2 : goS P R D (begW R) (m + 1) = none := by
    show (goS P R D (begW R) m).bind _ = none
    rw [h]
    exact ha
  rw [fst1_hit (n := m) ?_ (by rw [h2]; rfl) hm]
  · rfl
  · apply fst1_nos (n := 0) rfl (Nat.zero_le _)
    intro c _ hc
    cases h3 : goS P R D (begW R) (c + 1) with
    | some _ => rfl
    | none => rw [goS_none (show c + 1 ≤ m by omega) h3] at h; cases h
theorem doneS_all {P : Pal} {R D : Rol} {n : Nat} {X : Wk} (h : goS P R D (begW R) n = some X) : doneS P R D n = n := by
  unfold doneS
  rw [fst1_nos (n := 0) rfl (Nat.zero_le _)]
  · rfl
  · intro c _ hc
    cases h3 : goS P R D (begW R) (c + 1) with
    | some _ => rfl
    | none => rw [goS_none (show c + 1 ≤ n by omega) h3] at h; cases h
section CLS
variable {a b d : Nat} {P : Pal} {R D : Rol}
theorem s_act {M : PM} (hP : rP M a P) (ha : a + 9 ≤ 240) (hR : rR M b R) (hb : b + 4 ≤ 240) (hD : rR M d D) {k : Nat} (hk : k < oN D) (h40 : oN D ≤ 40) (ok : deedOK (oC D k) (oA D k) (oB D k)) (hg : gOK P R) {W : Wk} (hW : wOK P W) (hC : cW M R W) : ∃ M', f_X9_act a b d (nI k) M = some (bI (actS P R D k W).isSome, M') ∧ (∀ W', actS P R D k W = some W' → cW M' R W') := by
  have h10 : pH P ≤ 10 := hg.1.1.1
  have hn : oN R ≤ 9 := hg.1.2.1
  obtain ⟨e1, e2, e3⟩ := hD.2.2 k hk
  unfold f_X9_act
  rw [if_pos hP.1.1, if_pos hR.1, if_pos hD.1]
  obtain ⟨d0, d1, d2, d3, d4, d5, d6, d7⟩ := ok
  have eA : 0 ≤ oA D k → zI (oA D k) = nI (oA D k).toNat := fun h => by rw [q_nz, Int.toNat_of_nonneg h]
  have eB : 0 ≤ oB D k → zI (oB D k) = nI (oB D k).toNat := fun h => by rw [q_nz, Int.toNat_of_nonneg h]
  have ec : oC D k = 0 ∨ oC D k = 1 ∨ oC D k = 2 ∨ oC D k = 3 ∨ oC D k = 4 ∨ oC D k = 5 := by omega
  have K1 := fun (x : Nat) (hx : x < 9) (v : Int32) => s_move (M := M) i_k.1 i_k.2.1 hx (Nat.le_refl _) v
  have K2 := fun (x : Nat) (hx : x < 6) (v : Int32) => s_move (M := M) i_k.2.2.1 i_k.2.2.2 hx (by omega) v
  rcases ec with ec | ec | ec | ec | ec | ec
  · have := d3 ec
    have hx : actS P R D k W = if (oA D k).toNat < oN R ∧ wH W (oA D k).toNat = zI (-1) then some (setH W (oA D k).toNat (zI (oB D k))) else none := by
      unfold actS
      rw [if_pos ec]
    rw [ec] at e1
    rw [eA (by omega)] at e2
    by_cases h1 : (oA D k).toNat < oN R
    · have q1 := (K1 (oA D k).toNat (by omega) (zI (oB D k))).1
      rw [hC.2.1 _ (by omega)] at q1
      by_cases h2 : wH W (oA D k).toNat = zI (-1)
      · rw [if_pos ⟨h1, h2⟩] at hx
        rw [if_pos h2] at q1
        rw [hx]
        simp (disch := omega) only [q_lit, q_m1, q_m2, q_m1000, q_add, q_mul, q_cl, q_le, q_lt, q_eq, q_in, q_bd_some, eq_self, if_true, if_false, q_b0, q_b1, q_b01, q_bt, q_bf, q_ft, q_tf, Nat.mul_zero, Nat.add_zero, Nat.zero_add, or_true, true_or, not_true_eq_false, not_false_eq_true, reduceCtorEq, e1, e2, e3, show zI 0 = nI 0 from rfl, s_X6_has hR, ix_n, h1, Option.isSome_some, q1]
        refine ⟨_, rfl, ?_⟩
        intro W' hw'
        cases hw'
        refine ⟨by simp [q_si1]; exact hC.1, fun j hj => ?_, fun j hj => by simp [q_si1]; exact hC.2.2.1 j hj, fun j hj => by simp [q_si1]; exact hC.2.2.2 j hj⟩
        rw [si_same]
        show _ = (if j = _ then _ else wH W j)
        rw [hC.2.1 j hj]
      · rw [if_neg (fun z => h2 z.2)] at hx
        rw [if_neg h2] at q1
        rw [hx]
        simp (disch := omega) only [q_lit, q_m1, q_m2, q_m1000, q_add, q_mul, q_cl, q_le, q_lt, q_eq, q_in, q_bd_some, eq_self, if_true, if_false, q_b0, q_b1, q_b01, q_bt, q_bf, q_ft, q_tf, Nat.mul_zero, Nat.add_zero, Nat.zero_add, or_true, true_or, not_true_eq_false, not_false_eq_true, reduceCtorEq, e1, e2, e3, show zI 0 = nI 0 from rfl, s_X6_has hR, ix_n, h1, Option.isSome_some, q1]
        exact ⟨M, rfl, fun W' hw' => by cases hw'⟩
    · rw [if_neg (fun z => h1 z.1)] at hx
      rw [hx]
      simp (disch := omega) only [q_lit, q_m1, q_m2, q_m1000, q_add, q_mul, q_cl, q_le, q_lt, q_eq, q_in, q_bd_some, eq_self, if_true, if_false, q_b0, q_b1, q_b01, q_bt, q_bf, q_ft, q_tf, Nat.mul_zero, Nat.add_zero, Nat.zero_add, or_true, true_or, not_true_eq_false, not_false_eq_true, reduceCtorEq, e1, e2, e3, show zI 0 = nI 0 from rfl, s_X6_has hR, ix_big, Option.isSome_none]
      exact ⟨M, rfl, fun W' hw' => by cases hw'⟩
  · have := d4 ec
    have hx : actS P R D k W = if (oA D k).toNat < oN R ∧ ¬ wH W (oA D k).toNat = zI (-1) then some (setH W (oA D k).toNat (zI (-1))) else none := by
      unfold actS
      rw [if_neg (by omega), if_pos ec]
    rw [ec] at e1
    rw [eA (by omega)] at e2
    by_cases h1 : (oA D k).toNat < oN R
    · have q1 := (K1 (oA D k).toNat (by omega) (zI (-1))).2
      rw [hC.2.1 _ (by omega)] at q1
      by_cases h2 : wH W (oA D k).toNat = zI (-1)
      · rw [if_neg (fun z => z.2 h2)] at hx
        rw [if_pos h2] at q1
        rw [hx]
        simp (disch := omega) only [q_lit, q_m1, q_m2, q_m1000, q_add, q_mul, q_cl, q_le, q_lt, q_eq, q_in, q_bd_some, eq_self, if_true, if_false, q_b0, q_b1, q_b01, q_bt, q_bf, q_ft, q_tf, Nat.mul_zero, Nat.add_zero, Nat.zero_add, or_true, true_or, not_true_eq_false, not_false_eq_true, reduceCtorEq, e1, e2, e3, show zI 1 = nI 1 from rfl, s_X6_has hR, ix_n, h1, Option.isSome_some, q1]
        exact ⟨M, rfl, fun W' hw' => by cases hw'⟩
      · rw [if_pos ⟨h1, h2⟩] at hx
        rw [if_neg h2] at q1
        rw [hx]
        simp (disch := omega) only [q_lit, q_m1, q_m2, q_m1000, q_add, q_mul, q_cl, q_le, q_lt, q_eq, q_in, q_bd_some, eq_self, if_true, if_false, q_b0, q_b1, q_b01, q_bt, q_bf, q_ft, q_tf, Nat.mul_zero, Nat.add_zero, Nat.zero_add, or_true, true_or, not_true_eq_false, not_false_eq_true, reduceCtorEq, e1, e2, e3, show zI 1 = nI 1 from rfl, s_X6_has hR, ix_n, h1, Option.isSome_some, q1]
        refine ⟨_, rfl, ?_⟩
        intro W' hw'
        cases hw'
        refine ⟨by simp [q_si1]; exact hC.1, fun j hj => ?_, fun j hj => by simp [q_si1]; exact hC.2.2.1 j hj, fun j hj => by simp [q_si1]; exact hC.2.2.2 j hj⟩
        rw [si_same]
        show _ = (if j = _ then _ else wH W j)
        rw [hC.2.1 j hj]
    · rw [if_neg (fun z => h1 z.1)] at hx
      rw [hx]
      simp (disch := omega) only [q_lit, q_m1, q_m2, q_m1000, q_add, q_mul, q_cl, q_le, q_lt, q_eq, q_in, q_bd_some, eq_self, if_true, if_false, q_b0, q_b1, q_b01, q_bt, q_bf, q_ft, q_tf, Nat.mul_zero, Nat.add_zero, Nat.zero_add, or_true, true_or, not_true_eq_false, not_false_eq_true, reduceCtorEq, e1, e2, e3, show zI 1 = nI 1 from rfl, s_X6_has hR, ix_big, Option.isSome_none]
      exact ⟨M, rfl, fun W' hw' => by cases hw'⟩
  · have := d5 ec
    have hx : actS P R D k W = if (oB D k).toNat < pH P then some (setW W (oA D k).toNat (zI (oB D k))) else none := by
      unfold actS
      rw [if_neg (by omega), if_neg (by omega), if_pos ec]
    rw [ec] at e1
    rw [eA (by omega)] at e2
    rw [eB (by omega)] at e3 hx
    by_cases h1 : (oB D k).toNat < pH P
    · rw [if_pos h1] at hx
      rw [hx]
      simp (disch := omega) only [q_lit, q_m1, q_m2, q_m1000, q_add, q_mul, q_cl, q_le, q_lt, q_eq, q_in, q_bd_some, eq_self, if_true, if_false, q_b0, q_b1, q_b01, q_bt, q_bf, q_ft, q_tf, Nat.mul_zero, Nat.add_zero, Nat.zero_add, or_true, true_or, not_true_eq_false, not_false_eq_true, reduceCtorEq, e1, e2, e3, show zI 2 = nI 2 from rfl, s_hasix hP, ix_n, h1, Option.isSome_some]
      refine ⟨_, rfl, ?_⟩
      intro W' hw'
      cases hw'
      refine ⟨by simp [q_si1]; exact hC.1, fun j hj => by simp [q_si1]; exact hC.2.1 j hj, fun j hj => by simp [q_si1]; exact hC.2.2.1 j hj, fun j hj => ?_⟩
      have q := hC.2.2.2 j hj
      refine ⟨by simp [q_si1]; exact q.1, ?_, by simp [q_si1]; exact q.2.2⟩
      rw [si_same]
      show _ = (if j = _ then _ else wW W j)
      rw [q.2.1]
    · rw [if_neg h1] at hx
      rw [hx]
      simp (disch := omega) only [q_lit, q_m1, q_m2, q_m1000, q_add, q_mul, q_cl, q_le, q_lt, q_eq, q_in, q_bd_some, eq_self, if_true, if_false, q_b0, q_b1, q_b01, q_bt, q_bf, q_ft, q_tf, Nat.mul_zero, Nat.add_zero, Nat.zero_add, or_true, true_or, not_true_eq_false, not_false_eq_true, reduceCtorEq, e1, e2, e3, show zI 2 = nI 2 from rfl, s_hasix hP, ix_big, Option.isSome_none]
      exact ⟨M, rfl, fun W' hw' => by cases hw'⟩
  · have := d6 ec
    have hx : actS P R D k W = if wS W (oA D k).toNat = zI (-1) then some (setS W (oA D k).toNat (zI (oB D k))) else none := by
      unfold actS
      rw [if_neg (by omega), if_neg (by omega), if_neg (by omega), if_pos ec]
    rw [ec] at e1
    rw [eA (by omega)] at e2
    have q1 := (K2 (oA D k).toNat (by omega) (zI (oB D k))).1
    rw [(hC.2.2.2 (oA D k).toNat (by omega)).1] at q1
    by_cases h2 : wS W (oA D k).toNat = zI (-1)
    · rw [if_pos h2] at hx q1
      rw [hx]
      simp (disch := omega) only [q_lit, q_m1, q_m2, q_m1000, q_add, q_mul, q_cl, q_le, q_lt, q_eq, q_in, q_bd_some, eq_self, if_true, if_false, q_b0, q_b1, q_b01, q_bt, q_bf, q_ft, q_tf, Nat.mul_zero, Nat.add_zero, Nat.zero_add, or_true, true_or, not_true_eq_false, not_false_eq_true, reduceCtorEq, e1, e2, e3, show zI 3 = nI 3 from rfl, q1]
      refine ⟨_, rfl, ?_⟩
      intro W' hw'
      cases hw'
      refine ⟨by simp [q_si1]; exact hC.1, fun j hj => by simp [q_si1]; exact hC.2.1 j hj, fun j hj => by simp [q_si1]; exact hC.2.2.1 j hj, fun j hj => ?_⟩
      have q := hC.2.2.2 j hj
      refine ⟨?_, by simp [q_si1]; exact q.2.1, by simp [q_si1]; exact q.2.2⟩
      rw [si_same]
      show _ = (if j = _ then _ else wS W j)
      rw [q.1]
    · rw [if_neg h2] at hx q1
      rw [hx]
      simp (disch := omega) only [q_lit, q_m1, q_m2, q_m1000, q_add, q_mul, q_cl, q_le, q_lt, q_eq, q_in, q_bd_some, eq_self, if_true, if_false, q_b0, q_b1, q_b01, q_bt, q_bf, q_ft, q_tf, Nat.mul_zero, Nat.add_zero, Nat.zero_add, or_true, true_or, not_true_eq_false, not_false_eq_true, reduceCtorEq, e1, e2, e3, show zI 3 = nI 3 from rfl, q1]
      exact ⟨M, rfl, fun W' hw' => by cases hw'⟩
  · have := d7 ec
    have hx : actS P R D k W = if ¬ wS W (oA D k).toNat = zI (-1) then some (setS W (oA D k).toNat (zI (-1))) else none := by
      unfold actS
      rw [if_neg (by omega), if_neg (by omega), if_neg (by omega), if_neg (by omega), if_pos ec]
    rw [ec] at e1
    rw [eA (by omega)] at e2
    have q1 := (K2 (oA D k).toNat (by omega) (zI (-1))).2
    rw [(hC.2.2.2 (oA D k).toNat (by omega)).1] at q1
    by_cases h2 : wS W (oA D k).toNat = zI (-1)
    · rw [if_neg (fun z => z h2)] at hx
      rw [if_pos h2] at q1
      rw [hx]
      simp (disch := omega) only [q_lit, q_m1, q_m2, q_m1000, q_add, q_mul, q_cl, q_le, q_lt, q_eq, q_in, q_bd_some, eq_self, if_true, if_false, q_b0, q_b1, q_b01, q_bt, q_bf, q_ft, q_tf, Nat.mul_zero, Nat.add_zero, Nat.zero_add, or_true, true_or, not_true_eq_false, not_false_eq_true, reduceCtorEq, e1, e2, e3, show zI 4 = nI 4 from rfl, q1]
      exact ⟨M, rfl, fun W' hw' => by cases hw'⟩
    · rw [if_pos h2] at hx
      rw [if_neg h2] at q1
      rw [hx]
      simp (disch := omega) only [q_lit, q_m1, q_m2, q_m1000, q_add, q_mul, q_cl, q_le, q_lt, q_eq, q_in, q_bd_some, eq_self, if_true, if_false, q_b0, q_b1, q_b01, q_bt, q_bf, q_ft, q_tf, Nat.mul_zero, Nat.add_zero, Nat.zero_add, or_true, true_or, not_true_eq_false, not_false_eq_true, reduceCtorEq, e1, e2, e3, show zI 4 = nI 4 from rfl, q1]
      refine ⟨_, rfl, ?_⟩
      intro W' hw'
      cases hw'
      refine ⟨by simp [q_si1]; exact hC.1, fun j hj => by simp [q_si1]; exact hC.2.1 j hj, fun j hj => by simp [q_si1]; exact hC.2.2.1 j hj, fun j hj => ?_⟩
      have q := hC.2.2.2 j hj
      refine ⟨?_, by simp [q_si1]; exact q.2.1, by simp [q_si1]; exact q.2.2⟩
      rw [si_same]
      show _ = (if j = _ then _ else wS W j)
      rw [q.1]
  · have hx : actS P R D k W = some (hourW P R W) := by
      unfold actS
      rw [if_neg (by omega), if_neg (by omega), if_neg (by omega), if_neg (by omega), if_neg (by omega)]
    rw [ec] at e1
    obtain ⟨M', g1, g2, g3⟩ := s_hour7 hP ha hR hb hg hW hC
    rw [hx]
    simp (disch := omega) only [q_lit, q_m1, q_m2, q_m1000, q_add, q_mul, q_cl, q_le, q_lt, q_eq, q_in, q_bd_some, eq_self, if_true, if_false, q_b0, q_b1, q_b01, q_bt, q_bf, q_ft, q_tf, Nat.mul_zero, Nat.add_zero, Nat.zero_add, or_true, true_or, not_true_eq_false, not_false_eq_true, reduceCtorEq, e1, e2, e3, show zI 5 = nI 5 from rfl, g1]
    exact ⟨M', rfl, fun W' hw' => by cases hw'; exact g2⟩
end CLS
