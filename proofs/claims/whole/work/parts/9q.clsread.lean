/-! THE CLASS'S READER: lines, and a whole text -/
/-- what goes with the last number that can be -/
theorem badX_0 {k v0 v1 v2 : Nat} (h : badX k v0 v1 v2 = 0) : (1 ≤ kn k → v0 ≤ kfm k) ∧ (2 ≤ kn k → ksl k ≤ v1 ∧ v1 ≤ ksm k ∧ (kc k = 0 → v0 ≤ v1) ∧ (kc k = 3 ∨ kc k = 30 ∨ kc k = 31 → v1 ≠ v0)) ∧ (3 ≤ kn k → v2 ≤ ktm k) := by
  unfold badX at h
  by_cases h1 : decide (1 ≤ kn k ∧ kfm k < v0) = true
  · rw [if_pos h1] at h; cases h
  · rw [if_neg h1] at h
    by_cases h2 : (decide (2 ≤ kn k) && bad2 k v0 v1) = true
    · rw [if_pos h2] at h; cases h
    · rw [if_neg h2] at h
      by_cases h3 : decide (3 ≤ kn k ∧ ktm k < v2) = true
      · rw [if_pos h3] at h; cases h
      · have a1 : ¬ (1 ≤ kn k ∧ kfm k < v0) := fun y => h1 (decide_eq_true y)
        have a3 : ¬ (3 ≤ kn k ∧ ktm k < v2) := fun y => h3 (decide_eq_true y)
        refine ⟨fun z => by omega, fun z => ?_, fun z => by omega⟩
        rw [decide_eq_true z, Bool.true_and] at h2
        unfold bad2 at h2
        rw [Bool.or_eq_true] at h2
        have b1 : ¬ (v1 < ksl k ∨ ksm k < v1) := fun y => h2 (Or.inl (decide_eq_true y))
        refine ⟨by omega, by omega, fun y => ?_, fun y w => ?_⟩
        · rw [if_pos y] at h2
          refine Classical.byContradiction (fun w => h2 (Or.inr (decide_eq_true (by omega))))
        · have : ¬ kc k = 0 := by omega
          rw [if_neg this] at h2
          exact h2 (Or.inr (decide_eq_true ⟨w, y⟩))
theorem pow_2 {v : Nat} (h : v ≤ 9) : 2 ^ v < 1024 := pow_lt (by omega)
theorem namA_ext {R R' : Rol} (h : ∀ i, oA R i = oA R' i) (n : Nat) : namA R n = namA R' n := by
  induction n with
  | zero => rfl
  | succ n ih => unfold namA; rw [ih, h]
/-- of what is kept, all is as it must be -/
theorem keep_ok {s k v0 v1 v2 : Nat} {X : Txt} (ok : xOK s X) (hk : k < 17) (hs : kc k / 10 = s) (hf : fullX k X = false) (hb : badX k v0 v1 v2 = 0) : xOK s (keepX k v0 v1 v2 X) ∧ xF (keepX k v0 v1 v2 X) = xF X := by
  obtain ⟨o1, o2, o3, o4, o5, o6⟩ := ok
  obtain ⟨b1, b2, b3⟩ := badX_0 hb
  have n40 : kc k ≠ 40 := by rcases tb_all k (by omega) with h | h | h | h | h | h | h <;> omega
  unfold fullX at hf
  unfold keepX
  by_cases z5 : kc k = 5
  · obtain ⟨t1, t2, t3, t4, t5⟩ := tb_5 k (by omega) z5
    rw [if_neg (show ¬ (kc k = 6 ∨ kc k = 11) by omega), if_pos z5] at hf
    have := of_decide_eq_false hf
    have c1 := b1 (by omega)
    have c2 := b2 (by omega)
    have c3 := b3 (by omega)
    have s0 : s = 0 := by omega
    rw [if_pos z5]
    refine ⟨⟨⟨?_, o1.2.1, fun i => ?_, o1.2.2.2.1, o1.2.2.2.2⟩, fun h => by omega, o3, o4, o5, o6⟩, rfl⟩
    · show pH (xP X) + 1 ≤ 10; omega
    · have hi := o1.2.2.1 i
      show (if i = 3 * pH (xP X) then v0 else if i = 3 * pH (xP X) + 1 then v1 else if i = 3 * pH (xP X) + 2 then v2 else pP (xP X) i) ≤ 9
      split
      · omega
      · split
        · omega
        · split <;> omega
  rw [if_neg z5]
  by_cases z6 : kc k = 6
  · obtain ⟨t1, t2, t3, t4, t5⟩ := tb_6 k (by omega) z6
    have c1 := b1 (by omega)
    have c2 := b2 (by omega)
    have c3 := b3 (by omega)
    have s0 : s = 0 := by omega
    rw [if_pos z6]
    refine ⟨⟨⟨o1.1, o1.2.1, o1.2.2.1, o1.2.2.2.1, fun i => ?_⟩, fun h => by omega, or_lt o3 (pow_2 (by omega)), o4, o5, o6⟩, rfl⟩
    have hi := o1.2.2.2.2 i
    show (if i = 10 * v0 + v1 then v2 else pL (xP X) i) ≤ 9
    split <;> omega
  rw [if_neg z6]
  by_cases z0 : kc k < 5
  · rw [if_neg (show ¬ (kc k = 6 ∨ kc k = 11) by omega), if_neg z5, if_pos z0] at hf
    have hr := of_decide_eq_false hf
    have s0 : s = 0 := by omega
    rw [if_pos z0]
    have ru : ruOK ((kc k : Nat) : Int) ((v0 : Nat) : Int) (nu k 1 v1) := by
      unfold nu ruOK
      have cc : kc k = 0 ∨ kc k = 1 ∨ kc k = 2 ∨ kc k = 3 ∨ kc k = 4 := by omega
      rcases cc with c | c | c | c | c
      · obtain ⟨t1, t2, t3, t4⟩ := tb_0 k (by omega) c
        have c1 := b1 (by omega); have c2 := b2 (by omega)
        rw [if_pos (by omega), c]
        omega
      · obtain ⟨t1, t2, t3, t4⟩ := tb_1 k (by omega) c
        have c1 := b1 (by omega); have c2 := b2 (by omega)
        rw [if_pos (by omega), c]
        omega
      · obtain ⟨t1, t2⟩ := tb_2 k (by omega) c
        have c1 := b1 (by omega)
        rw [if_neg (by omega), c]
        omega
      · obtain ⟨t1, t2, t3, t4⟩ := tb_3 k (by omega) c
        have c1 := b1 (by omega); have c2 := b2 (by omega)
        rw [if_pos (by omega), c]
        omega
      · obtain ⟨t1, t2, t3, t4⟩ := tb_4 k (by omega) c
        have c1 := b1 (by omega); have c2 := b2 (by omega)
        rw [if_pos (by omega), c]
        omega
    refine ⟨⟨⟨o1.1, ?_, o1.2.2.1, fun j hj => ?_, o1.2.2.2.2⟩, fun h => by omega, ?_, o4, o5, o6⟩, rfl⟩
    · show pR (xP X) + 1 ≤ 6; omega
    · have hj' : j < pR (xP X) + 1 := hj
      have ep : ∀ i, pU (addR (xP X) ((kc k : Nat) : Int) ((v0 : Nat) : Int) (nu k 1 v1)) i = if i = 3 * pR (xP X) then ((kc k : Nat) : Int) else if i = 3 * pR (xP X) + 1 then ((v0 : Nat) : Int) else if i = 3 * pR (xP X) + 2 then nu k 1 v1 else pU (xP X) i := fun _ => rfl
      show ruOK (pU (addR (xP X) _ _ _) (3 * j)) (pU (addR (xP X) _ _ _) (3 * j + 1)) (pU (addR (xP X) _ _ _) (3 * j + 2))
      rw [ep, ep, ep]
      by_cases z : j = pR (xP X)
      · rw [z, if_pos rfl, if_neg (by omega), if_pos rfl, if_neg (by omega), if_neg (by omega), if_pos rfl]
        exact ru
      · rw [if_neg (by omega), if_neg (by omega), if_neg (by omega), if_neg (by omega), if_neg (by omega), if_neg (by omega), if_neg (by omega), if_neg (by omega), if_neg (by omega)]
        exact o1.2.2.2.1 j (by omega)
    · show (if kc k = 3 then xN X ||| (2 ^ v0 ||| 2 ^ v1) else xN X) < 1024
      by_cases c : kc k = 3
      · obtain ⟨t1, t2, t3, t4⟩ := tb_3 k (by omega) c
        have c1 := b1 (by omega); have c2 := b2 (by omega)
        rw [if_pos c]
        exact or_lt o3 (or_lt (pow_2 (by omega)) (pow_2 (by omega)))
      · rw [if_neg c]; exact o3
  rw [if_neg z0]
  by_cases z11 : kc k = 11
  · have s1 : s = 1 := by omega
    obtain ⟨t1, t2⟩ := (tb_10 k (by omega)).2.1 z11
    have c1 := b1 (by omega)
    obtain ⟨q1, q2⟩ := o2 (by omega)
    subst s1
    rw [if_pos z11]
    refine ⟨⟨o1, fun _ => ⟨⟨q1.1, ?_, q1.2.2.1.trans (namA_ext (R := xR X) (R' := setO (xR X) v0) (fun _ => rfl) _), q1.2.2.2⟩, q2⟩, o3, o4, o5, fun h => by omega⟩, rfl⟩
    show v0 ≤ 99
    omega
  rw [if_neg z11]
  rw [if_neg (show ¬ (kc k = 6 ∨ kc k = 11) by omega), if_neg z5, if_neg z0] at hf
  have hr := of_decide_eq_false hf
  have cc : kc k = 10 ∨ (20 ≤ kc k ∧ kc k ≤ 25) ∨ kc k = 30 ∨ kc k = 31 := by rcases tb_all k (by omega) with h | h | h | h | h | h | h <;> omega
  obtain ⟨q1, q2⟩ := o2 (by omega)
  have ec : ∀ nm i, oC (addO (xR X) ((kc k % 10 : Nat) : Int) (nu k 0 v0) (nu k 1 v1) nm) i = if i = oN (xR X) then ((kc k % 10 : Nat) : Int) else oC (xR X) i := fun _ _ => rfl
  have ea : ∀ nm i, oA (addO (xR X) ((kc k % 10 : Nat) : Int) (nu k 0 v0) (nu k 1 v1) nm) i = if i = oN (xR X) then nu k 0 v0 else oA (xR X) i := fun _ _ => rfl
  have eb : ∀ nm i, oB (addO (xR X) ((kc k % 10 : Nat) : Int) (nu k 0 v0) (nu k 1 v1) nm) i = if i = oN (xR X) then nu k 1 v1 else oB (xR X) i := fun _ _ => rfl
  have eN : ∀ nm, oN (addO (xR X) ((kc k % 10 : Nat) : Int) (nu k 0 v0) (nu k 1 v1) nm) = oN (xR X) + 1 := fun _ => rfl
  have eS : ∀ nm, oS (addO (xR X) ((kc k % 10 : Nat) : Int) (nu k 0 v0) (nu k 1 v1) nm) = oS (xR X) ||| nm := fun _ => rfl
  refine ⟨⟨o1, fun _ => ⟨?_, q2⟩, o3, o4, o5, fun h => by omega⟩, rfl⟩
  show oOK s (addO (xR X) ((kc k % 10 : Nat) : Int) (nu k 0 v0) (nu k 1 v1) (if kc k = 10 then 2 ^ v0 else if 30 ≤ kc k then 2 ^ v0 ||| 2 ^ v1 else 0))
  rcases cc with c | c | c
  · have s1 : s = 1 := by omega
    subst s1
    obtain ⟨t1, t2, t3, t4⟩ := (tb_10 k (by omega)).1 c
    have c1 := b1 (by omega); have c2 := b2 (by omega)
    have en0 : nu k 0 v0 = v0 := by unfold nu; rw [if_pos (by omega)]
    have en1 : nu k 1 v1 = v1 := by unfold nu; rw [if_pos (by omega)]
    rw [show limS (kc k / 10) = 9 by rw [hs]; rfl] at hr
    obtain ⟨r1, r2, r3, r4⟩ := q1
    have na : ∀ n, n ≤ oN (xR X) → namA (addO (xR X) ((kc k % 10 : Nat) : Int) (nu k 0 v0) (nu k 1 v1) (if kc k = 10 then 2 ^ v0 else if 30 ≤ kc k then 2 ^ v0 ||| 2 ^ v1 else 0)) n = namA (xR X) n := by
      intro n
      induction n with
      | zero => intro _; rfl
      | succ n ih =>
        intro hn
        unfold namA
        rw [ih (by omega), ea, if_neg (by omega)]
    refine ⟨by rw [eN]; omega, r2, ?_, fun i hi => ?_⟩
    · rw [eS, eN, if_pos c]
      show _ = namA _ (oN (xR X)) ||| 2 ^ (oA _ (oN (xR X))).toNat
      have na' := na _ (Nat.le_refl _)
      rw [if_pos c] at na'
      rw [na', ea, if_pos rfl, en0, r3]
      rfl
    · rw [eN] at hi
      rw [ea, eb]
      by_cases z : i = oN (xR X)
      · rw [if_pos z, if_pos z, en0, en1]; omega
      · rw [if_neg z, if_neg z]; exact r4 i (by omega)
  · have s2 : s = 2 := by omega
    subst s2
    rw [show limS (kc k / 10) = 40 by rw [hs]; rfl] at hr
    obtain ⟨r1, r4⟩ := q1
    refine ⟨by rw [eN]; omega, fun i hi => ?_⟩
    rw [eN] at hi
    rw [ec, ea, eb]
    by_cases z : i = oN (xR X)
    · rw [if_pos z, if_pos z, if_pos z]
      unfold nu deedOK
      have cc : kc k = 20 ∨ kc k = 21 ∨ kc k = 22 ∨ kc k = 23 ∨ kc k = 24 ∨ kc k = 25 := by omega
      rcases cc with d | d | d | d | d | d
      · obtain ⟨t1, t2, t3, t4⟩ := tb_20 k (by omega) d
        have c1 := b1 (by omega); have c2 := b2 (by omega)
        rw [if_pos (by omega), if_pos (by omega), d]; omega
      · obtain ⟨t1, t2⟩ := tb_21 k (by omega) d
        have c1 := b1 (by omega)
        rw [if_pos (by omega), if_neg (by omega), d]; omega
      · obtain ⟨t1, t2, t3, t4⟩ := tb_22 k (by omega) d
        have c1 := b1 (by omega); have c2 := b2 (by omega)
        rw [if_pos (by omega), if_pos (by omega), d]; omega
      · obtain ⟨t1, t2, t3, t4⟩ := tb_23 k (by omega) d
        have c1 := b1 (by omega); have c2 := b2 (by omega)
        rw [if_pos (by omega), if_pos (by omega), d]; omega
      · obtain ⟨t1, t2⟩ := tb_24 k (by omega) d
        have c1 := b1 (by omega)
        rw [if_pos (by omega), if_neg (by omega), d]; omega
      · have t1 := tb_25 k (by omega) d
        rw [if_neg (by omega), if_neg (by omega), d]; omega
    · rw [if_neg z, if_neg z, if_neg z]; exact r4 i (by omega)
  · have s3 : s = 3 := by omega
    subst s3
    obtain ⟨t1, t2, t3, t4⟩ := (tb_10 k (by omega)).2.2 c
    have c1 := b1 (by omega); have c2 := b2 (by omega)
    have en0 : nu k 0 v0 = v0 := by unfold nu; rw [if_pos (by omega)]
    have en1 : nu k 1 v1 = v1 := by unfold nu; rw [if_pos (by omega)]
    rw [show limS (kc k / 10) = 12 by rw [hs]; rfl] at hr
    obtain ⟨r1, r3, r4⟩ := q1
    have na : ∀ n, n ≤ oN (xR X) → namB (addO (xR X) ((kc k % 10 : Nat) : Int) (nu k 0 v0) (nu k 1 v1) (if kc k = 10 then 2 ^ v0 else if 30 ≤ kc k then 2 ^ v0 ||| 2 ^ v1 else 0)) n = namB (xR X) n := by
      intro n
      induction n with
      | zero => intro _; rfl
      | succ n ih =>
        intro hn
        unfold namB
        rw [ih (by omega), ea, eb, if_neg (by omega), if_neg (by omega)]
    refine ⟨by rw [eN]; omega, ?_, fun i hi => ?_⟩
    · rw [eS, eN, if_neg (show ¬ kc k = 10 by omega), if_pos (by omega)]
      show _ = namB _ (oN (xR X)) ||| (2 ^ (oA _ (oN (xR X))).toNat ||| 2 ^ (oB _ (oN (xR X))).toNat)
      have na' := na _ (Nat.le_refl _)
      rw [if_neg (show ¬ kc k = 10 by omega), if_pos (by omega)] at na'
      rw [na', ea, eb, if_pos rfl, if_pos rfl, en0, en1, r3]
      rfl
    · rw [eN] at hi
      rw [ec, ea, eb]
      by_cases z : i = oN (xR X)
      · rw [if_pos z, if_pos z, if_pos z, en0, en1]; omega
      · rw [if_neg z, if_neg z, if_neg z]; exact r4 i (by omega)
