/-! ROWS AND LOOMS, by the class -/
theorem i_nat (x : Int32) : x = nI x.toBitVec.toNat := by
  apply Int32.toBitVec_inj.1
  rw [q_bv]
  exact (BitVec.ofNat_toNat 32 x.toBitVec).symm ▸ (BitVec.setWidth_eq _).symm
/-- the hues of a palette that a set tells of -/
def memS (P : Pal) (s : Int32) : Nat := s.toBitVec.toNat &&& (2 ^ pH P - 1)
theorem memS_eq (P : Pal) (s : Int32) : s &&& nI (2 ^ pH P - 1) = nI (memS P s) := by
  have h := i_nat s
  unfold memS
  rw [← q_and, ← h]
theorem memS_lt {P : Pal} (s : Int32) : memS P s < 2 ^ pH P := by
  have h2 : 1 ≤ 2 ^ pH P := Nat.one_le_two_pow
  have : memS P s ≤ 2 ^ pH P - 1 := Nat.and_le_right
  omega
theorem hb_nat {m : Nat} (h : m < 4294967296) (k : Nat) : hb (nI m) k = m.testBit k := by
  unfold hb
  rw [q_bv, BitVec.getLsbD_ofNat]
  by_cases hk : k < 32
  · rw [decide_eq_true hk]; rfl
  · rw [decide_eq_false hk, Nat.testBit_lt_two_pow (Nat.lt_of_lt_of_le h (Nat.pow_le_pow_right (n := 2) (i := 32) (by decide) (by omega)))]; rfl
theorem memS_bit {P : Pal} (h10 : pH P ≤ 10) (s : Int32) {k : Nat} (hk : k < pH P) : (memS P s).testBit k = hb s k := by
  unfold memS
  rw [Nat.testBit_and, all_bit, decide_eq_true hk, Bool.and_true]
  unfold hb
  rw [BitVec.getLsbD]
def hN (P : Pal) (m : Nat) : Nat := cnt (fun k => m.testBit k) (pH P)
noncomputable def hL (P : Pal) (m : Nat) : Nat → Nat := pk (fun k => m.testBit k) (pH P)
/-- what is lined up last is told of truly -/
def Lk (M : PM) (T : Tol) : Prop := M.1 240 8 = zI (-1) ∨ (∃ p m, (p < tz T 0 ∧ m < 2 ^ pH (tP T p)) ∧ M.1 240 8 = nI (1024 * p + m) ∧ ldn M (eF (tP T p) (hL (tP T p) m)) (hN (tP T p) m) (hL (tP T p) m)) ∨ (∃ p g, (p < tz T 0 ∧ g < tz T 1) ∧ M.1 240 8 = nI (2048 + 2 * p + g) ∧ ldn M (eF (tP T p) (hsR (tR T 1 g))) (oN (tR T 1 g)) (fun k => k))
theorem i64 {x : Nat} (h : x < 2147483648) : (nI x).toInt64 = lN x := by
  apply Int64.toInt_inj.mp
  rw [Int32.toInt_toInt64, q_nInt h, lN_toInt (by omega)]
section CLS
variable {M : PM} {T : Tol}
theorem c_lineUpPictures (hT : rT M 1 T) (ok : tOK T) (hk : Lk M T) (p g : Int32) : hw (f_X10_lineUpPictures p g M) (fun v M' => (match ix p (tz T 0), ix g (tz T 1) with
    | some p, some g => if tog (tP T p) (tR T 1 g) then v = nI 1 ∧ ldn M' (eF (tP T p) (hsR (tR T 1 g))) (oN (tR T 1 g)) (fun k => k) else v = nI 0
    | _, _ => v = nI 0) ∧ Lk M' T) := by
  have hz := ok.2.2.1
  have z0 := hz 0 (by omega)
  have z1 := hz 1 (by omega)
  have r1 := fun x => s_rollAt hT (s := 1) (by omega) (by omega) z1 x
  unfold f_X10_lineUpPictures
  rw [s_paletteAt hT z0, q_bd_some]
  rw [show f_X8_rollAt 1 = f_X8_rollAt (nI 1) from rfl]
  cases hp : ix p (tz T 0) with
  | none =>
    dsimp only
    rw [r1, q_bd_some]
    cases hg : ix g (tz T 1) with
    | none =>
      dsimp only
      rw [g_nn]
      exact hw.ok ⟨rfl, hk⟩
    | some g =>
      dsimp only
      have kg := k_5 (s := 1) (by omega) (by omega) (k := g) (by have := (ix_some hg).2.1; omega)
      rw [if_pos kg, g_nr kg]
      exact hw.ok ⟨rfl, hk⟩
  | some p =>
    dsimp only
    have kp := k_3 (q := p) (by have := (ix_some hp).2.1; omega)
    rw [if_pos kp, r1, q_bd_some]
    cases hg : ix g (tz T 1) with
    | none =>
      dsimp only
      rw [g_rn kp]
      exact hw.ok ⟨rfl, hk⟩
    | some g =>
      dsimp only
      have kg := k_5 (s := 1) (by omega) (by omega) (k := g) (by have := (ix_some hg).2.1; omega)
      obtain ⟨rfl, lp, -⟩ := ix_some hp
      obtain ⟨rfl, lg, -⟩ := ix_some hg
      have hP := hT.pal (show p < 2 by omega)
      have hR := hT.rol (s := 1) (by omega) (by omega) lg
      have oR := ok.2.2.2.2 1 g (by omega) (by omega) lg
      rw [if_pos kg, s_goTogether hP hR (oS_lt (Or.inl rfl) oR), q_bd_some]
      cases ht : tog (tP T p) (tR T 1 g) with
      | false => exact hw.ok ⟨rfl, hk⟩
      | true =>
        have hgk := gOK.of hP.1.2 oR ht
        have ek : (2048 : Int32) + 2 * nI p + nI g = nI (2048 + 2 * p + g) := by
          rw [q_lit 2048, q_lit 2, q_mul, q_add, q_add]
        rw [if_neg (show ¬ bI true = 0 by decide), ek]
        simp only [if_true]
        have hm2 : ∀ q m, q < tz T 0 → m < 2 ^ pH (tP T q) → 1024 * q + m < 2048 := by
          intro q m hq hm
          have h10 := (ok.2.2.2.1 q (by omega)).1
          have h3 : 2 ^ pH (tP T q) ≤ 2 ^ 10 := Nat.pow_le_pow_right (by decide) h10
          omega
        by_cases hc : M.1 240 8 = nI (2048 + 2 * p + g)
        · rw [if_pos hc]
          refine hw.ok ⟨⟨rfl, ?_⟩, hk⟩
          rcases hk with h | ⟨q, m, ⟨h1, h2⟩, h3, h4⟩ | ⟨q, g', ⟨h1, h2⟩, h3, h4⟩
          · rw [h] at hc
            have := (q_zneq (by omega) (by omega)).mp hc
            omega
          · rw [h3] at hc
            have := hm2 q m h1 h2
            have := (q_eq (by omega) (by omega)).mp hc
            omega
          · rw [h3] at hc
            have e := (q_eq (by omega) (by omega)).mp hc
            have e1 : q = p := by omega
            have e2 : g' = g := by omega
            subst e1 e2
            exact h4
        · rw [if_neg hc]
          obtain ⟨M1, c1, c2, c3⟩ := s_gatherPictures hP (by omega) hR (by omega) hgk
          obtain ⟨M2, d1, d2, d3⟩ := s_lineUp c2
          rw [c1, q_bd_some, d1, q_bd_some]
          have hl : ldn (hr_si M2 240 8 (nI (2048 + 2 * p + g))) (eF (tP T p) (hsR (tR T 1 g))) (oN (tR T 1 g)) (fun k => k) := by
            refine ⟨?_, ?_, ?_⟩
            · rw [si_same, if_neg (by omega)]; exact d2.1
            · rw [si_same, if_neg (by omega)]; exact d2.2.1
            · rw [si_ne _ _ _ (show 245 ≠ 240 by omega)]; exact d2.2.2
          exact hw.ok ⟨⟨rfl, hl⟩, Or.inr (Or.inr ⟨p, g, ⟨lp, lg⟩, by rw [si_same, if_pos rfl], hl⟩)⟩
theorem c_lineUpHues (hT : rT M 1 T) (ok : tOK T) (hk : Lk M T) (p s : Int32) : hw (f_X10_lineUpHues p s M) (fun v M' => (match ix p (tz T 0) with
    | some p => v = nI 1 ∧ ldn M' (eF (tP T p) (hL (tP T p) (memS (tP T p) s))) (hN (tP T p) (memS (tP T p) s)) (hL (tP T p) (memS (tP T p) s))
    | none => v = nI 0) ∧ Lk M' T) := by
  have hz := ok.2.2.1
  have z0 := hz 0 (by omega)
  unfold f_X10_lineUpHues
  rw [s_paletteAt hT z0, q_bd_some]
  cases hp : ix p (tz T 0) with
  | none => exact hw.ok ⟨rfl, hk⟩
  | some p =>
    dsimp only
    have kp := k_3 (q := p) (by have := (ix_some hp).2.1; omega)
    obtain ⟨rfl, lp, -⟩ := ix_some hp
    have hP := hT.pal (show p < 2 by omega)
    rw [if_pos kp, s_all hP, q_bd_some, memS_eq]
    have lm := memS_lt (P := tP T p) s
    have h10 := hP.1.2.1
    have h3 : 2 ^ pH (tP T p) ≤ 2 ^ 10 := Nat.pow_le_pow_right (by decide) h10
    generalize memS (tP T p) s = m at lm ⊢
    have ek : nI p * 1024 + nI m = nI (1024 * p + m) := by
      rw [q_lit 1024, q_mul, q_add, Nat.mul_comm]
    rw [ek]
    by_cases hc : M.1 240 8 = nI (1024 * p + m)
    · rw [if_pos hc]
      refine hw.ok ⟨⟨rfl, ?_⟩, hk⟩
      rcases hk with h | ⟨q, m', ⟨h1, h2⟩, h4, h5⟩ | ⟨q, g', ⟨h1, h2⟩, h4, h5⟩
      · rw [h] at hc
        have := (q_zneq (by omega) (by omega)).mp hc
        omega
      · rw [h4] at hc
        have h10' := (ok.2.2.2.1 q (by omega)).1
        have h3' : 2 ^ pH (tP T q) ≤ 2 ^ 10 := Nat.pow_le_pow_right (by decide) h10'
        have e := (q_eq (by omega) (by omega)).mp hc
        have e1 : q = p := by omega
        have e2 : m' = m := by omega
        subst e1 e2
        exact h5
      · rw [h4] at hc
        have z1 := hz 1 (by omega)
        have e := (q_eq (by omega) (by omega)).mp hc
        omega
    · rw [if_neg hc]
      obtain ⟨M1, c1, c2, c3⟩ := s_gatherHues hP (by omega) (nI m)
      have ef : hb (nI m) = fun k => m.testBit k := funext (fun k => hb_nat (by omega) k)
      rw [ef] at c2
      obtain ⟨M2, d1, d2, d3⟩ := s_lineUp c2
      rw [c1, q_bd_some, d1, q_bd_some]
      have hl : ldn (hr_si M2 240 8 (nI (1024 * p + m))) (eF (tP T p) (hL (tP T p) m)) (hN (tP T p) m) (hL (tP T p) m) := by
        refine ⟨?_, ?_, ?_⟩
        · rw [si_same, if_neg (by omega)]; exact d2.1
        · rw [si_same, if_neg (by omega)]; exact d2.2.1
        · rw [si_ne _ _ _ (show 245 ≠ 240 by omega)]; exact d2.2.2
      exact hw.ok ⟨⟨rfl, hl⟩, Or.inr (Or.inl ⟨p, m, ⟨lp, lm⟩, by rw [si_same, if_pos rfl], hl⟩)⟩
/-- who stands at a place of the first order -/
def plS (E : Nat → Nat → Bool) (n : Nat) (nu : Nat → Nat) (k : Int32) : Int32 := match ix k n with
  | none => zI (-1)
  | some k => if 0 < orS E n then nI (nu (odN E n k)) else zI (-1)
theorem s_placed {E : Nat → Nat → Bool} {n : Nat} {nu : Nat → Nat} (h : ldn M E n nu) (h10 : n ≤ 10) (k : Int32) : f_X1_placed k M = some (plS E n nu k, M) := by
  unfold f_X1_placed plS
  rw [h.2.1]
  cases hk : ix k n with
  | none =>
    rcases ix_none hk (by omega) with h0 | ⟨j, h1, rfl, h2⟩
    · rw [if_pos h0]; rfl
    · rw [if_neg (show ¬ nI j < 0 from nI_pos h1), if_pos (by
        split
        · exact (q_le (by omega) (by omega)).mpr h2
        · exact (q_le (by omega) (by omega)).mpr (Nat.zero_le _))]
      rfl
  | some k =>
    obtain ⟨rfl, h1, -⟩ := ix_some hk
    dsimp only
    rw [if_neg (show ¬ nI k < 0 from nI_pos (by omega))]
    by_cases h0 : 0 < orS E n
    · rw [if_pos h0, if_pos h0, if_neg (fun z => by have := (q_le (by omega) (by omega)).mp z; omega), if_pos (q_in (by omega) (by omega)), q_cl (by omega), h.2.2 k h1 h0]
    · rw [if_neg h0, if_neg h0, if_pos ((q_le (by omega) (by omega)).mpr (Nat.zero_le _))]
      rfl
end CLS
def sp_rows (T : Tol) (p g : Int32) : Int64 := match ix p (tz T 0), ix g (tz T 1) with
  | some p, some g => if tog (tP T p) (tR T 1 g) then lN (orS (eF (tP T p) (hsR (tR T 1 g))) (oN (tR T 1 g))) else -1
  | _, _ => -1
def sp_row (T : Tol) (p g k : Int32) : Int32 := match ix p (tz T 0), ix g (tz T 1) with
  | some p, some g => if tog (tP T p) (tR T 1 g) then plS (eF (tP T p) (hsR (tR T 1 g))) (oN (tR T 1 g)) (fun k => k) k else zI (-1)
  | _, _ => zI (-1)
noncomputable def sp_loom (T : Tol) (p s : Int32) : Int64 := match ix p (tz T 0) with
  | some p => lN (orS (eF (tP T p) (hL (tP T p) (memS (tP T p) s))) (hN (tP T p) (memS (tP T p) s)))
  | none => -1
noncomputable def sp_thread (T : Tol) (p s k : Int32) : Int32 := match ix p (tz T 0) with
  | some p => plS (eF (tP T p) (hL (tP T p) (memS (tP T p) s))) (hN (tP T p) (memS (tP T p) s)) (hL (tP T p) (memS (tP T p) s)) k
  | none => zI (-1)
section CLS2
variable {M : PM} {T : Tol}
theorem c_rows (hT : rT M 1 T) (ok : tOK T) (hk : Lk M T) (p g : Int32) : hw (f_X10_rows p g M) (fun v M' => v = sp_rows T p g ∧ Lk M' T) := by
  unfold f_X10_rows sp_rows
  refine hw.bd ((c_lineUpPictures hT ok hk p g).mono (fun v M' h => ?_))
  obtain ⟨h, hl⟩ := h
  cases hp : ix p (tz T 0) with
  | none => rw [hp] at h; dsimp only at h; rw [h]; exact hw.ok ⟨rfl, hl⟩
  | some p =>
    cases hg : ix g (tz T 1) with
    | none => rw [hp, hg] at h; dsimp only at h; rw [h]; exact hw.ok ⟨rfl, hl⟩
    | some g =>
      rw [hp, hg] at h
      dsimp only at h ⊢
      obtain ⟨-, lg, -⟩ := ix_some hg
      have h9 : oN (tR T 1 g) ≤ 9 := (ok.2.2.2.2 1 g (by omega) (by omega) lg).1
      cases ht : tog (tP T p) (tR T 1 g) with
      | false => rw [ht, if_neg (by simp)] at h; rw [h]; exact hw.ok ⟨rfl, hl⟩
      | true =>
        rw [ht, if_pos rfl] at h
        have hor := orS_le (eF (tP T p) (hsR (tR T 1 g))) (show oN (tR T 1 g) ≤ 10 by omega)
        rw [h.1, if_neg (show ¬ nI 1 = 0 by decide), h.2.1, i64 (by omega)]
        exact hw.ok ⟨rfl, hl⟩
theorem c_row (hT : rT M 1 T) (ok : tOK T) (hk : Lk M T) (p g k : Int32) : hw (f_X10_row p g k M) (fun v M' => v = sp_row T p g k ∧ Lk M' T) := by
  unfold f_X10_row sp_row
  refine hw.bd ((c_lineUpPictures hT ok hk p g).mono (fun v M' h => ?_))
  obtain ⟨h, hl⟩ := h
  cases hp : ix p (tz T 0) with
  | none => rw [hp] at h; dsimp only at h; rw [h]; exact hw.ok ⟨rfl, hl⟩
  | some p =>
    cases hg : ix g (tz T 1) with
    | none => rw [hp, hg] at h; dsimp only at h; rw [h]; exact hw.ok ⟨rfl, hl⟩
    | some g =>
      rw [hp, hg] at h
      dsimp only at h ⊢
      obtain ⟨-, lg, -⟩ := ix_some hg
      have h9 : oN (tR T 1 g) ≤ 9 := (ok.2.2.2.2 1 g (by omega) (by omega) lg).1
      cases ht : tog (tP T p) (tR T 1 g) with
      | false => rw [ht, if_neg (by simp)] at h; rw [h]; exact hw.ok ⟨rfl, hl⟩
      | true =>
        rw [ht, if_pos rfl] at h
        rw [h.1, if_neg (show ¬ nI 1 = 0 by decide), s_placed h.2 (by omega), q_bd_some]
        exact hw.ok ⟨rfl, hl⟩
theorem c_loom (hT : rT M 1 T) (ok : tOK T) (hk : Lk M T) (p s : Int32) : hw (f_X10_loom p s M) (fun v M' => v = sp_loom T p s ∧ Lk M' T) := by
  unfold f_X10_loom sp_loom
  refine hw.bd ((c_lineUpHues hT ok hk p s).mono (fun v M' h => ?_))
  obtain ⟨h, hl⟩ := h
  cases hp : ix p (tz T 0) with
  | none => rw [hp] at h; dsimp only at h; rw [h]; exact hw.ok ⟨rfl, hl⟩
  | some p =>
    rw [hp] at h
    dsimp only at h ⊢
    obtain ⟨-, lp, -⟩ := ix_some hp
    have h10 := (ok.2.2.2.1 p (by have := ok.2.2.1 0 (by omega); omega)).1
    have hn : hN (tP T p) (memS (tP T p) s) ≤ 10 := Nat.le_trans (cnt_le _ _) h10
    have hor := orS_le (eF (tP T p) (hL (tP T p) (memS (tP T p) s))) hn
    rw [h.1, if_neg (show ¬ nI 1 = 0 by decide), h.2.1, i64 (by omega)]
    exact hw.ok ⟨rfl, hl⟩
theorem c_thread (hT : rT M 1 T) (ok : tOK T) (hk : Lk M T) (p s k : Int32) : hw (f_X10_thread p s k M) (fun v M' => v = sp_thread T p s k ∧ Lk M' T) := by
  unfold f_X10_thread sp_thread
  refine hw.bd ((c_lineUpHues hT ok hk p s).mono (fun v M' h => ?_))
  obtain ⟨h, hl⟩ := h
  cases hp : ix p (tz T 0) with
  | none => rw [hp] at h; dsimp only at h; rw [h]; exact hw.ok ⟨rfl, hl⟩
  | some p =>
    rw [hp] at h
    dsimp only at h ⊢
    obtain ⟨-, lp, -⟩ := ix_some hp
    have h10 := (ok.2.2.2.1 p (by have := ok.2.2.1 0 (by omega); omega)).1
    have hn : hN (tP T p) (memS (tP T p) s) ≤ 10 := Nat.le_trans (cnt_le _ _) h10
    rw [h.1, if_neg (show ¬ nI 1 = 0 by decide), s_placed h.2 hn, q_bd_some]
    exact hw.ok ⟨rfl, hl⟩
end CLS2
