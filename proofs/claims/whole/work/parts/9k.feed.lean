/-! THE TAPE: feed and end, on both sides -/
/-- a number's j-th byte, the highest first -/
def byE (v : Int32) (j : Nat) : Int32 := (js v (nI (24 - 8 * j))).toInt8.toInt32
theorem fit_by (x : Int32) : fits .byte (.int x.toInt8.toInt32) = true := by
  have e : fits .byte (.int x.toInt8.toInt32) = (decide ((-128 : Int32) ≤ x.toInt8.toInt32) && decide (x.toInt8.toInt32 ≤ (127 : Int32))) := rfl
  have h : x.toInt8.toInt32.toInt = x.toInt8.toInt := Int8.toInt_toInt32 _
  have h1 := Int8.le_toInt x.toInt8
  have h2 := Int8.toInt_lt x.toInt8
  have k1 : (-128 : Int32).toInt = -128 := by decide
  have k2 : (127 : Int32).toInt = 127 := by decide
  rw [e, decide_eq_true (Int32.le_iff_toInt_le.mpr (by rw [h, k1]; omega)), decide_eq_true (Int32.le_iff_toInt_le.mpr (by rw [h, k2]; omega))]
  rfl
theorem beqF {a b : Nat} (h : a ≠ b) : Nat.beq a b = false := by
  cases hq : Nat.beq a b with
  | false => rfl
  | true => exact absurd (Nat.eq_of_beq_eq_true hq) h
theorem ju_js (v : Int32) {s : Nat} (hs : s ≤ 24) : (ju v (nI s)).toInt8.toInt32 = (js v (nI s)).toInt8.toInt32 := by
  have e1 : (ju v (nI s)).toInt8 = (js v (nI s)).toInt8 := by
    apply Int8.toBitVec_inj.1
    apply BitVec.eq_of_getLsbD_eq
    intro i hi
    have a1 : (ju v (nI s)).toInt8.toBitVec = (ju v (nI s)).toBitVec.signExtend 8 := rfl
    have a2 : (js v (nI s)).toInt8.toBitVec = (js v (nI s)).toBitVec.signExtend 8 := rfl
    rw [a1, a2, BitVec.signExtend_eq_setWidth_of_le _ (by omega), BitVec.signExtend_eq_setWidth_of_le _ (by omega), BitVec.getLsbD_setWidth, BitVec.getLsbD_setWidth]
    congr 1
    have b1 : (ju v (nI s)).toBitVec.getLsbD i = v.toBitVec.getLsbD (s + i) := by
      have := pk_ushr v (nI s) s (by
        have : ∀ n, n < 32 → (((nI n).toUInt32 &&& Int32.toUInt32 31).toBitVec % 32).toNat = n := by decide +kernel
        exact this s (by omega))
      unfold ju
      unfold BitVec.getLsbD
      rw [this, Nat.testBit_div_two_pow, Nat.add_comm]
    have b2 : (js v (nI s)).toBitVec.getLsbD i = v.toBitVec.getLsbD (s + i) := by
      have e : (js v (nI s)).toBitVec = v.toBitVec.sshiftRight s := by
        unfold js
        rw [Int32.toBitVec_shiftRight]
        show v.toBitVec.sshiftRight ((nI s &&& 31).toBitVec.smod 32).toNat = _
        rw [q_sl s (by omega)]
      rw [e, BitVec.getLsbD_sshiftRight]
      simp only [show (decide (32 ≤ i)) = false from decide_eq_false (by omega), show s + i < 32 by omega, if_true, Bool.not_false, Bool.true_and]
    rw [b1, b2]
  rw [e1]
/-- the tape with further bytes behind n -/
def tpA (t : Nat → Int32) (n : Nat) (v : Int32) (i : Nat) : Int32 := if n ≤ i ∧ i < n + 4 then byE v (i - n) else t i
def fdT (T : Tol) (a b c d e : Int32) : Tol := (tpA (tpA (tpA (tpA (tpA T.1 (tN T) a) (tN T + 4) b) (tN T + 8) c) (tN T + 12) d) (tN T + 16) e, tN T + 20, T.2.2)
def sp_feed (T : Tol) (a b c d e : Int32) : Int32 × Tol := if tN T + 20 ≤ 600 then (nI (tN T + 20), fdT T a b c d e) else (zI (-1), T)
def enT (T : Tol) (n : Nat) : Tol := (T.1, n, T.2.2)
def sp_end (T : Tol) (n : Int32) : Int32 × Tol := match ix n (tN T + 1) with
  | none => (zI (-1), T)
  | some k => (nI k, enT T k)
theorem tpA_fit {t : Nat → Int32} (h : ∀ i, i < 600 → fits .byte (.int (t i)) = true) (n : Nat) (v : Int32) : ∀ i, i < 600 → fits .byte (.int (tpA t n v i)) = true := by
  intro i hi
  unfold tpA
  split
  · exact fit_by _
  · exact h i hi
theorem fd_ok {T : Tol} (ok : tOK T) (a b c d e : Int32) (h : tN T + 20 ≤ 600) : tOK (fdT T a b c d e) := by
  obtain ⟨⟨o1, o2, o3, o4⟩, o5, o6⟩ := ok
  exact ⟨⟨h, o2, o3, o4⟩, tpA_fit (tpA_fit (tpA_fit (tpA_fit (tpA_fit o5 _ _) _ _) _ _) _ _) _ _, o6⟩
theorem en_ok {T : Tol} (ok : tOK T) {n : Nat} (h : n ≤ 600) : tOK (enT T n) := ⟨⟨h, ok.1.2⟩, ok.2⟩
/-- the class puts four bytes -/
def rTp (M : PM) (t : Nat → Int32) (n : Nat) : Prop := M.1 1 1 = nI n ∧ ∀ i, i < 600 → M.1 2 i = t i
theorem s_put {M : PM} {t : Nat → Int32} {n : Nat} (h : rTp M t n) (hn : n + 4 ≤ 600) (v : Int32) : ∃ M', f_X8_put v M = some ((), M') ∧ rTp M' (tpA t n v) (n + 4) ∧ hr_fr [(1, 2), (2, 0)] M M' := by
  unfold f_X8_put
  rw [show (24 : Int32) = zI (24 - 8 * (0 : Nat)) from rfl]
  refine hr_for (σ := PM) (fun f j N => f_X8_put_3 v f (zI (24 - 8 * (j : Nat))) N) 4 (fun j N => (N.1 1 1 = nI (n + j) ∧ ∀ i, i < 600 → N.1 2 i = if n ≤ i ∧ i < n + j then byE v (i - n) else t i) ∧ hr_fr [(1, 2), (2, 0)] M N) (fun r => ∃ M', r = some ((), M') ∧ rTp M' (tpA t n v) (n + 4) ∧ hr_fr [(1, 2), (2, 0)] M M') ?_ ?_ FU 0 M (by omega) (FU_ok (by omega)) ⟨⟨h.1, fun i hi => by rw [if_neg (by omega)]; exact h.2 i hi⟩, hr_fr.rf _ _⟩
  · rintro f j N hj ⟨⟨h1, h2⟩, hf⟩
    right
    have ej : zI (24 - 8 * (j : Nat)) = nI (24 - 8 * j) := by rw [q_nz]; congr 1; omega
    have en : nI (24 - 8 * j) + -(8 : Int32) = zI (24 - 8 * ((j + 1 : Nat) : Int)) := by
      rw [show (-(8 : Int32)) = zI (-8) by decide, q_nzadd]; congr 1; omega
    have e1 : ∀ w, (hr_si N 2 (n + j) w).1 1 1 = nI (n + j) := fun w => by rw [si_ne _ _ _ (by omega)]; exact h1
    show ∃ s', f_X8_put_3 v (f + 1) (zI (24 - 8 * (j : Nat))) N = f_X8_put_3 v f (zI (24 - 8 * ((j + 1 : Nat) : Int))) s' ∧ _
    rw [ej, f_X8_put_3.eq_2, if_neg (nI_pos (by omega)), h1, q_lit 600, gO 600, if_neg (fun z => by have := (q_le (by omega) (by omega)).mp z; omega), if_pos (q_in (by omega) (by omega)), q_cl (by omega), e1, q_lit 1, gO 1, q_add, en, pk_vb, ju_js v (by omega)]
    refine ⟨_, rfl, ⟨by rw [si_same, if_pos rfl]; rfl, fun i hi => ?_⟩, hr_fr.si rfl (hr_fr.si rfl hf)⟩
    rw [si_ne _ _ _ (by omega), si_same]
    by_cases z : i = n + j
    · rw [if_pos z, if_pos (by omega), z, Nat.add_sub_cancel_left]; rfl
    · rw [if_neg z, h2 i hi]
      by_cases z2 : n ≤ i ∧ i < n + j
      · rw [if_pos z2, if_pos (by omega)]
      · rw [if_neg z2, if_neg (by omega)]
  · rintro f N ⟨⟨h1, h2⟩, hf⟩
    show ∃ M', f_X8_put_3 v (f + 1) (zI (24 - 8 * ((4 : Nat) : Int))) N = _ ∧ _
    rw [f_X8_put_3.eq_2, if_pos (show zI (24 - 8 * ((4 : Nat) : Int)) < 0 by decide)]
    exact ⟨N, rfl, ⟨h1, h2⟩, hf⟩
/-- a told whose tape alone has changed -/
theorem rT.tape {M M' : PM} {T : Tol} (h : rT M 1 T) {t : Nat → Int32} {n : Nat} (hf : hr_fr [(1, 2), (2, 0)] M M') (ht : rTp M' t n) : rT M' 1 (t, n, T.2.2) := by
  obtain ⟨⟨h1, h2, h3⟩, h4, h5, h6, h7⟩ := h
  have g : ∀ c, 3 ≤ c → M'.1 c = M.1 c := fun c hc => hf.row c (fun k => by
    show (Nat.beq 1 c && _ || (Nat.beq 2 c && _ || false)) = false
    rw [show Nat.beq 1 c = false from beqF (by omega), show Nat.beq 2 c = false from beqF (by omega)]
    rfl)
  refine ⟨⟨ht.1, (hf.at 1 2 rfl).trans h2, (hf.at 1 3 rfl).trans h3⟩, ht.2, fun s hs => ?_, fun k hk => ?_, fun s k h1 h2 h3 => ?_⟩
  · rw [g _ (by omega)]; exact h5 s hs
  · exact (h6 k hk).agr (fun c h1 h2 => g c (by omega))
  · exact rR_ag (h7 s k h1 h2 h3) (lo := 3) (hi := 1 + 23 + 4 * (2 * (s - 1) + k) + 4) (fun c h1 _ => g c h1) (by omega) (by omega)
theorem c_feed {M : PM} {T : Tol} (hT : rT M 1 T) (ok : tOK T) (a b c d e : Int32) : hw (f_X10_feed a b c d e M) (fun v M' => v = (sp_feed T a b c d e).1 ∧ rT M' 1 (sp_feed T a b c d e).2 ∧ hr_fr [(1, 2), (2, 0)] M M') := by
  have hn := ok.1.1
  unfold f_X10_feed sp_feed
  rw [show M.1 1 1 = nI (tN T) from hT.1.1, q_lit 20, gO 20, q_add, q_lit 600, gO 600]
  by_cases z : tN T + 20 ≤ 600
  · rw [if_pos ((q_le (by omega) (by omega)).mpr z), if_pos z]
    obtain ⟨M1, a1, a2, a3⟩ := s_put (M := M) (t := T.1) (n := tN T) ⟨hT.1.1, hT.2.1⟩ (by omega) a
    obtain ⟨M2, b1, b2, b3⟩ := s_put a2 (by omega) b
    obtain ⟨M3, c1, c2, c3⟩ := s_put b2 (by omega) c
    obtain ⟨M4, d1, d2, d3⟩ := s_put c2 (by omega) d
    obtain ⟨M5, e1, e2, e3⟩ := s_put d2 (by omega) e
    rw [a1, q_bd_some, b1, q_bd_some, c1, q_bd_some, d1, q_bd_some, e1, q_bd_some]
    have hf := (((a3.tr b3).tr c3).tr d3).tr e3
    exact hw.ok ⟨e2.1, hT.tape hf e2, hf⟩
  · rw [if_neg (fun y => z ((q_le (by omega) (by omega)).mp y)), if_neg z]
    exact hw.ok ⟨(by decide : (-1 : Int32) = zI (-1)), hT, hr_fr.rf _ _⟩
theorem c_end {M : PM} {T : Tol} (hT : rT M 1 T) (ok : tOK T) (n : Int32) : hw (f_X10_end n M) (fun v M' => v = (sp_end T n).1 ∧ rT M' 1 (sp_end T n).2 ∧ hr_fr [(1, 2), (2, 0)] M M') := by
  have hn := ok.1.1
  unfold f_X10_end sp_end
  rw [show M.1 1 1 = nI (tN T) from hT.1.1, show (-1 : Int32) = zI (-1) by decide]
  cases hx : ix n (tN T + 1) with
  | none =>
    rcases ix_none hx (by omega) with h0 | ⟨j, h1, rfl, h2⟩
    · rw [if_pos h0]; exact hw.ok ⟨rfl, hT, hr_fr.rf _ _⟩
    · rw [if_neg (nI_pos h1), if_neg (fun z => by have := (q_le (by omega) (by omega)).mp z; omega)]
      exact hw.ok ⟨rfl, hT, hr_fr.rf _ _⟩
  | some k =>
    obtain ⟨rfl, lk, -⟩ := ix_some hx
    rw [if_neg (nI_pos (by omega)), if_pos ((q_le (by omega) (by omega)).mpr (by omega))]
    have hf : hr_fr [(1, 2), (2, 0)] M (hr_si M 1 1 (nI k)) := hr_fr.si rfl (hr_fr.rf _ _)
    refine hw.ok ⟨rfl, hT.tape hf ⟨by rw [si_same, if_pos rfl], fun i hi => ?_⟩, hf⟩
    rw [si_ne _ _ _ (by omega)]; exact hT.2.1 i hi
/-- the model puts four bytes -/
def mTp (M : PM) (t : Nat → Int32) (n : Nat) : Prop := M.1 277 0 = nI n ∧ ∀ i, i < 600 → M.1 276 i = t i
theorem s_four {M : PM} {t : Nat → Int32} {n : Nat} (h : mTp M t n) (hn : n + 4 ≤ 600) (v : Int32) : ∃ M', f_X11_four v M = some ((), M') ∧ mTp M' (tpA t n v) (n + 4) ∧ hr_fr [(277, 1), (276, 0)] M M' ∧ ∀ i, 600 ≤ i → M'.1 276 i = M.1 276 i := by
  unfold f_X11_four
  rw [show (24 : Int32) = zI (24 - 8 * (0 : Nat)) from rfl]
  refine hr_for (σ := PM) (fun f j N => f_X11_four_3 v f (zI (24 - 8 * (j : Nat))) N) 4 (fun j N => (N.1 277 0 = nI (n + j) ∧ ∀ i, i < 600 → N.1 276 i = if n ≤ i ∧ i < n + j then byE v (i - n) else t i) ∧ hr_fr [(277, 1), (276, 0)] M N ∧ ∀ i, 600 ≤ i → N.1 276 i = M.1 276 i) (fun r => ∃ M', r = some ((), M') ∧ mTp M' (tpA t n v) (n + 4) ∧ hr_fr [(277, 1), (276, 0)] M M' ∧ ∀ i, 600 ≤ i → M'.1 276 i = M.1 276 i) ?_ ?_ FU 0 M (by omega) (FU_ok (by omega)) ⟨⟨h.1, fun i hi => by rw [if_neg (by omega)]; exact h.2 i hi⟩, hr_fr.rf _ _, fun _ _ => rfl⟩
  · rintro f j N hj ⟨⟨h1, h2⟩, hf, hg⟩
    right
    have ej : zI (24 - 8 * (j : Nat)) = nI (24 - 8 * j) := by rw [q_nz]; congr 1; omega
    have en : nI (24 - 8 * j) + -(8 : Int32) = zI (24 - 8 * ((j + 1 : Nat) : Int)) := by
      rw [show (-(8 : Int32)) = zI (-8) by decide, q_nzadd]; congr 1; omega
    have e1 : ∀ w, (hr_si N 276 (n + j) w).1 277 0 = nI (n + j) := fun w => by rw [si_ne _ _ _ (by omega)]; exact h1
    have in4 : inB 0 4 = true := q_in (i := 0) (by omega) (by omega)
    show ∃ s', f_X11_four_3 v (f + 1) (zI (24 - 8 * (j : Nat))) N = f_X11_four_3 v f (zI (24 - 8 * ((j + 1 : Nat) : Int))) s' ∧ _
    rw [ej, f_X11_four_3.eq_2, if_neg (nI_pos (by omega)), if_pos in4, show (0 : Int32).toNatClampNeg = 0 from rfl, h1, if_pos (q_in (by omega) (by omega)), if_pos in4, if_pos in4, q_cl (by omega), e1, q_lit 1, gO 1, q_add, en, pk_vb]
    refine ⟨_, rfl, ⟨by rw [si_same, if_pos rfl]; rfl, fun i hi => ?_⟩, hr_fr.si rfl (hr_fr.si rfl hf), fun i hi => ?_⟩
    · rw [si_ne _ _ _ (by omega), si_same]
      by_cases z : i = n + j
      · rw [if_pos z, if_pos (by omega), z, Nat.add_sub_cancel_left]; rfl
      · rw [if_neg z, h2 i hi]
        by_cases z2 : n ≤ i ∧ i < n + j
        · rw [if_pos z2, if_pos (by omega)]
        · rw [if_neg z2, if_neg (by omega)]
    · rw [si_ne _ _ _ (by omega), si_same, if_neg (by omega)]; exact hg i hi
  · rintro f N ⟨⟨h1, h2⟩, hf, hg⟩
    show ∃ M', f_X11_four_3 v (f + 1) (zI (24 - 8 * ((4 : Nat) : Int))) N = _ ∧ _
    rw [f_X11_four_3.eq_2, if_pos (show zI (24 - 8 * ((4 : Nat) : Int)) < 0 by decide)]
    exact ⟨N, rfl, ⟨h1, h2⟩, hf, hg⟩
/-- what another image has stays -/
theorem mT.tape {M M' : PM} {T : Tol} (h : mT M 0 T) {t : Nat → Int32} {n : Nat} (hf : ∀ c, 278 ≤ c → c ≤ 285 → M'.1 c = M.1 c) (ht : mTp M' t n) : mT M' 0 (t, n, T.2.2) := by
  obtain ⟨⟨h1, h2, h3⟩, h4, h5⟩ := h
  unfold mT
  rw [hf 278 (by omega) (by omega), hf 279 (by omega) (by omega), hf 280 (by omega) (by omega), hf 281 (by omega) (by omega), hf 282 (by omega) (by omega), hf 283 (by omega) (by omega), hf 284 (by omega) (by omega), hf 285 (by omega) (by omega)]
  exact ⟨⟨ht.1, h2, h3⟩, fun i hi => by rw [Nat.mul_zero, Nat.zero_add]; exact ht.2 i hi, h5⟩
/-- another image's told is as it was -/
theorem mT.oth {M M' : PM} {m : Nat} {T : Tol} (h : mT M m T) (hm : 1 ≤ m) (hf : ∀ c, 278 ≤ c → c ≤ 285 → M'.1 c = M.1 c) (h7 : ∀ i, 1 ≤ i → M'.1 277 i = M.1 277 i) (h6 : ∀ i, 600 ≤ i → M'.1 276 i = M.1 276 i) : mT M' m T := by
  obtain ⟨⟨h1, h2, h3⟩, h4, h5⟩ := h
  unfold mT
  rw [hf 278 (by omega) (by omega), hf 279 (by omega) (by omega), hf 280 (by omega) (by omega), hf 281 (by omega) (by omega), hf 282 (by omega) (by omega), hf 283 (by omega) (by omega), hf 284 (by omega) (by omega), hf 285 (by omega) (by omega)]
  exact ⟨⟨(h7 m hm).trans h1, h2, h3⟩, fun i hi => by rw [h6 _ (by omega)]; exact h4 i hi, h5⟩
/-- what a call of the model leaves of the other images -/
def keepM (M M' : PM) : Prop := ∀ m T, 1 ≤ m → mT M m T → mT M' m T
theorem fr4_c {M M' : PM} (hf : hr_fr [(275, 1), (277, 1), (276, 0)] M M') : ∀ c, 278 ≤ c → c ≤ 285 → M'.1 c = M.1 c := fun c h1 h2 => hf.row c (fun k => by
  show (Nat.beq 275 c && _ || (Nat.beq 277 c && _ || (Nat.beq 276 c && _ || false))) = false
  rw [show Nat.beq 275 c = false from beqF (by omega), show Nat.beq 277 c = false from beqF (by omega), show Nat.beq 276 c = false from beqF (by omega)]
  rfl)
theorem fr4_7 {M M' : PM} (hf : hr_fr [(275, 1), (277, 1), (276, 0)] M M') : ∀ i, 1 ≤ i → M'.1 277 i = M.1 277 i := fun i hi => hf.at 277 i (by
  show (Nat.beq 275 277 && _ || (Nat.beq 277 277 && (Nat.beq 1 0 || Nat.beq 1 (i + 1)) || (Nat.beq 276 277 && _ || false))) = false
  rw [show Nat.beq 1 (i + 1) = false from beqF (by omega)]
  rfl)
theorem m_feed {M : PM} {T : Tol} (hT : mT M 0 T) (ok : tOK T) (a b c d e : Int32) : hw (f_X11_feed a b c d e M) (fun v M' => v = (sp_feed T a b c d e).1 ∧ mT M' 0 (sp_feed T a b c d e).2 ∧ keepM M M') := by
  have hn := ok.1.1
  have in4 : inB 0 4 = true := q_in (i := 0) (by omega) (by omega)
  have e0 : (hr_si M 275 0 0).1 277 0 = nI (tN T) := hT.1.1
  unfold f_X11_feed sp_feed
  rw [if_pos in4, show (0 : Int32).toNatClampNeg = 0 from rfl, e0, q_lit 20, gO 20, q_add, q_lit 600, gO 600]
  by_cases z : tN T + 20 ≤ 600
  · rw [if_pos ((q_le (by omega) (by omega)).mpr z), if_pos z]
    obtain ⟨M1, a1, a2, a3, a4⟩ := s_four (M := hr_si M 275 0 0) (t := T.1) (n := tN T) ⟨hT.1.1, fun i hi => by
      have := hT.2.1 i hi
      rw [Nat.mul_zero, Nat.zero_add] at this
      exact this⟩ (by omega) a
    obtain ⟨M2, b1, b2, b3, b4⟩ := s_four a2 (by omega) b
    obtain ⟨M3, c1, c2, c3, c4⟩ := s_four b2 (by omega) c
    obtain ⟨M4, d1, d2, d3, d4⟩ := s_four c2 (by omega) d
    obtain ⟨M5, e1, e2, e3, e4⟩ := s_four d2 (by omega) e
    rw [a1, q_bd_some, b1, q_bd_some, c1, q_bd_some, d1, q_bd_some, e1, q_bd_some, if_pos in4]
    have hf : hr_fr [(275, 1), (277, 1), (276, 0)] M M5 := (hr_fr.si rfl (hr_fr.rf _ M)).tr (hr_fr.mono rfl ((((a3.tr b3).tr c3).tr d3).tr e3))
    refine hw.ok ⟨e2.1, hT.tape (fr4_c hf) e2, fun m T' hm hT' => hT'.oth hm (fr4_c hf) (fr4_7 hf) (fun i hi => ?_)⟩
    rw [e4 i hi, d4 i hi, c4 i hi, b4 i hi, a4 i hi]
    rfl
  · rw [if_neg (fun y => z ((q_le (by omega) (by omega)).mp y)), if_neg z]
    exact hw.ok ⟨(by decide : (-1 : Int32) = zI (-1)), hT.si, fun m T' hm hT' => hT'.si⟩
theorem m_end {M : PM} {T : Tol} (hT : mT M 0 T) (ok : tOK T) (n : Int32) : hw (f_X11_end n M) (fun v M' => v = (sp_end T n).1 ∧ mT M' 0 (sp_end T n).2 ∧ keepM M M') := by
  have hn := ok.1.1
  have in4 : inB 0 4 = true := q_in (i := 0) (by omega) (by omega)
  have e0 : (hr_si M 275 0 0).1 277 0 = nI (tN T) := hT.1.1
  unfold f_X11_end sp_end
  rw [if_pos in4, show (0 : Int32).toNatClampNeg = 0 from rfl, e0, show f_X11_in n 0 (nI (tN T)) (hr_si M 275 0 0) = f_X11_in n (nI 0) (nI (tN T)) (hr_si M 275 0 0) from rfl, s_inc _ n (by omega), q_bd_some, show (-1 : Int32) = zI (-1) by decide]
  cases hx : ix n (tN T + 1) with
  | none =>
    rw [if_pos (show bI (none : Option Nat).isSome = 0 from rfl)]
    exact hw.ok ⟨rfl, hT.si, fun m T' hm hT' => hT'.si⟩
  | some k =>
    obtain ⟨rfl, lk, -⟩ := ix_some hx
    have hf : hr_fr [(275, 1), (277, 1), (276, 0)] M (hr_si (hr_si M 275 0 0) 277 0 (nI k)) := hr_fr.si rfl (hr_fr.si rfl (hr_fr.rf _ _))
    rw [if_neg (show ¬ bI (some k).isSome = 0 from (by decide : ¬ nI 1 = 0)), if_pos in4]
    refine hw.ok ⟨rfl, hT.tape (fr4_c hf) ⟨by rw [si_same, if_pos rfl], fun i hi => ?_⟩, fun m T' hm hT' => hT'.oth hm (fr4_c hf) (fr4_7 hf) (fun i hi => rfl)⟩
    have := hT.2.1 i hi
    rw [Nat.mul_zero, Nat.zero_add] at this
    exact this
