/-! DINNERS: the class seats the guests -/
/-- who wears what, in the first way that a hue begins, up to a guest -/
def wrn (M : PM) (P : Pal) (R : Rol) (f n : Nat) : Prop := ∀ k, k < n → M.1 273 k = nI (dF P R f k)
theorem lci0 {x : Nat} (h : x < 2147483648) : lg_cmp (lN x) 0 = 0 ↔ x = 0 := by rw [lc0 h]
theorem lci0le {x : Nat} (h : x < 2147483648) : lg_cmp (lN x) 0 ≤ 0 ↔ x = 0 := by rw [lc0le h]
section CLS
variable {a b : Nat} {P : Pal} {R : Rol}
theorem s_dress52 {M0 M : PM} (hP : rP M0 a P) (ha : a + 9 ≤ 240) (hO : nOK P R) {f k : Nat} (hk : k + 1 < oN R) (hr : rowW M P R f (k + 1)) (hI : agr 0 240 M0 M ∧ M.2 = M.2) {w : Nat} (hw : w = bd (gw R (k + 1)) (foes P (dF P R f k))) (k10 : Int32 → PM → Option (Unit × PM)) (hs : fst1 (fun h => ((gw R (k + 1)).testBit h && !foe P (dF P R f k) h) && decide (0 < dV P R (bC P f) 1023 (oN R - 1 - (k + 1)) h)) (pH P) = some (dF P R f (k + 1))) (h1 : 1 ≤ pH P) : ∃ M', f_X7_dressAtFirst_52 a b (nI f) k10 FU (nI (k + 1)) (nI w) (nI (pH P - 1)) M = k10 (nI (k + 2)) M' ∧ agr 0 240 M0 M' ∧ M'.2 = M.2 ∧ (∀ j, j ≠ k + 1 → M'.1 273 j = M.1 273 j) ∧ M'.1 273 (k + 1) = nI (dF P R f (k + 1)) := by
  have h10 := hP.1.2.1
  have h8 : oN R ≤ 8 := hO.2.1.1
  have gl := gw_lt hO hk
  have bl := bd_le (gw R (k + 1)) (foes P (dF P R f k))
  obtain ⟨f1, f2, f3⟩ := fst1_some hs
  have ev : ∀ i, i < pH P → zI ((pH P : Int) - 1 - i) = nI (pH P - 1 - i) := fun i hi => by rw [q_nz]; congr 1; omega
  have e0 : nI (pH P - 1) = zI ((pH P : Int) - 1 - (0 : Nat)) := by rw [q_nz]; congr 1; omega
  rw [e0]
  refine hr_for (σ := PM) (fun g i N => f_X7_dressAtFirst_52 a b (nI f) k10 g (nI (k + 1)) (nI w) (zI ((pH P : Int) - 1 - i)) N) (pH P) (fun i N => agr 0 240 M0 N ∧ N.2 = M.2 ∧ (∀ j, j ≠ k + 1 → N.1 273 j = M.1 273 j) ∧ (pH P - i ≤ dF P R f (k + 1) → N.1 273 (k + 1) = nI (dF P R f (k + 1)))) (fun r => ∃ M', r = k10 (nI (k + 2)) M' ∧ agr 0 240 M0 M' ∧ M'.2 = M.2 ∧ (∀ j, j ≠ k + 1 → M'.1 273 j = M.1 273 j) ∧ M'.1 273 (k + 1) = nI (dF P R f (k + 1))) ?_ ?_ FU 0 M (Nat.zero_le _) (FU_ok (by omega)) ⟨hI.1, rfl, fun _ _ => rfl, fun z => by omega⟩
  · rintro g i N hi ⟨i1, i2, i3, i4⟩
    right
    have hh : pH P - 1 - i < pH P := by omega
    have eb : w.testBit (pH P - 1 - i) = ((gw R (k + 1)).testBit (pH P - 1 - i) && !foe P (dF P R f k) (pH P - 1 - i)) := by
      rw [hw, bd_bit]
      unfold foes
      rw [bset_bit, decide_eq_true hh]
      rfl
    have en : nI (pH P - 1 - i) + -(1 : Int32) = zI ((pH P : Int) - 1 - (i + 1 : Nat)) := by
      rw [show (-(1 : Int32)) = zI (-1) by decide, q_nzadd]; congr 1; omega
    have hv := dV_le (P := P) (R := R) (bC P f) (bC_le P f) h10 1023 (oN R - 1 - (k + 1)) (pH P - 1 - i)
    have ht := ten_le (show oN R - 1 - (k + 1) ≤ 7 by omega)
    have er : N.2.1 272 (10 * (k + 1) + (pH P - 1 - i)) = lN (dV P R (bC P f) 1023 (oN R - 1 - (k + 1)) (pH P - 1 - i)) := by rw [i2]; exact hr _ hh
    have keep : (((gw R (k + 1)).testBit (pH P - 1 - i) && !foe P (dF P R f k) (pH P - 1 - i)) && decide (0 < dV P R (bC P f) 1023 (oN R - 1 - (k + 1)) (pH P - 1 - i))) = false → pH P - (i + 1) ≤ dF P R f (k + 1) → N.1 273 (k + 1) = nI (dF P R f (k + 1)) := by
      intro hn hle
      by_cases z : dF P R f (k + 1) = pH P - 1 - i
      · rw [z] at f2; rw [f2] at hn; cases hn
      · exact i4 (by omega)
    show ∃ s', f_X7_dressAtFirst_52 a b (nI f) k10 (g + 1) (nI (k + 1)) (nI w) (zI ((pH P : Int) - 1 - i)) N = f_X7_dressAtFirst_52 a b (nI f) k10 g (nI (k + 1)) (nI w) (zI ((pH P : Int) - 1 - (i + 1 : Nat))) s' ∧ _
    rw [ev i hi, f_X7_dressAtFirst_52.eq_2, if_neg (nI_pos (by omega)), s_holdsBit N (by omega) (by omega), q_bd_some, eb, en, q_lit 10, gO 10, q_mul, q_add, if_pos (q_in (by omega) (by omega)), q_cl (show 10 * (k + 1) + (pH P - 1 - i) < 2147483648 by omega), er, if_pos (q_in (by omega) (by omega)), q_cl (by omega)]
    cases hb : ((gw R (k + 1)).testBit (pH P - 1 - i) && !foe P (dF P R f k) (pH P - 1 - i)) with
    | false =>
      rw [if_pos (show bI false = 0 from rfl)]
      exact ⟨N, rfl, i1, i2, i3, keep (by rw [hb]; rfl)⟩
    | true =>
      rw [if_neg (show ¬ bI true = 0 by decide)]
      by_cases z : dV P R (bC P f) 1023 (oN R - 1 - (k + 1)) (pH P - 1 - i) = 0
      · rw [if_pos ((lci0le (by omega)).mpr z)]
        exact ⟨N, rfl, i1, i2, i3, keep (by rw [hb, decide_eq_false (by omega)]; rfl)⟩
      · rw [if_neg (fun y => z ((lci0le (by omega)).mp y))]
        refine ⟨_, rfl, i1.si (by omega), i2, fun j hj => by rw [si_same, if_neg hj]; exact i3 j hj, fun hle => ?_⟩
        rw [si_same, if_pos rfl]
        have : ¬ pH P - 1 - i < dF P R f (k + 1) := fun y => by
          have := f3 _ y
          rw [hb, decide_eq_true (by omega)] at this
          cases this
        congr 1
        omega
  · rintro g N ⟨i1, i2, i3, i4⟩
    show ∃ M', f_X7_dressAtFirst_52 a b (nI f) k10 (g + 1) (nI (k + 1)) (nI w) (zI ((pH P : Int) - 1 - (pH P : Nat))) N = _ ∧ _
    rw [f_X7_dressAtFirst_52.eq_2, if_pos (show zI ((pH P : Int) - 1 - (pH P : Nat)) < 0 from (q_znlt (b := 0) (by omega) (by omega)).mpr (by omega)), q_lit 1, gO 1, q_add]
    exact ⟨N, rfl, i1, i2, i3, i4 (by omega)⟩
theorem s_dressAtFirst {M0 M : PM} (hP : rP M0 a P) (ha : a + 9 ≤ 240) (hR : rR M0 b R) (hb : b + 4 ≤ 240) (hO : nOK P R) {f : Nat} (hf : f < pH P) (h1 : 1 ≤ oN R) (h0 : 0 < dT P R 1023 f) (hr : ∀ k, 1 ≤ k → k < oN R → rowW M P R f k) (hI : agr 0 240 M0 M) : ∃ M', f_X7_dressAtFirst a b (nI f) M = some ((), M') ∧ agr 0 240 M0 M' ∧ M'.2 = M.2 ∧ wrn M' P R f (oN R) := by
  have h10 := hP.1.2.1
  have h8 : oN R ≤ 8 := hO.2.1.1
  have ok := dF_ok hO hf h0
  unfold f_X7_dressAtFirst
  rw [if_pos hP.1.1, if_pos hR.1, if_pos (show inB 0 8 = true from q_in (i := 0) (by omega) (by omega)), show (0 : Int32).toNatClampNeg = 0 from rfl]
  refine hr_for (σ := PM) (fun g k N => f_X7_dressAtFirst_10 a b (nI f) g (nI k) N) (oN R) (fun k N => 1 ≤ k ∧ agr 0 240 M0 N ∧ N.2 = M.2 ∧ wrn N P R f k) (fun r => ∃ M', r = some ((), M') ∧ agr 0 240 M0 M' ∧ M'.2 = M.2 ∧ wrn M' P R f (oN R)) ?_ ?_ FU 1 _ h1 (FU_ok (by omega)) ⟨Nat.le_refl _, hI.si (by omega), rfl, fun k hk => by rw [si_same, if_pos (by omega), show k = 0 by omega]; rfl⟩
  · rintro g k N hk ⟨k1, i1, i2, i3⟩
    right
    obtain ⟨k, rfl⟩ : ∃ j, k = j + 1 := ⟨k - 1, by omega⟩
    have hPN := rP_ag hP i1 (Nat.zero_le _) (by omega)
    have hRN := rR_ag hR i1 (Nat.zero_le _) (by omega)
    obtain ⟨o1, o2, o3, o4⟩ := ok k (by omega)
    have e1 : N.1 (b + 2) (k + 1) = nI (gw R (k + 1)) := by rw [(hRN.2.2 _ hk).2.1, (hO.2.2 _ hk).2]
    show ∃ s', f_X7_dressAtFirst_10 a b (nI f) (g + 1) (nI (k + 1)) N = f_X7_dressAtFirst_10 a b (nI f) g (nI (k + 1 + 1)) s' ∧ _
    rw [f_X7_dressAtFirst_10.eq_2, hRN.2.1.1, if_neg (fun z => by have := (q_le (by omega) (by omega)).mp z; omega), if_pos (q_in (by omega) (by omega)), q_lit 1, gO 1, q_sub (by omega), if_pos (q_in (by omega) (by omega)), q_cl (by omega), show k + 1 - 1 = k by omega, i3 k (by omega), s_foesOf hPN o1, q_bd_some, q_cl (by omega), e1, q_m1, q_bd, hPN.2.1.1, q_sub (by omega)]
    obtain ⟨M', g1, g2, g3, g4, g5⟩ := s_dress52 (b := b) hP ha hO hk (fun h hh => by rw [i2]; exact hr (k + 1) (by omega) hk h hh) ⟨i1, rfl⟩ rfl (fun x4 M => f_X7_dressAtFirst_10 a b (nI f) g x4 M) (o4 hk) (by omega)
    refine ⟨M', g1, by omega, g2, g3.trans i2, fun j hj => ?_⟩
    by_cases z : j = k + 1
    · rw [z]; exact g5
    · rw [g4 j z]; exact i3 j (by omega)
  · rintro g N ⟨k1, i1, i2, i3⟩
    have hRN := rR_ag hR i1 (Nat.zero_le _) (by omega)
    show ∃ M', f_X7_dressAtFirst_10 a b (nI f) (g + 1) (nI (oN R)) N = _ ∧ _
    rw [f_X7_dressAtFirst_10.eq_2, hRN.2.1.1, if_pos (Int32.le_refl _)]
    exact ⟨N, rfl, i1, i2, i3⟩
theorem dT_le (h10 : pH P ≤ 10) (h8 : oN R ≤ 8) (s f : Nat) : dT P R s f ≤ 10000000 := by
  unfold dT
  split
  · have := dV_le (P := P) (R := R) (bC P f) (bC_le P f) h10 s (oN R - 1) f
    have := ten_le (show oN R - 1 ≤ 7 by omega)
    omega
  · omega
theorem dTs_le (h10 : pH P ≤ 10) (h8 : oN R ≤ 8) (s n : Nat) : sumN (dT P R s) n ≤ n * 10000000 := sumN_le (fun j _ => dT_le h10 h8 s j)
theorem s_seat {M0 : PM} (hP : rP M0 a P) (ha : a + 9 ≤ 240) (hR : rR M0 b R) (hb : b + 4 ≤ 240) (hO : nOK P R) : ∃ M', f_X7_seat a b M0 = some ((), M') ∧ agr 0 240 M0 M' ∧ M'.2.1 271 3 = lN (dW P R 1023) ∧ (1 ≤ oN R → 0 < dW P R 1023 → wrn M' P R (d0 P R) (oN R)) := by
  have h10 := hP.1.2.1
  have h8 : oN R ≤ 8 := hO.2.1.1
  have a0 : agr 0 240 M0 (hr_sl M0 271 3 0) := (agr.rf _ _ _).sl
  unfold f_X7_seat
  rw [if_pos hP.1.1, if_pos hR.1, show (hr_sl M0 271 3 0).1 b 0 = nI (oN R) from hR.2.1.1]
  by_cases z0 : oN R = 0
  · rw [if_pos (show nI (oN R) = 0 by rw [z0]; rfl)]
    refine ⟨_, rfl, a0.sl, ?_, fun z => by omega⟩
    rw [sl_same, if_pos rfl]
    unfold dW
    rw [if_pos z0]
    rfl
  · rw [if_neg (show ¬ nI (oN R) = 0 from fun z => z0 ((q_eq (b := 0) (by omega) (by omega)).mp z))]
    have eW : dW P R 1023 = sumN (dT P R 1023) (pH P) := by unfold dW; rw [if_neg z0]
    refine hr_for (σ := PM) (fun g h N => f_X7_seat_20 a b g (nI h) N) (pH P) (fun h N => agr 0 240 M0 N ∧ N.2.1 271 3 = lN (sumN (dT P R 1023) h) ∧ (0 < sumN (dT P R 1023) h → wrn N P R (d0 P R) (oN R))) (fun r => ∃ M', r = some ((), M') ∧ agr 0 240 M0 M' ∧ M'.2.1 271 3 = lN (dW P R 1023) ∧ (1 ≤ oN R → 0 < dW P R 1023 → wrn M' P R (d0 P R) (oN R))) ?_ ?_ FU 0 _ (Nat.zero_le _) (FU_ok (by omega)) ⟨a0, by rw [sl_same, if_pos rfl]; rfl, fun z => absurd z (Nat.lt_irrefl 0)⟩
    · rintro g h N hh ⟨i1, i2, i3⟩
      right
      have hPN := rP_ag hP i1 (Nat.zero_le _) (by omega)
      have hRN := rR_ag hR i1 (Nat.zero_le _) (by omega)
      have e1 : N.1 (b + 2) 0 = nI (gw R 0) := by rw [(hRN.2.2 0 (by omega)).2.1, (hO.2.2 0 (by omega)).2]
      have gl := gw_lt hO (show 0 < oN R by omega)
      have et : sumN (dT P R 1023) (h + 1) = sumN (dT P R 1023) h + dT P R 1023 h := rfl
      have l1 := dTs_le h10 h8 1023 h
      have l2 := dT_le h10 h8 1023 h
      have l3 : h * 10000000 ≤ 10 * 10000000 := Nat.mul_le_mul_right _ (by omega)
      show ∃ s', f_X7_seat_20 a b (g + 1) (nI h) N = f_X7_seat_20 a b g (nI (h + 1)) s' ∧ _
      rw [f_X7_seat_20.eq_2, hPN.2.1.1, if_neg (fun z => by have := (q_le (by omega) (by omega)).mp z; omega), if_pos (show inB 0 40 = true from q_in (i := 0) (by omega) (by omega)), show (0 : Int32).toNatClampNeg = 0 from rfl, e1, s_holdsBit N (by omega) (by omega), q_bd_some, q_lit 1, gO 1, q_add]
      cases hbit : (gw R 0).testBit h with
      | false =>
        have d00 : dT P R 1023 h = 0 := by
          unfold dT
          rw [gw_and hO (by omega), hbit, if_neg (by simp)]
        rw [if_pos (show bI false = 0 from rfl)]
        refine ⟨N, rfl, i1, by rw [et, d00]; exact i2, fun z => i3 (by rw [et, d00] at z; exact z)⟩
      | true =>
        have dh : dT P R 1023 h = dV P R (bC P h) 1023 (oN R - 1) h := by
          unfold dT
          rw [gw_and hO (by omega), hbit, if_pos rfl]
        obtain ⟨M7, w1, ⟨w2, w3⟩, w4⟩ := s_waysBegunBy hPN hRN hO hh (by omega)
        have e3 : M7.2.1 271 3 = lN (sumN (dT P R 1023) h) := by rw [w3 271 (by omega)]; exact i2
        have i1' : agr 0 240 M0 M7 := fun c h1 h2 => by rw [w2]; exact i1 c h1 h2
        have wk : wrn N P R (d0 P R) (oN R) → wrn M7 P R (d0 P R) (oN R) := fun z k hk => by rw [w2]; exact z k hk
        rw [if_neg (show ¬ bI true = 0 by decide), w1, q_bd_some, e3, ← dh]
        by_cases z1 : sumN (dT P R 1023) h = 0
        · rw [if_pos ((lci0 (by omega)).mpr z1)]
          by_cases z2 : dT P R 1023 h = 0
          · rw [if_pos ((lci0le (by omega)).mpr z2)]
            refine ⟨_, rfl, i1'.sl, ?_, fun z => by rw [et] at z; omega⟩
            rw [sl_same, if_pos rfl, lN_add, ← et]
          · rw [if_neg (fun y => z2 ((lci0le (by omega)).mp y))]
            have eh : d0 P R = h := by
              have : fst1 (fun f => decide (0 < dT P R 1023 f)) (pH P) = some h := by
                refine fst1_hit (n := h) (fst1_nos (n := 0) rfl (Nat.zero_le _) (fun c _ hc => ?_)) (decide_eq_true (by omega)) hh
                refine decide_eq_false (fun y => ?_)
                have := (sum_pos (dT P R 1023) h).mpr ⟨c, hc, y⟩
                omega
              unfold d0
              rw [this]
              rfl
            obtain ⟨M8, x1, x2, x3, x4⟩ := s_dressAtFirst hP ha hR hb hO hh (by omega) (by omega) w4 i1'
            rw [x1, q_bd_some]
            refine ⟨_, rfl, x2.sl, ?_, fun _ => ?_⟩
            · rw [sl_same, if_pos rfl, x3, e3, lN_add, ← et]
            · rw [eh]; exact x4
        · rw [if_neg (fun y => z1 ((lci0 (by omega)).mp y))]
          refine ⟨_, rfl, i1'.sl, ?_, fun _ => wk (i3 (by omega))⟩
          rw [sl_same, if_pos rfl, lN_add, ← et]
    · rintro g N ⟨i1, i2, i3⟩
      have hPN := rP_ag hP i1 (Nat.zero_le _) (by omega)
      show ∃ M', f_X7_seat_20 a b (g + 1) (nI (pH P)) N = _ ∧ _
      rw [f_X7_seat_20.eq_2, hPN.2.1.1, if_pos (Int32.le_refl _), eW]
      exact ⟨N, rfl, i1, i2, fun _ => i3⟩
end CLS
theorem c_ways {M : PM} {T : Tol} (hT : rT M 1 T) (ok : tOK T) (p g : Int32) : hw (f_X10_ways p g M) (fun v _ => v = sp_ways T p g) := by
  have hz := ok.2.2.1
  have z0 := hz 0 (by omega)
  have z4 := hz 4 (by omega)
  unfold f_X10_ways sp_ways
  rw [s_paletteAt hT z0, q_bd_some, show (4 : Int32) = nI 4 from rfl]
  cases hp : ix p (tz T 0) with
  | none =>
    dsimp only
    rw [s_rollAt hT (by omega) (by omega) z4, q_bd_some]
    cases hg : ix g (tz T 4) with
    | none => exact hw.ok rfl
    | some g =>
      dsimp only
      obtain ⟨rfl, lg, -⟩ := ix_some hg
      have hR := hT.rol (s := 4) (by omega) (by omega) lg
      rw [if_pos hR.1, g_nr hR.1, q_bd_some, if_pos (show nI 0 = 0 from rfl)]
      exact hw.ok rfl
  | some p =>
    dsimp only
    obtain ⟨rfl, lp, -⟩ := ix_some hp
    have hP := hT.pal (show p < 2 by omega)
    rw [if_pos hP.1.1, s_rollAt hT (by omega) (by omega) z4, q_bd_some]
    cases hg : ix g (tz T 4) with
    | none =>
      dsimp only
      rw [g_rn hP.1.1, q_bd_some, if_pos (show nI 0 = 0 from rfl)]
      exact hw.ok rfl
    | some g =>
      dsimp only
      obtain ⟨rfl, lg, -⟩ := ix_some hg
      have hR := hT.rol (s := 4) (by omega) (by omega) lg
      have oR := ok.2.2.2.2 4 g (by omega) (by omega) lg
      rw [if_pos hR.1, s_goTogether hP hR (oS_lt (Or.inr (Or.inr rfl)) oR), q_bd_some]
      cases ht : tog (tP T p) (tR T 4 g) with
      | false =>
        rw [if_pos (show bI false = 0 from rfl), if_neg (by simp)]
        exact hw.ok rfl
      | true =>
        obtain ⟨M1, g1, g2, g3, -⟩ := s_seat hP (by omega) hR (by omega) (nOK.of hP.1.2 oR ht)
        rw [if_neg (show ¬ bI true = 0 by decide), if_pos rfl, g1, q_bd_some, g3]
        exact hw.ok rfl
