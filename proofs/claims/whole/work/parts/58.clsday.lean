/-! THE CLASS'S DAY -/
def setH (W : Wk) (k : Nat) (v : Int32) : Wk := (W.1, fun j => if j = k then v else wH W j, W.2.2)
def setS (W : Wk) (k : Nat) (v : Int32) : Wk := (W.1, W.2.1, W.2.2.1, fun j => if j = k then v else wS W j, W.2.2.2.2)
def setW (W : Wk) (k : Nat) (v : Int32) : Wk := (W.1, W.2.1, W.2.2.1, W.2.2.2.1, fun j => if j = k then v else wW W j, W.2.2.2.2.2)
def actS (P : Pal) (R D : Rol) (k : Nat) (W : Wk) : Option Wk :=
  if oC D k = 0 then (if (oA D k).toNat < oN R ∧ wH W (oA D k).toNat = zI (-1) then some (setH W (oA D k).toNat (zI (oB D k))) else none)
  else if oC D k = 1 then (if (oA D k).toNat < oN R ∧ ¬ wH W (oA D k).toNat = zI (-1) then some (setH W (oA D k).toNat (zI (-1))) else none)
  else if oC D k = 2 then (if (oB D k).toNat < pH P then some (setW W (oA D k).toNat (zI (oB D k))) else none)
  else if oC D k = 3 then (if wS W (oA D k).toNat = zI (-1) then some (setS W (oA D k).toNat (zI (oB D k))) else none)
  else if oC D k = 4 then (if ¬ wS W (oA D k).toNat = zI (-1) then some (setS W (oA D k).toNat (zI (-1))) else none)
  else some (hourW P R W)
theorem actS_ok {P : Pal} {R D : Rol} {k : Nat} {W W' : Wk} (hD : deedOK (oC D k) (oA D k) (oB D k)) (hW : wOK P W) (h : actS P R D k W = some W') : wOK P W' := by
  obtain ⟨d0, d1, d2, d3, d4, d5, d6, d7⟩ := hD
  unfold actS at h
  split at h
  · next c =>
    split at h
    · cases h
      refine ⟨fun j hj => ?_, hW.2⟩
      show (if j = _ then _ else wH W j) = _ ∨ ∃ r, r < 4 ∧ (if j = _ then _ else wH W j) = _
      by_cases e : j = (oA D k).toNat
      · right
        have := d3 c
        rw [if_pos e]
        exact ⟨(oB D k).toNat, by omega, by rw [q_nz, Int.toNat_of_nonneg (by omega)]⟩
      · rw [if_neg e]; exact hW.1 j hj
    · cases h
  · split at h
    · next c =>
      split at h
      · cases h
        refine ⟨fun j hj => ?_, hW.2⟩
        show (if j = _ then _ else wH W j) = _ ∨ ∃ r, r < 4 ∧ (if j = _ then _ else wH W j) = _
        by_cases e : j = (oA D k).toNat
        · left; rw [if_pos e]
        · rw [if_neg e]; exact hW.1 j hj
      · cases h
    · split at h
      · next c =>
        split at h
        · next c2 =>
          cases h
          refine ⟨hW.1, fun j hj => ?_⟩
          show (if j = _ then _ else wW W j) = _ ∨ ∃ r, r < _ ∧ (if j = _ then _ else wW W j) = _
          by_cases e : j = (oA D k).toNat
          · right
            have := d5 c
            rw [if_pos e]
            exact ⟨(oB D k).toNat, c2, by rw [q_nz, Int.toNat_of_nonneg (by omega)]⟩
          · rw [if_neg e]; exact hW.2 j hj
        · cases h
      · split at h
        · split at h
          · cases h; exact hW
          · cases h
        · split at h
          · split at h
            · cases h; exact hW
            · cases h
          · cases h
            exact hW
theorem i_k : (hr_K 250 = 12 ∧ 250 < hr_n) ∧ hr_N 250 = 9 ∧ (hr_K 252 = 12 ∧ 252 < hr_n) ∧ hr_N 252 = 6 := by decide +kernel
theorem s_move {M : PM} {a k n : Nat} (ha : hr_K a = 12 ∧ a < hr_n) (hn : hr_N a = n) (hk : k < n) (h9 : n ≤ 9) (v : Int32) : f_X9_move a (nI k) (nI 1) v M = (if M.1 a k = zI (-1) then some (nI 1, hr_si M a k v) else some (nI 0, M)) ∧ f_X9_move a (nI k) (nI 0) v M = (if M.1 a k = zI (-1) then some (nI 0, M) else some (nI 1, hr_si M a k v)) := by
  unfold f_X9_move f_X9_move_12
  rw [if_pos ha, if_pos ha, hn]
  constructor
  · simp (disch := omega) only [q_lit, q_m1, q_m2, q_m1000, q_add, q_mul, q_cl, q_le, q_lt, q_eq, q_in, q_bd_some, eq_self, if_true, if_false, q_b0, q_b1, q_b01, q_bt, q_bf, q_ft, q_tf, Nat.mul_zero, Nat.add_zero, Nat.zero_add, or_true, true_or, not_true_eq_false, not_false_eq_true, reduceCtorEq]
  · simp (disch := omega) only [q_lit, q_m1, q_m2, q_m1000, q_add, q_mul, q_cl, q_le, q_lt, q_eq, q_in, q_bd_some, eq_self, if_true, if_false, q_b0, q_b1, q_b01, q_bt, q_bf, q_ft, q_tf, Nat.mul_zero, Nat.add_zero, Nat.zero_add, or_true, true_or, not_true_eq_false, not_false_eq_true, reduceCtorEq]
section CLS
variable {a b d : Nat} {P : Pal} {R D : Rol}
theorem s_hour7 {M0 : PM} (hP : rP M0 a P) (ha : a + 9 ≤ 240) (hR : rR M0 b R) (hb : b + 4 ≤ 240) (hg : gOK P R) {W : Wk} (hW : wOK P W) (hC : cW M0 R W) : ∃ M', f_X9_passHour a b M0 = some ((), M') ∧ cW M' R (hourW P R W) ∧ hr_fr hW_X9_passHour M0 M' := by
  have h10 : pH P ≤ 10 := hg.1.1.1
  have hn : oN R ≤ 9 := hg.1.2.1
  have hl : oL R ≤ 99 := hg.1.2.2
  unfold f_X9_passHour
  rw [if_pos hP.1.1, if_pos hR.1]
  refine hr_for (σ := PM) (fun f r M => f_X9_passHour_7 a b f (nI r) M) 4 (fun r M => cW M R (fol (roomW P R) W r) ∧ (∃ F, F < 1024 ∧ M.1 249 12 = nI F ∧ ∀ k, k < 9 → F.testBit k = exb (fun r => clsS P R W r k) r) ∧ hr_fr hW_X9_passHour M0 M) (fun x => ∃ M', x = some ((), M') ∧ cW M' R (hourW P R W) ∧ hr_fr hW_X9_passHour M0 M') ?_ ?_ FU 0 (hr_si M0 249 12 0) (Nat.zero_le _) (FU_ok (by omega)) ⟨?_, ⟨0, by omega, by simp [q_si1]; rfl, fun k _ => Nat.zero_testBit k⟩, hr_fr.si rfl (hr_fr.rf _ _)⟩
  · rintro f r M hr ⟨hC, ⟨F, hF, h12, hbit⟩, hf⟩
    right
    have hs := rooms_same P R W r
    have hPM := rP_ag hP (hf.agr (n := 249) rfl) (Nat.zero_le _) (by omega)
    have hRM := rR_ag hR (hf.agr (n := 249) rfl) (Nat.zero_le _) (by omega)
    obtain ⟨M1, F1, r1, r2, r3, r4, r5⟩ := s_rash hPM ha hRM hb hg (wOK_same ⟨hs.1, hs.2.2.2.1⟩ hW) hC r
    have hC1 := hC.fr r5 rfl
    have hf1 := hf.tr (hr_fr.mono rfl r5)
    have e2 : M1.1 b 1 = nI (oL R) := (rR_ag hRM (r5.agr (n := 249) rfl) (Nat.zero_le _) (by omega)).2.1.2.1
    have hrs := rashS_le hg.1.1 R (fol (roomW P R) W r) r
    have key : ∀ M2 fh fr', cW M2 R (((wF (fol (roomW P R) W r)).1, (wF (fol (roomW P R) W r)).2.1 + nI (rashS P R (fol (roomW P R) W r) r), fh, fr'), (fol (roomW P R) W r).2) → M2.1 249 12 = M1.1 249 12 → hr_fr hW_X9_passHour M0 M2 → (fh = if ¬ nI (rashS P R (fol (roomW P R) W r) r) ≤ nI (oL R) ∧ (wF (fol (roomW P R) W r)).2.2.1 = zI (-1) then (wF (fol (roomW P R) W r)).1 else (wF (fol (roomW P R) W r)).2.2.1) → (fr' = if ¬ nI (rashS P R (fol (roomW P R) W r) r) ≤ nI (oL R) ∧ (wF (fol (roomW P R) W r)).2.2.1 = zI (-1) then nI r else (wF (fol (roomW P R) W r)).2.2.2) →
        ∃ s' : PM, f_X9_passHour_65 a b (fun x3 M => f_X9_passHour_7 a b f x3 M) FU (nI r) (nI (rashS P R (fol (roomW P R) W r) r)) (nI 0) M2 = f_X9_passHour_7 a b f (nI (r + 1)) s' ∧ cW s' R (fol (roomW P R) W (r + 1)) ∧ (∃ F, F < 1024 ∧ s'.1 249 12 = nI F ∧ ∀ k, k < 9 → F.testBit k = exb (fun r => clsS P R W r k) (r + 1)) ∧ hr_fr hW_X9_passHour M0 s' := by
      intro M2 fh fr' c2 c12 cf c3 c4
      obtain ⟨M3, d1, d2, d3, d4⟩ := s_hour65 (a := a) (b := b) (fun x3 M => f_X9_passHour_7 a b f x3 M) r (nI (rashS P R (fol (roomW P R) W r) r)) cf c2
      refine ⟨M3, d1, ?_, ⟨F ||| F1, or_lt hF r3, ?_, ?_⟩, d4⟩
      · rw [fol_s]
        refine ⟨?_, d2.2.1, d2.2.2.1, fun p hp => ⟨(d2.2.2.2 p hp).1, (d2.2.2.2 p hp).2.1, ?_⟩⟩
        · rw [d2.1]
          show (_, _, fh, fr') = _
          rw [c3, c4]
          rfl
        · rw [(d2.2.2.2 p hp).2.2]
          show (if p < 6 ∧ wS (fol (roomW P R) W r) p = nI r then wN (fol (roomW P R) W r) p + _ else wN (fol (roomW P R) W r) p) = (if wS (fol (roomW P R) W r) p = nI r then wN (fol (roomW P R) W r) p + _ else wN (fol (roomW P R) W r) p)
          by_cases hq : wS (fol (roomW P R) W r) p = nI r
          · rw [if_pos ⟨hp, hq⟩, if_pos hq]
          · rw [if_neg (fun z => hq z.2), if_neg hq]
      · rw [d3, c12, r2, h12, q_or]
      · intro k hk
        rw [Nat.testBit_or, hbit k hk, r4 k hk, cls_same ⟨hs.1, hs.2.1, hs.2.2.1, hs.2.2.2.1⟩]
        rfl
    show ∃ s', f_X9_passHour_7 a b (f + 1) (nI r) M = f_X9_passHour_7 a b f (nI (r + 1)) s' ∧ _
    rw [f_X9_passHour_7.eq_2]
    have cF := hC1.1
    have e1 : M1.1 249 1 = (wF (fol (roomW P R) W r)).2.1 := by rw [← cF]
    have e20 : M1.1 249 0 = (wF (fol (roomW P R) W r)).1 := by rw [← cF]
    have e22 : M1.1 249 2 = (wF (fol (roomW P R) W r)).2.2.1 := by rw [← cF]
    have e23 : M1.1 249 3 = (wF (fol (roomW P R) W r)).2.2.2 := by rw [← cF]
    have g1 : ∀ v, (hr_si M1 249 1 v).1 b 1 = nI (oL R) := fun v => by rw [q_si1, if_neg (by omega)]; exact e2
    have g2 : ∀ v, (hr_si M1 249 1 v).1 249 2 = (wF (fol (roomW P R) W r)).2.2.1 := fun v => by rw [si_same, if_neg (by omega)]; exact e22
    have g0 : ∀ v, (hr_si M1 249 1 v).1 249 0 = (wF (fol (roomW P R) W r)).1 := fun v => by rw [si_same, if_neg (by omega)]; exact e20
    simp (disch := omega) only [q_lit, q_m1, q_m2, q_m1000, q_add, q_mul, q_cl, q_le, q_lt, q_eq, q_in, q_bd_some, eq_self, if_true, if_false, q_b0, q_b1, q_b01, q_bt, q_bf, q_ft, q_tf, Nat.mul_zero, Nat.add_zero, Nat.zero_add, or_true, true_or, not_true_eq_false, not_false_eq_true, reduceCtorEq, show ¬ 4 ≤ r by omega, r1, g1, g2, g0, e1]
    have cN : cW (hr_si M1 249 1 ((wF (fol (roomW P R) W r)).2.1 + nI (rashS P R (fol (roomW P R) W r) r))) R (((wF (fol (roomW P R) W r)).1, (wF (fol (roomW P R) W r)).2.1 + nI (rashS P R (fol (roomW P R) W r) r), (wF (fol (roomW P R) W r)).2.2.1, (wF (fol (roomW P R) W r)).2.2.2), (fol (roomW P R) W r).2) := by
      refine ⟨?_, ?_, ?_, ?_⟩
      · rw [si_same, si_same, si_same, si_same, if_neg (by omega), if_pos rfl, if_neg (by omega), if_neg (by omega), e20, e22, e23]
        rfl
      · intro j hj; rw [q_si1, if_neg (by omega)]; exact hC1.2.1 j hj
      · intro j hj; rw [q_si1, if_neg (by omega)]; exact hC1.2.2.1 j hj
      · intro j hj; rw [q_si1, if_neg (by omega), q_si1, if_neg (by omega), q_si1, if_neg (by omega)]; exact hC1.2.2.2 j hj
    by_cases h1 : rashS P R (fol (roomW P R) W r) r ≤ oL R
    · rw [if_pos h1]
      refine key _ _ _ cN (by rw [si_same, if_neg (by omega)]) (hr_fr.si rfl hf1) ?_ ?_
      · rw [if_neg (fun z => z.1 ((q_le (by omega) (by omega)).mpr h1))]
      · rw [if_neg (fun z => z.1 ((q_le (by omega) (by omega)).mpr h1))]
    · rw [if_neg h1]
      by_cases h2 : (wF (fol (roomW P R) W r)).2.2.1 = zI (-1)
      · rw [if_pos h2]
        refine key _ (wF (fol (roomW P R) W r)).1 (nI r) ?_ (by rw [si_same, if_neg (by omega), si_same, if_neg (by omega), si_same, if_neg (by omega)]) (hr_fr.si rfl (hr_fr.si rfl (hr_fr.si rfl hf1))) ?_ ?_
        · refine ⟨?_, ?_, ?_, ?_⟩
          · have c := cN.1
            simp [q_si1]
            show (M1.1 249 0, _, _, _) = _
            rw [e20]
            rfl
          · intro j hj; have := cN.2.1 j hj; simp [q_si1] at this ⊢; exact this
          · intro j hj; have := cN.2.2.1 j hj; simp [q_si1] at this ⊢; exact this
          · intro j hj; have := cN.2.2.2 j hj; simp [q_si1] at this ⊢; exact this
        · rw [if_pos ⟨fun z => h1 ((q_le (by omega) (by omega)).mp z), h2⟩]
        · rw [if_pos ⟨fun z => h1 ((q_le (by omega) (by omega)).mp z), h2⟩]
      · rw [if_neg h2]
        refine key _ _ _ cN (by rw [si_same, if_neg (by omega)]) (hr_fr.si rfl hf1) ?_ ?_
        · rw [if_neg (fun z => h2 z.2)]
        · rw [if_neg (fun z => h2 z.2)]
  · rintro f M ⟨hC, ⟨F, hF, h12, hbit⟩, hf⟩
    have hs := rooms_same P R W 4
    obtain ⟨M', d1, d2, d3⟩ := s_hour109 hR hb hn hF hf hC h12
    show ∃ M', f_X9_passHour_7 a b (f + 1) (nI 4) M = _ ∧ _
    rw [f_X9_passHour_7.eq_2]
    simp (disch := omega) only [q_lit, q_m1, q_m2, q_m1000, q_add, q_mul, q_cl, q_le, q_lt, q_eq, q_in, q_bd_some, eq_self, if_true, if_false, q_b0, q_b1, q_b01, q_bt, q_bf, q_ft, q_tf, Nat.mul_zero, Nat.add_zero, Nat.zero_add, or_true, true_or, not_true_eq_false, not_false_eq_true, reduceCtorEq, Nat.le_refl]
    refine ⟨M', d1, ⟨?_, ?_, ?_, ?_⟩, d3⟩
    · rw [d2.1]
      show ((wF (fol (roomW P R) W 4)).1 + 1, (wF (fol (roomW P R) W 4)).2) = ((wF W).1 + 1, (wF (fol (roomW P R) W 4)).2)
      rw [show (wF (fol (roomW P R) W 4)).1 = (wF W).1 from hs.2.2.2.2]
    · intro j hj
      rw [d2.2.1 j hj]
      show (fol (roomW P R) W 4).2.1 j = W.2.1 j
      rw [hs.1]
    · intro j hj
      rw [d2.2.2.1 j hj]
      show (if j < oN R ∧ F.testBit j = true then (fol (roomW P R) W 4).2.2.1 j - 1 else (fol (roomW P R) W 4).2.2.1 j) = (if fadS P R W j then W.2.2.1 j - 1 else W.2.2.1 j)
      rw [hs.2.1, hbit j (by omega)]
      unfold fadS
      by_cases hq : exb (fun r => clsS P R W r j) 4 = true
      · rw [if_pos ⟨hj, hq⟩, if_pos hq]
      · rw [if_neg (fun z => hq z.2), if_neg hq]
    · intro p hp
      have q := d2.2.2.2 p hp
      refine ⟨q.1.trans ?_, q.2.1.trans ?_, q.2.2⟩
      · show (fol (roomW P R) W 4).2.2.2.1 p = W.2.2.2.1 p
        rw [hs.2.2.1]
      · show (fol (roomW P R) W 4).2.2.2.2.1 p = W.2.2.2.2.1 p
        rw [hs.2.2.2.1]
  · refine ⟨?_, ?_, ?_, ?_⟩
    · simp [q_si1]; exact hC.1
    · intro j hj; simp [q_si1]; exact hC.2.1 j hj
    · intro j hj; simp [q_si1]; exact hC.2.2.1 j hj
    · intro j hj; simp [q_si1]; exact hC.2.2.2 j hj
end CLS
