/-! FITS, by the model -/
section MOD
variable {q : Nat} {P : Pal} {R : Rol} {k : Nat}
/-- memory with a single rule laid -/
def layC (M : PM) (n : Nat) : PM := hr_si (hr_si (hr_si M 275 48 (zI (cdS n))) 275 49 (zI (cdX n))) 275 50 (zI (cdY n))
theorem layC_ne (M : PM) (n : Nat) {c : Nat} (h : c ≠ 275) : (layC M n).1 c = M.1 c := by
  unfold layC
  rw [si_ne _ _ _ h, si_ne _ _ _ h, si_ne _ _ _ h]
theorem layC_275 (M : PM) (n : Nat) {j : Nat} (h : j < 48 ∨ 50 < j) : (layC M n).1 275 j = M.1 275 j := by
  unfold layC
  rw [si_same, if_neg (by omega), si_same, if_neg (by omega), si_same, if_neg (by omega)]
theorem layC_at (M : PM) (n : Nat) : (layC M n).1 275 48 = zI (cdS n) ∧ (layC M n).1 275 49 = zI (cdX n) ∧ (layC M n).1 275 50 = zI (cdY n) := by
  unfold layC
  refine ⟨?_, ?_, ?_⟩
  · rw [si_same, if_neg (by omega), si_same, if_neg (by omega), si_same, if_pos rfl]
  · rw [si_same, if_neg (by omega), si_same, if_pos rfl]
  · rw [si_same, if_pos rfl]
theorem s_laySingle (M : PM) {n : Nat} (hn : n < 1570) : f_X11_laySingle (nI n) M = some ((), layC M n) := by
  unfold f_X11_laySingle
  rw [q_lit 1540, gO 1540, q_lit 1567, gO 1567, q_lit 27, gO 27, q_lit 9, gO 9]
  by_cases h1 : n < 1540
  · rw [if_neg (fun z => by have := (q_le (by omega) (by omega)).mp z; omega)]
    obtain ⟨e1, e2, e3⟩ := sgl_lt n h1
    generalize hlo : (sgl 55 n 0).1 = lo at *
    generalize hhi : (sgl 55 n 0).2 = hi at *
    refine hr_for (σ := Unit) (fun f w _ => f_X11_laySingle_11 (nI n) f (nI (n - offS w)) (nI w) M) lo (fun _ _ => True) (fun r => r = some ((), layC M n)) ?_ ?_ FU 0 () (Nat.zero_le _) (FU_ok (by omega)) trivial
    · intro f w _ hw _
      right
      refine ⟨(), ?_, trivial⟩
      have m1 := off_mono (w + 1) lo (by omega)
      have m2 : offS (w + 1) = offS w + (55 - w) := rfl
      show f_X11_laySingle_11 (nI n) (f + 1) (nI (n - offS w)) (nI w) M = f_X11_laySingle_11 (nI n) f (nI (n - offS (w + 1))) (nI (w + 1)) M
      rw [f_X11_laySingle_11.eq_2, q_lit 54, gO 54, q_lit 55, gO 55, q_sub (show w ≤ 54 by omega), q_sub (show w ≤ 55 by omega), if_neg (fun z => by have := (q_le (by omega) (by omega)).mp z; omega), q_sub (show 55 - w ≤ n - offS w by omega), q_lit 1, gO 1, q_add]
      congr 2
      omega
    · intro f _ _
      show f_X11_laySingle_11 (nI n) (f + 1) (nI (n - offS lo)) (nI lo) M = _
      rw [f_X11_laySingle_11.eq_2, q_lit 54, gO 54, q_sub (show lo ≤ 54 by omega), if_pos ((q_le (by omega) (by omega)).mpr (by omega)), q_add]
      unfold layC cdS cdX cdY
      rw [if_pos h1, if_pos h1, if_pos h1, hlo, hhi, show lo + (n - offS lo) = hi by omega, q_nz, q_nz]
      rfl
  · rw [if_pos ((q_le (by omega) (by omega)).mpr (by omega)), q_sub (show 1540 ≤ n by omega)]
    unfold layC cdS cdX cdY
    rw [if_neg h1, if_neg h1, if_neg h1]
    by_cases h2 : n < 1567
    · rw [if_neg (fun z => by have := (q_le (by omega) (by omega)).mp z; omega), if_pos h2, if_pos h2, if_pos h2, q_div (by omega) (by omega) (by omega), q_rem (by omega) (by omega) (by omega), q_lit 1, gO 1, q_add, q_nz 1, q_nz, q_nz]
      rfl
    · rw [if_pos ((q_le (by omega) (by omega)).mpr (by omega)), if_neg h2, if_neg h2, if_neg h2, q_sub (show 27 ≤ n - 1540 by omega), show (-1 : Int32) = zI (-1) by decide, show (2 : Int32) = zI 2 from rfl, show n - 1540 - 27 = n - 1567 by omega, q_nz]
theorem hM.layC {M : PM} (hH : hM M q P) (n : Nat) : hM (layC M n) q P := hH.at (layC_ne _ _ (by omega)) (layC_275 _ _ (by omega)) (layC_275 _ _ (by omega)) (layC_ne _ _ (by omega))
theorem gS.layC {M : PM} (hS : gS M k R) (n : Nat) : gS (layC M n) k R := hS.at (layC_ne _ _ (by omega)) (layC_275 _ _ (by omega))
/-- a single rule is laid -/
def isC1 (M : PM) (n : Nat) : Prop := M.1 275 48 = zI (cdS n) ∧ M.1 275 49 = zI (cdX n) ∧ M.1 275 50 = zI (cdY n)
theorem s_holdsOf {M : PM} (hH : hM M q P) {n : Nat} (hn : n < 1570) (hC : isC1 M n) {x y : Nat} (hx : x < pH P) (hy : y < pH P) : hw (f_X11_holdsOf (nI x) (nI y) M) (fun v M' => v = bI (cdH P n x y) ∧ only289 M M') := by
  have h10 := hH.1.1.2.1
  have h9 := pP_le hH.1.1.2
  obtain ⟨c1, c2, c3, c4, c5, c6⟩ := cd_ok hn
  have a0 := h9 (3 * x); have a1 := h9 (3 * x + 1); have a2 := h9 (3 * x + 2)
  have b0 := h9 (3 * y); have b1 := h9 (3 * y + 1); have b2 := h9 (3 * y + 2)
  unfold f_X11_holdsOf
  rw [show (0 : Int32) = nI 0 from rfl, s_layHue hH.1 hH.2.1.1 hx (Or.inl rfl), q_bd_some, show (3 : Int32) = nI 3 from rfl, s_layHue (hH.lay 0 _ _ _).1 (hH.lay 0 _ _ _).2.1.1 hy (Or.inr rfl), q_bd_some]
  have hL : laid (lay3 (lay3 M 0 (pP P (3 * x)) (pP P (3 * x + 1)) (pP P (3 * x + 2))) 3 (pP P (3 * y)) (pP P (3 * y + 1)) (pP P (3 * y + 2))) (fun p => pP P (3 * x + p)) (fun p => pP P (3 * y + p)) := lay3_laid M (fun p => pP P (3 * x + p)) (fun p => pP P (3 * y + p))
  have e48 : ∀ j, (lay3 (lay3 M 0 (pP P (3 * x)) (pP P (3 * x + 1)) (pP P (3 * x + 2))) 3 (pP P (3 * y)) (pP P (3 * y + 1)) (pP P (3 * y + 2))).1 275 j = M.1 275 j := fun j => by rw [lay3_ne _ _ _ _ _ (by omega), lay3_ne _ _ _ _ _ (by omega)]
  rw [e48, e48, e48, hC.1, hC.2.1, hC.2.2, s_holds hL (fun p hp => ⟨h9 _, h9 _⟩) c6, q_bd_some]
  have em : ∀ h, meaF (fun p => pP P (3 * h + p)) (cdS n) (cdX n) = mea P h (cdS n) (cdX n) := by
    intro h
    unfold meaF mea
    by_cases z : cdS n = 0
    · rw [if_pos z, if_pos z]; rfl
    · rw [if_neg z, if_neg z, if_pos]
      have := c6.2.2.2.1
      have : cdX n ≤ 2 := this (by omega)
      omega
  rw [em, em, if_pos (by cases tch (cdS n) (cdX n) (cdY n) (mea P x (cdS n) (cdX n)) (mea P y (cdS n) (cdX n)) <;> simp [bI, q_lit])]
  exact hw.ok ⟨rfl, (only289.lay _ _ _ _ _).tr (only289.lay _ _ _ _ _)⟩
theorem gS.o289 {M M' : PM} (h : gS M k R) (ho : only289 M M') : gS M' k R := h.at (ho.1 _ (by omega)) (by rw [ho.1 _ (by omega)])
theorem isC1.o289 {M M' : PM} {n : Nat} (h : isC1 M n) (ho : only289 M M') : isC1 M' n := by
  unfold isC1
  rw [ho.1 275 (by omega)]
  exact h
theorem s_isFitting {M : PM} (hH : hM M q P) (hS : gS M k R) (hs : sOK P R) {n : Nat} (hn : n < 1570) : hw (f_X11_isFitting (nI n) M) (fun v M' => v = bI (fit P R n) ∧ only289 (layC M n) M') := by
  have h12 : oN R ≤ 12 := hS.1.2.1
  unfold f_X11_isFitting
  rw [s_laySingle M hn, q_bd_some]
  refine hr_for (σ := PM) (fun f i N => f_X11_isFitting_7 (nI n) f (nI i) N) (oN R) (fun i N => only289 (layC M n) N ∧ exb (fun k => cdH P n (oA R k).toNat (oB R k).toNat != decide (oC R k = 1)) i = false) (fun r => hw r (fun v M' => v = bI (fit P R n) ∧ only289 (layC M n) M')) ?_ ?_ FU 0 (layC M n) (Nat.zero_le _) (FU_ok (by omega)) ⟨only289.rf _, rfl⟩
  · rintro f i N hi ⟨ho, hno⟩
    have hHN := ho.hnd (hH.layC n)
    have hSN := (hS.layC n).o289 ho
    have hCN : isC1 N n := isC1.o289 (layC_at M n) ho
    obtain ⟨⟨k1, k2⟩, k3, k4⟩ := hs.2.2 i hi
    have hc := (hs.2.1.2.2 i hi).1
    obtain ⟨d0, d1, d2⟩ := s_sneezeOf hSN hi
    obtain ⟨v, N', g1, g2, g3⟩ := s_holdsOf hHN hn hCN k1 k3
    obtain ⟨d0', -, -⟩ := s_sneezeOf (hSN.o289 g3) hi
    show hw (f_X11_isFitting_7 (nI n) (f + 1) (nI i) N) _ ∨ ∃ s', f_X11_isFitting_7 (nI n) (f + 1) (nI i) N = f_X11_isFitting_7 (nI n) f (nI (i + 1)) s' ∧ _
    rw [f_X11_isFitting_7.eq_2, s_sneezes hSN, q_bd_some, if_neg (fun z => by have := (q_le (by omega) (by omega)).mp z; omega), show (1 : Int32) = nI 1 from rfl, show (2 : Int32) = nI 2 from rfl, show (0 : Int32) = nI 0 from rfl, d1, q_bd_some, d2, q_bd_some, k2, k4, g1, q_bd_some, d0', q_bd_some, g2]
    have e46 : ∀ s0, f_X11_isFitting_46 (nI n) (fun x2 M => f_X11_isFitting_7 (nI n) f x2 M) (nI i) (bI s0) (bI (cdH P n (oA R i).toNat (oB R i).toNat)) N' = if cdH P n (oA R i).toNat (oB R i).toNat = s0 then f_X11_isFitting_7 (nI n) f (nI (i + 1)) N' else some (nI 0, N') := by
      intro s0
      unfold f_X11_isFitting_46
      rw [q_lit 1, gO 1, q_add]
      by_cases z : cdH P n (oA R i).toNat (oB R i).toNat = s0
      · rw [if_pos (show bI (cdH P n (oA R i).toNat (oB R i).toNat) = bI s0 by rw [z]), if_pos z]
      · rw [if_neg (fun y => z (Eq.mp (q_bb _ _) y)), if_neg z]
        rfl
    have e46' : (if zI (oC R i) = nI 1 then f_X11_isFitting_46 (nI n) (fun x2 M => f_X11_isFitting_7 (nI n) f x2 M) (nI i) (nI 1) (bI (cdH P n (oA R i).toNat (oB R i).toNat)) N' else f_X11_isFitting_46 (nI n) (fun x2 M => f_X11_isFitting_7 (nI n) f x2 M) (nI i) (nI 0) (bI (cdH P n (oA R i).toNat (oB R i).toNat)) N') = if cdH P n (oA R i).toNat (oB R i).toNat = decide (oC R i = 1) then f_X11_isFitting_7 (nI n) f (nI (i + 1)) N' else some (nI 0, N') := by
      rcases hc with z | z
      · rw [z, if_neg (show ¬ zI 0 = nI 1 by decide)]
        exact e46 false
      · rw [z, if_pos (show zI 1 = nI 1 from rfl)]
        exact e46 true
    rw [e46']
    by_cases z : cdH P n (oA R i).toNat (oB R i).toNat = decide (oC R i = 1)
    · right
      rw [if_pos z]
      refine ⟨N', rfl, ho.tr g3, ?_⟩
      show (exb _ i || _) = false
      rw [hno]
      dsimp only
      rw [z]
      simp
    · left
      rw [if_neg z]
      refine hw.ok ⟨?_, ho.tr g3⟩
      unfold fit
      rw [exb_iff.mpr ⟨i, hi, by simpa using z⟩]
      rfl
  · rintro f N ⟨ho, hno⟩
    have hSN := (hS.layC n).o289 ho
    show hw (f_X11_isFitting_7 (nI n) (f + 1) (nI (oN R)) N) _
    rw [f_X11_isFitting_7.eq_2, s_sneezes hSN, q_bd_some, if_pos (Int32.le_refl _)]
    refine hw.ok ⟨?_, ho⟩
    unfold fit
    rw [hno]
    rfl
/-- those that may be are marked -/
def fitM (M : PM) (P : Pal) (R : Rol) (n : Nat) : Prop := ∀ j, j < n → M.1 301 j = bI (fit P R j)
theorem s_layFits64 {M : PM} (hH : hM M q P) (hS : gS M k R) (hs : sOK P R) (a1 a2 : Int32) : ∃ M', f_X11_layFits_64 a1 a2 FU (nI 0) M = some (nI 1, M') ∧ hM M' q P ∧ gS M' k R ∧ fitM M' P R 1570 := by
  refine hr_for (σ := PM) (fun f n N => f_X11_layFits_64 a1 a2 f (nI n) N) 1570 (fun n N => hM N q P ∧ gS N k R ∧ fitM N P R n) (fun r => ∃ M', r = some (nI 1, M') ∧ hM M' q P ∧ gS M' k R ∧ fitM M' P R 1570) ?_ ?_ FU 0 M (Nat.zero_le _) (FU_ok (by omega)) ⟨hH, hS, fun j hj => by omega⟩
  · rintro f n N hn ⟨hH, hS, hf⟩
    right
    obtain ⟨v, N', g1, g2, g3⟩ := s_isFitting hH hS hs hn
    have hH' := g3.hnd (hH.layC n)
    have hS' := (hS.layC n).o289 g3
    show ∃ s', f_X11_layFits_64 a1 a2 (f + 1) (nI n) N = f_X11_layFits_64 a1 a2 f (nI (n + 1)) s' ∧ _
    rw [f_X11_layFits_64.eq_2, q_lit 1570, gO 1570, if_neg (fun z => by have := (q_le (by omega) (by omega)).mp z; omega), g1, q_bd_some, if_pos (q_in (by omega) (by omega)), q_cl (by omega), g2, q_lit 1, gO 1, q_add]
    have eb : vp_nar .boolean (bI (fit P R n)) = bI (fit P R n) := by
      cases fit P R n
      · exact nar_b.1
      · exact nar_b.2
    rw [eb]
    refine ⟨_, rfl, hH'.at (si_ne _ _ _ (by omega)) (by rw [si_ne _ _ _ (by omega)]) (by rw [si_ne _ _ _ (by omega)]) (si_ne _ _ _ (by omega)), hS'.at (si_ne _ _ _ (by omega)) (by rw [si_ne _ _ _ (by omega)]), fun j hj => ?_⟩
    rw [si_same]
    by_cases z : j = n
    · rw [if_pos z, z]
    · rw [if_neg z, g3.1 301 (by omega), layC_ne _ _ (by omega)]; exact hf j (by omega)
  · rintro f N ⟨hH, hS, hf⟩
    show ∃ M', f_X11_layFits_64 a1 a2 (f + 1) (nI 1570) N = _ ∧ _
    rw [f_X11_layFits_64.eq_2, q_lit 1570, gO 1570, if_pos (Int32.le_refl _)]
    exact ⟨N, rfl, hH, hS, hf⟩
theorem s_layFits20 {M : PM} (hH : hM M q P) (hS : gS M k R) (a1 a2 : Int32) : ∃ M', f_X11_layFits_20 a1 a2 FU (nI 0) M = some (bI (tog P R), M') ∧ (tog P R = true → hM M' q P ∧ gS M' k R ∧ fitM M' P R 1570) := by
  have ho := hS.1.2
  have h12 : oN R ≤ 12 := ho.1
  have h10 : pH P ≤ 10 := hH.1.1.2.1
  have et : tog P R = decide (namB R (oN R) < 2 ^ pH P) := by unfold tog; rw [ho.2.1]
  refine hr_for (σ := Unit) (fun f i _ => f_X11_layFits_20 a1 a2 f (nI i) M) (oN R) (fun i _ => ∀ j, j < i → (oA R j).toNat < pH P ∧ (oB R j).toNat < pH P) (fun r => ∃ M', r = some (bI (tog P R), M') ∧ (tog P R = true → hM M' q P ∧ gS M' k R ∧ fitM M' P R 1570)) ?_ ?_ FU 0 () (Nat.zero_le _) (FU_ok (by omega)) (fun j hj => by omega)
  · intro f i _ hi hI
    obtain ⟨-, hA, hB, -⟩ := ho.2.2 i hi
    have eA : zI (oA R i) = nI (oA R i).toNat := by rw [q_nz]; congr 1; omega
    have eB : zI (oB R i) = nI (oB R i).toNat := by rw [q_nz]; congr 1; omega
    obtain ⟨-, d1, d2⟩ := s_sneezeOf hS hi
    have no : ¬ ((oA R i).toNat < pH P ∧ (oB R i).toNat < pH P) → tog P R = false := fun z => by
      rw [et, decide_eq_false]
      exact fun y => z (namB_lt.mp y i hi)
    show (∃ M', f_X11_layFits_20 a1 a2 (f + 1) (nI i) M = _ ∧ _) ∨ ∃ _ : Unit, f_X11_layFits_20 a1 a2 (f + 1) (nI i) M = f_X11_layFits_20 a1 a2 f (nI (i + 1)) M ∧ _
    rw [f_X11_layFits_20.eq_2, s_sneezes hS, q_bd_some, if_neg (fun z => by have := (q_le (by omega) (by omega)).mp z; omega), show (1 : Int32) = nI 1 from rfl, show (2 : Int32) = nI 2 from rfl, show (0 : Int32) = nI 0 from rfl, d1, q_bd_some, eA, s_isHue hH, q_bd_some]
    by_cases z1 : (oA R i).toNat < pH P
    · rw [ix_n z1 (by omega), if_neg (show ¬ bI (some (oA R i).toNat).isSome = nI 0 from (by decide : ¬ nI 1 = nI 0)), d2, q_bd_some, eB, s_isHue hH, q_bd_some]
      by_cases z2 : (oB R i).toNat < pH P
      · right
        rw [ix_n z2 (by omega), if_neg (show ¬ bI (some (oB R i).toNat).isSome = nI 0 from (by decide : ¬ nI 1 = nI 0)), q_add]
        refine ⟨(), rfl, fun j hj => ?_⟩
        by_cases e : j = i
        · rw [e]; exact ⟨z1, z2⟩
        · exact hI j (by omega)
      · left
        rw [ix_big (by omega) (by omega), if_pos (show bI (none : Option Nat).isSome = nI 0 from rfl), no (fun y => z2 y.2)]
        exact ⟨M, rfl, fun y => by cases y⟩
    · left
      rw [ix_big (by omega) (by omega), if_pos (show bI (none : Option Nat).isSome = nI 0 from rfl), no (fun y => z1 y.1)]
      exact ⟨M, rfl, fun y => by cases y⟩
  · intro f _ hI
    have ht : tog P R = true := by rw [et, decide_eq_true]; exact namB_lt.mpr hI
    show ∃ M', f_X11_layFits_20 a1 a2 (f + 1) (nI (oN R)) M = _ ∧ _
    rw [f_X11_layFits_20.eq_2, s_sneezes hS, q_bd_some, if_pos (Int32.le_refl _), ht]
    obtain ⟨M', g1, g2, g3, g4⟩ := s_layFits64 hH hS (sOK.of hH.1.1.2 ho ht) a1 a2
    exact ⟨M', g1, fun _ => ⟨g2, g3, g4⟩⟩
end MOD
