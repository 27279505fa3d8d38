/-! HUES THAT ARE NAMED, on both sides -/
theorem namA_bit (R : Rol) (n j : Nat) : (namA R n).testBit j = exb (fun i => decide ((oA R i).toNat = j)) n := by
  induction n with
  | zero => exact Nat.zero_testBit j
  | succ n ih =>
    unfold namA exb
    rw [Nat.testBit_or, ih, Nat.testBit_two_pow]
theorem namB_bit (R : Rol) (n j : Nat) : (namB R n).testBit j = exb (fun i => decide ((oA R i).toNat = j) || decide ((oB R i).toNat = j)) n := by
  induction n with
  | zero => exact Nat.zero_testBit j
  | succ n ih =>
    unfold namB exb
    rw [Nat.testBit_or, ih, Nat.testBit_or, Nat.testBit_two_pow, Nat.testBit_two_pow]
theorem namS_bit (R : Rol) (n j : Nat) : (namS R n).testBit j = exb (fun i => (oA R i).toNat.testBit j) n := by
  induction n with
  | zero => exact Nat.zero_testBit j
  | succ n ih =>
    unfold namS exb
    rw [Nat.testBit_or, ih]
/-- a set is below a power by its bits -/
theorem lt2_iff {s h : Nat} : s < 2 ^ h ↔ ∀ j, s.testBit j = true → j < h := by
  constructor
  · intro hs j hj
    apply Nat.lt_of_not_le
    intro hle
    rw [Nat.testBit_lt_two_pow (Nat.lt_of_lt_of_le hs (Nat.pow_le_pow_right (n := 2) (by decide) hle))] at hj
    cases hj
  · intro hb
    apply Nat.lt_pow_two_of_testBit
    intro i hi
    cases hs : s.testBit i with
    | false => rfl
    | true => have := hb i hs; omega
theorem namA_lt {R : Rol} {n h : Nat} : namA R n < 2 ^ h ↔ ∀ i, i < n → (oA R i).toNat < h := by
  rw [lt2_iff]
  constructor
  · intro hb i hi
    exact hb _ (by rw [namA_bit]; exact exb_iff.mpr ⟨i, hi, by simp⟩)
  · intro ha j hj
    rw [namA_bit] at hj
    obtain ⟨i, h1, h2⟩ := exb_iff.mp hj
    have := ha i h1
    simp only [decide_eq_true_eq] at h2
    omega
theorem namB_lt {R : Rol} {n h : Nat} : namB R n < 2 ^ h ↔ ∀ i, i < n → (oA R i).toNat < h ∧ (oB R i).toNat < h := by
  rw [lt2_iff]
  constructor
  · intro hb i hi
    exact ⟨hb _ (by rw [namB_bit]; exact exb_iff.mpr ⟨i, hi, by simp⟩), hb _ (by rw [namB_bit]; exact exb_iff.mpr ⟨i, hi, by simp⟩)⟩
  · intro ha j hj
    rw [namB_bit] at hj
    obtain ⟨i, h1, h2⟩ := exb_iff.mp hj
    have := ha i h1
    simp only [Bool.or_eq_true, decide_eq_true_eq] at h2
    omega
theorem namS_lt {R : Rol} {n h : Nat} : namS R n < 2 ^ h ↔ ∀ i, i < n → (oA R i).toNat < 2 ^ h := by
  rw [lt2_iff]
  constructor
  · intro hb i hi
    exact lt2_iff.mpr (fun j hj => hb j (by rw [namS_bit]; exact exb_iff.mpr ⟨i, hi, hj⟩))
  · intro ha j hj
    rw [namS_bit] at hj
    obtain ⟨i, h1, h2⟩ := exb_iff.mp hj
    exact lt2_iff.mp (ha i h1) j h2
/-- whether all that a roll names are hues of a palette -/
def tog (P : Pal) (R : Rol) : Bool := decide (oS R < 2 ^ pH P)
theorem oS_lt {s : Nat} (h1 : s = 1 ∨ s = 3 ∨ s = 4) {R : Rol} (h : oOK s R) : oS R < 1024 := by
  rcases h1 with rfl | rfl | rfl
  · obtain ⟨g1, g2, g3, g4⟩ := h
    rw [g3]
    exact namA_lt (h := 10) |>.mpr (fun i hi => by have := g4 i hi; omega)
  · obtain ⟨g1, g3, g4⟩ := h
    rw [g3]
    exact namB_lt (h := 10) |>.mpr (fun i hi => by have := g4 i hi; omega)
  · obtain ⟨g1, g3, g4⟩ := h
    rw [g3]
    exact namS_lt (h := 10) |>.mpr (fun i hi => by have := g4 i hi; omega)
theorem s_goTogether {M : PM} {a b : Nat} {P : Pal} {R : Rol} (hP : rP M a P) (hR : rR M b R) (hs : oS R < 1024) : f_X10_goTogether (.ref a) (.ref b) M = some (bI (tog P R), M) := by
  unfold f_X10_goTogether
  dsimp only
  rw [if_pos hP.1.1, if_pos hR.1, hR.2.1.2.2, s_hasAll hP hs, q_bd_some]
  unfold tog
  cases decide (oS R < 2 ^ pH P) <;> rfl
theorem rR_ag {M M' : PM} {a lo hi : Nat} {R : Rol} (h : rR M a R) (hg : agr lo hi M M') (h1 : lo ≤ a) (h2 : a + 4 ≤ hi) : rR M' a R := by
  have g : ∀ j, j < 4 → M'.1 (a + j) = M.1 (a + j) := fun j hj => hg (a + j) (by omega) (by omega)
  have g0 : M'.1 a = M.1 a := g 0 (by omega)
  unfold rR at h ⊢
  rw [g0, g 1 (by omega), g 2 (by omega), g 3 (by omega)]
  exact h
theorem rP_ag {M M' : PM} {a lo hi : Nat} {P : Pal} (h : rP M a P) (hg : agr lo hi M M') (h1 : lo ≤ a) (h2 : a + 9 ≤ hi) : rP M' a P := h.agr (hg.sub h1 h2)
theorem agr.si {lo hi : Nat} {M M1 : PM} {a k : Nat} {v : Int32} (h : agr lo hi M M1) (ha : hi ≤ a) : agr lo hi M (hr_si M1 a k v) := fun c h1 h2 => by
  rw [← h c h1 h2]
  funext j
  rw [q_si1, if_neg (by omega)]
theorem agr.sl {lo hi : Nat} {M M1 : PM} {a k : Nat} {v : Int64} (h : agr lo hi M M1) : agr lo hi M (hr_sl M1 a k v) := fun c h1 h2 => h c h1 h2
/-! the model's gallery and palette, laid -/
section MOD
variable {M : PM} {T : Tol}
/-- a gallery in hand, with its palette -/
theorem s_layGallery20 {k g : Nat} {P : Pal} {R : Rol} (hH : hM M k P) (hG : gG M g R) (a1 a2 : Int32) : f_X11_layGallery_20 a1 a2 FU (nI 0) M = some (bI (tog P R), M) := by
  have ho := hG.1.2
  have hn : oN R ≤ 9 := ho.1
  have ha : ∀ i, i < oN R → 0 ≤ oA R i ∧ oA R i ≤ 9 := fun i hi => (ho.2.2.2 i hi).1
  have h10 : pH P ≤ 10 := hH.1.1.2.1
  unfold tog
  rw [show oS R = namA R (oN R) from ho.2.2.1]
  refine hr_for (σ := Unit) (fun f i _ => f_X11_layGallery_20 a1 a2 f (nI i) M) (oN R) (fun i _ => ∀ j, j < i → (oA R j).toNat < pH P) (fun r => r = some (bI (decide (namA R (oN R) < 2 ^ pH P)), M)) ?_ ?_ FU 0 () (Nat.zero_le _) (FU_ok (by omega)) (fun j hj => by omega)
  · intro f i _ hi hI
    have h1 := ha i hi
    have e : zI (oA R i) = nI (oA R i).toNat := by rw [q_nz, Int.toNat_of_nonneg h1.1]
    show f_X11_layGallery_20 a1 a2 (f + 1) (nI i) M = _ ∨ ∃ _ : Unit, f_X11_layGallery_20 a1 a2 (f + 1) (nI i) M = f_X11_layGallery_20 a1 a2 f (nI (i + 1)) M ∧ _
    rw [f_X11_layGallery_20.eq_2]
    simp (disch := omega) only [q_lit, q_m1, q_m2, q_m1000, q_add, q_mul, q_cl, q_le, q_lt, q_eq, q_in, q_bd_some, eq_self, if_true, if_false, q_b0, q_b1, q_b01, q_bt, q_bf, q_ft, q_tf, Nat.mul_zero, Nat.add_zero, Nat.zero_add, or_true, true_or, not_true_eq_false, not_false_eq_true, reduceCtorEq, s_pictures hG, show ¬ oN R ≤ i by omega, s_hueOf hG, e, s_isHue hH]
    by_cases h2 : (oA R i).toNat < pH P
    · right
      rw [ix_n h2 (by omega)]
      refine ⟨(), rfl, ?_⟩
      intro j hj
      by_cases hji : j = i
      · rw [hji]; exact h2
      · exact hI j (by omega)
    · left
      rw [ix_big (by omega) (by omega), decide_eq_false (fun z => h2 (namA_lt.mp z i hi))]
      rfl
  · intro f _ hI
    show f_X11_layGallery_20 a1 a2 (f + 1) (nI (oN R)) M = _
    rw [f_X11_layGallery_20.eq_2]
    simp (disch := omega) only [q_lit, q_m1, q_m2, q_m1000, q_add, q_mul, q_cl, q_le, q_lt, q_eq, q_in, q_bd_some, eq_self, if_true, if_false, q_b0, q_b1, q_b01, q_bt, q_bf, q_ft, q_tf, Nat.mul_zero, Nat.add_zero, Nat.zero_add, or_true, true_or, not_true_eq_false, not_false_eq_true, reduceCtorEq, s_pictures hG, Nat.le_refl]
    rw [decide_eq_true (namA_lt.mpr hI)]
    rfl
theorem m_layGallery (hT : mT M 0 T) (ok : tOK T) (p g : Int32) : hw (f_X11_layGallery p g M) (fun v M' => (match ix g (tz T 1), ix p (tz T 0) with
    | some g, some q => v = bI (tog (tP T q) (tR T 1 g)) ∧ hM M' q (tP T q) ∧ gG M' g (tR T 1 g)
    | _, _ => v = nI 0) ∧ hr_fr hW_X11_layGallery M M') := by
  refine hw.fr ?_ (fun r h => fr_X11_layGallery p g M r h)
  unfold f_X11_layGallery
  obtain ⟨e1, e2⟩ := m_hasGallery hT ok g
  rw [e1, q_bd_some]
  cases hg : ix g (tz T 1) with
  | none => exact hw.ok rfl
  | some g =>
    obtain ⟨rfl, h1, -⟩ := ix_some hg
    have hG := e2 g rfl h1
    rw [if_neg (show ¬ bI (some g).isSome = 0 from (by decide : ¬ nI 1 = 0))]
    refine hw.bd ((m_hand (hT.si (k := 28) (v := nI g)) ok p).mono (fun v M' h => ?_))
    obtain ⟨h, hf⟩ := h
    cases hp : ix p (tz T 0) with
    | none =>
      rw [hp] at h
      rw [h.1]
      exact hw.ok rfl
    | some q =>
      rw [hp] at h
      obtain ⟨rfl, hH⟩ := h
      dsimp only
      have hG' : gG M' g (tR T 1 g) := hG.at (hf.row 282 (fun _ => rfl)) (hf.at 275 28 rfl)
      rw [if_neg (show ¬ nI 1 = 0 by decide), show (0 : Int32) = nI 0 from rfl, s_layGallery20 hH hG']
      exact hw.ok ⟨rfl, hH, hG'⟩
end MOD
