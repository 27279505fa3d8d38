/-! MIXES, by the model -/
section MOD
variable {q : Nat} {P : Pal}
theorem s_isBorneHue {M : PM} (hH : hM M q P) {h : Nat} (hh : h < pH P) (s : Int32) : f_X11_isBorneHue (nI h) s M = some (bI (decide (foes P h &&& memS P s = 0)), M) := by
  have h10 := hH.1.1.2.1
  let p : Nat → Bool := fun j => foe P h j && hb s j
  have key : ∀ j, j < pH P → (foes P h &&& memS P s).testBit j = p j := by
    intro j hj
    rw [Nat.testBit_and, foes, bset_bit, decide_eq_true hj, memS_bit h10 s hj]
    rfl
  unfold f_X11_isBorneHue
  refine hr_for (σ := Unit) (fun f i _ => f_X11_isBorneHue_2 (nI h) s f (nI i) M) (pH P) (fun i _ => exb p i = false) (fun r => r = some (bI (decide (foes P h &&& memS P s = 0)), M)) ?_ ?_ FU 0 () (Nat.zero_le _) (FU_ok (by omega)) rfl
  · intro f i _ hi hno
    have ep : p i = (foe P h i && hb s i) := rfl
    have ex : exb p (i + 1) = (exb p i || p i) := rfl
    show f_X11_isBorneHue_2 (nI h) s (f + 1) (nI i) M = _ ∨ ∃ _ : Unit, f_X11_isBorneHue_2 (nI h) s (f + 1) (nI i) M = f_X11_isBorneHue_2 (nI h) s f (nI (i + 1)) M ∧ _
    rw [f_X11_isBorneHue_2.eq_2, hH.2.1.2, s_hasAny11 s (show i < 32 by omega)]
    simp (disch := omega) only [q_lit, q_m1, q_m2, q_m1000, q_add, q_mul, q_cl, q_le, q_lt, q_eq, q_in, q_bd_some, eq_self, if_true, if_false, q_b0, q_b1, q_b01, q_bt, q_bf, q_ft, q_tf, Nat.mul_zero, Nat.add_zero, Nat.zero_add, or_true, true_or, not_true_eq_false, not_false_eq_true, reduceCtorEq, show ¬ pH P ≤ i by omega, s_clash hH hh hi]
    cases hb2 : hb s i with
    | false =>
      right
      rw [if_pos rfl]
      exact ⟨(), rfl, by rw [ex, hno, ep, hb2, Bool.and_false]; rfl⟩
    | true =>
      rw [if_neg (by simp)]
      cases hf : foe P h i with
      | false =>
        right
        rw [if_pos rfl]
        exact ⟨(), rfl, by rw [ex, hno, ep, hf]; rfl⟩
      | true =>
        left
        rw [if_neg (by simp), decide_eq_false]
        · rfl
        · intro z
          have hk := key i hi
          rw [z, Nat.zero_testBit, ep, hf, hb2] at hk
          cases hk
  · intro f _ hno
    show f_X11_isBorneHue_2 (nI h) s (f + 1) (nI (pH P)) M = _
    rw [f_X11_isBorneHue_2.eq_2, hH.2.1.2, if_pos (Int32.le_refl _), decide_eq_true]
    · rfl
    · apply Nat.eq_of_testBit_eq
      intro i
      rw [Nat.zero_testBit]
      by_cases hi : i < pH P
      · rw [key i hi]
        exact exb_no.mp hno i hi
      · rw [Nat.testBit_and, foes, bset_bit, decide_eq_false hi]
        rfl
theorem s_colourOf {M : PM} (hH : hM M q P) {h : Nat} (hh : h < pH P) : f_X11_colourOf (nI h) M = some (nI (clr P h), M) := by
  unfold f_X11_colourOf
  rw [show (0 : Int32) = nI 0 from rfl, show (1 : Int32) = nI 1 from rfl, show (2 : Int32) = nI 2 from rfl, s_part11 hH.1 hH.2.1.1 hh (by omega), q_bd_some, s_part11 hH.1 hH.2.1.1 hh (by omega), q_bd_some, s_part11 hH.1 hH.2.1.1 hh (by omega), q_bd_some, Nat.add_zero, q_lit 100, q_lit 10, gO 100, gO 10, q_mul, q_mul, q_add, q_add]
  rfl
theorem s_mix180 {M : PM} (hH : hM M q P) {B : Nat → Bool} (hA : ndA M (nd P B (pH P))) {c0 : Nat} (hc : c0 < 1000) (hD : mxD P B c0 < 1000000) {i : Nat} (hi : 1 ≤ i) (hi2 : i ≤ mxD P B c0) (a1 a2 a3 a4 x6 x7 : Int32) (k167 : Int32 → Int32 → Int32 → PM → Option (Int32 × PM)) : f_X11_mix_180 a1 a2 a3 a4 k167 FU (nI (mxs P B c0 i)) x6 x7 (nI 0) M = k167 (nI (mxs P B c0 (i + 1))) x6 x7 M := by
  have hn := hH.1.1.2.1
  have hcl := mxs_lt (P := P) (B := B) hc i
  obtain ⟨o1, o2, o3⟩ := mxs_ok hn hc hD i hi2
  obtain ⟨-, p2, -⟩ := mxs_ok hn hc hD (i - 1) (by omega)
  rw [show i - 1 + 1 = i by omega] at p2
  have hs := nd_small (P := P) (B := B) (n := pH P) (mxs P B c0 i)
  have eh : mxs P B c0 (i + 1) = mxd P (mxs P B c0 i) (mxh P B (mxs P B c0 i) (mxD P B c0 - i)) := rfl
  refine hr_for (σ := Unit) (fun f h _ => f_X11_mix_180 a1 a2 a3 a4 k167 f (nI (mxs P B c0 i)) x6 x7 (nI h) M) (pH P) (fun h _ => h ≤ mxh P B (mxs P B c0 i) (mxD P B c0 - i)) (fun r => r = k167 (nI (mxs P B c0 (i + 1))) x6 x7 M) ?_ ?_ FU 0 () (Nat.zero_le _) (FU_ok (by omega)) (Nat.zero_le _)
  · intro f h _ hh hle
    have hy := mxd_lt P (mxs P B c0 i) h
    have hs2 := nd_small (P := P) (B := B) (n := pH P) (mxd P (mxs P B c0 i) h)
    have e1 : nI (nd P B (pH P) (mxs P B c0 i)) - 1 = nI (mxD P B c0 - i) := by
      rw [q_lit 1, gO 1, q_sub (by omega), p2]
      congr 1
      omega
    show f_X11_mix_180 a1 a2 a3 a4 k167 (f + 1) (nI (mxs P B c0 i)) x6 x7 (nI h) M = _ ∨ ∃ _ : Unit, f_X11_mix_180 a1 a2 a3 a4 k167 (f + 1) (nI (mxs P B c0 i)) x6 x7 (nI h) M = f_X11_mix_180 a1 a2 a3 a4 k167 f (nI (mxs P B c0 i)) x6 x7 (nI (h + 1)) M ∧ _
    rw [f_X11_mix_180.eq_2, s_mixed hH hcl hh, q_bd_some, if_pos (q_in (by omega) (by omega)), if_pos (q_in (by omega) (by omega)), q_cl (by omega), q_cl (by omega), hA _ hy, hA _ hcl, e1, s_mixed hH hcl hh, q_bd_some, q_lit 1, gO 1, q_add]
    by_cases z : h = mxh P B (mxs P B c0 i) (mxD P B c0 - i)
    · left
      rw [z, ← eh, o2, if_pos rfl]
    · right
      have := o3 h (by omega)
      rw [if_neg (fun y => this ((q_eq (by omega) (by omega)).mp y))]
      exact ⟨(), rfl, by omega⟩
  · intro f _ hle
    omega
/-- a model's answer, once the first unit is known -/
theorem s_mix167 {M : PM} (hH : hM M q P) {B : Nat → Bool} (hA : ndA M (nd P B (pH P))) {c0 : Nat} (hc : c0 < 1000) (hD : mxD P B c0 < 1000000) (a1 a2 a3 a4 x6 x7 : Int32) : f_X11_mix_167 a1 a2 a3 a4 FU (nI (mxs P B c0 1)) x6 x7 M = some (if a4 = 0 then x7 else if a4 = 1 then x6 else nI (mxs P B c0 (mxD P B c0 + 1)), M) := by
  have hn := hH.1.1.2.1
  have hD2 : mxD P B c0 ≤ 90 := by
    obtain ⟨-, p2, -⟩ := mxs_ok hn hc hD 0 (Nat.zero_le _)
    have hs := nd_small (P := P) (B := B) (n := pH P) (mxs P B c0 (0 + 1))
    omega
  refine hr_for (σ := Unit) (fun f i _ => f_X11_mix_167 a1 a2 a3 a4 f (nI (mxs P B c0 (i + 1))) x6 x7 M) (mxD P B c0) (fun _ _ => True) (fun r => r = some (if a4 = 0 then x7 else if a4 = 1 then x6 else nI (mxs P B c0 (mxD P B c0 + 1)), M)) ?_ ?_ FU 0 () (Nat.zero_le _) (FU_ok (by omega)) trivial
  · intro f i _ hi _
    right
    have hcl := mxs_lt (P := P) (B := B) hc (i + 1)
    obtain ⟨-, p2, -⟩ := mxs_ok hn hc hD i (by omega)
    refine ⟨(), ?_, trivial⟩
    show f_X11_mix_167 a1 a2 a3 a4 (f + 1) (nI (mxs P B c0 (i + 1))) x6 x7 M = f_X11_mix_167 a1 a2 a3 a4 f (nI (mxs P B c0 (i + 1 + 1))) x6 x7 M
    rw [f_X11_mix_167.eq_2, if_pos (q_in (by omega) (by omega)), q_cl (by omega), hA _ hcl, p2, show (0 : Int32) = nI 0 from rfl, if_neg (fun z => by have := (q_le (by omega) (by omega)).mp z; omega)]
    exact s_mix180 hH hA hc hD (by omega) (by omega) a1 a2 a3 a4 x6 x7 _
  · intro f _ _
    have hcl := mxs_lt (P := P) (B := B) hc (mxD P B c0 + 1)
    obtain ⟨-, p2, -⟩ := mxs_ok hn hc hD (mxD P B c0) (Nat.le_refl _)
    show f_X11_mix_167 a1 a2 a3 a4 (f + 1) (nI (mxs P B c0 (mxD P B c0 + 1))) x6 x7 M = _
    rw [f_X11_mix_167.eq_2, if_pos (q_in (by omega) (by omega)), q_cl (by omega), hA _ hcl, p2, Nat.sub_self, if_pos (show nI 0 ≤ 0 by decide)]
    by_cases w0 : a4 = 0
    · rw [if_pos w0, if_pos w0]
    · rw [if_neg w0, if_neg w0]
      by_cases w1 : a4 = 1
      · rw [if_pos w1, if_pos w1]
      · rw [if_neg w1, if_neg w1]
theorem s_mix83 {M : PM} (hH : hM M q P) {B : Nat → Bool} (hA : ndA M (nd P B (pH P))) {c0 : Nat} (hc : c0 < 1000) (h1 : 1 ≤ pH P) (a1 a2 a3 a4 : Int32) : f_X11_mix_83 a1 a2 a3 a4 FU (nI c0) (nI 0) (nI 1) M = some (if mxD P B c0 < 1000000 then (if a4 = 0 then nI (mxD P B c0 + 1) else if a4 = 1 then nI (mxh P B c0 (mxD P B c0)) else nI (mxs P B c0 (mxD P B c0 + 1))) else zI (-2), M) := by
  have hn := hH.1.1.2.1
  refine hr_for (σ := Nat) (fun f h x => f_X11_mix_83 a1 a2 a3 a4 f (nI c0) (nI x) (nI h) M) (pH P) (fun h x => x < h ∧ 1 ≤ h ∧ (∀ k, k < h → nd P B (pH P) (mxd P c0 x) ≤ nd P B (pH P) (mxd P c0 k)) ∧ ∀ k, k < x → nd P B (pH P) (mxd P c0 x) < nd P B (pH P) (mxd P c0 k)) (fun r => r = _) ?_ ?_ FU 1 0 h1 (FU_ok (by omega)) ⟨by omega, Nat.le_refl _, fun k hk => by rw [show k = 0 by omega]; exact Nat.le_refl _, fun k hk => by omega⟩
  · rintro f h x hh ⟨x1, x2, x3, x4⟩
    right
    have hy := mxd_lt P c0 h
    have hx := mxd_lt P c0 x
    have n1 := nd_le (P := P) (B := B) (n := pH P) (mxd P c0 h)
    have n2 := nd_le (P := P) (B := B) (n := pH P) (mxd P c0 x)
    show ∃ s', f_X11_mix_83 a1 a2 a3 a4 (f + 1) (nI c0) (nI x) (nI h) M = f_X11_mix_83 a1 a2 a3 a4 f (nI c0) (nI s') (nI (h + 1)) M ∧ _
    rw [f_X11_mix_83.eq_2, hH.2.1.2, if_neg (fun z => by have := (q_le (by omega) (by omega)).mp z; omega), s_mixed hH hc hh, q_bd_some, if_pos (q_in (by omega) (by omega)), s_mixed hH hc (show x < pH P by omega), q_bd_some, if_pos (q_in (by omega) (by omega)), q_cl (by omega), q_cl (by omega), hA _ hy, hA _ hx, q_lit 1, gO 1, q_add]
    by_cases z : nd P B (pH P) (mxd P c0 x) ≤ nd P B (pH P) (mxd P c0 h)
    · rw [if_pos ((q_le (by omega) (by omega)).mpr z)]
      refine ⟨x, rfl, by omega, by omega, fun k hk => ?_, x4⟩
      by_cases e : k = h
      · rw [e]; exact z
      · exact x3 k (by omega)
    · rw [if_neg (fun y => z ((q_le (by omega) (by omega)).mp y))]
      refine ⟨h, rfl, by omega, by omega, fun k hk => ?_, fun k hk => ?_⟩
      · by_cases e : k = h
        · rw [e]; exact Nat.le_refl _
        · have := x3 k (by omega); omega
      · have := x3 k hk; omega
  · rintro f x ⟨x1, x2, x3, x4⟩
    have hx := mxd_lt P c0 x
    have n2 := nd_le (P := P) (B := B) (n := pH P) (mxd P c0 x)
    have eD : mxD P B c0 = nd P B (pH P) (mxd P c0 x) := by
      have h2 := (lsN_le (b := 1000000) (f := fun h => nd P B (pH P) (mxd P c0 h)) (n := pH P)).2 x x1
      unfold mxD
      rcases lsN_is (b := 1000000) (f := fun h => nd P B (pH P) (mxd P c0 h)) (n := pH P) with h | ⟨k, k1, k2⟩
      · rw [h] at h2 ⊢; omega
      · have := x3 k k1
        omega
    show f_X11_mix_83 a1 a2 a3 a4 (f + 1) (nI c0) (nI x) (nI (pH P)) M = _
    rw [f_X11_mix_83.eq_2, hH.2.1.2, if_pos (Int32.le_refl _), s_mixed hH hc x1, q_bd_some, if_pos (q_in (by omega) (by omega)), q_cl (by omega), hA _ hx, q_lit 1, gO 1, q_add, q_lit 99, gO 99, ← eD, Nat.add_comm 1]
    by_cases hD : mxD P B c0 < 1000000
    · have hs := nd_small (P := P) (B := B) (n := pH P) (mxd P c0 x)
      rw [if_pos ((q_le (by omega) (by omega)).mpr (by omega)), if_pos hD]
      obtain ⟨o1, o2, o3⟩ := mxs_ok hn hc hD 0 (Nat.zero_le _)
      rw [Nat.sub_zero] at o1 o2 o3
      have o2' : nd P B (pH P) (mxd P c0 (mxh P B c0 (mxD P B c0))) = mxD P B c0 := o2
      have o3' : ∀ k, k < mxh P B c0 (mxD P B c0) → nd P B (pH P) (mxd P c0 k) ≠ mxD P B c0 := o3
      have ex : x = mxh P B c0 (mxD P B c0) := by
        rcases Nat.lt_trichotomy x (mxh P B c0 (mxD P B c0)) with y | y | y
        · exact absurd eD.symm (o3' x y)
        · exact y
        · have := x4 _ y; omega
      have e1 : mxd P c0 x = mxs P B c0 1 := by rw [ex]; rfl
      rw [e1, s_mix167 hH hA hc hD, ex]
      rfl
    · rw [if_neg (fun z => by have := (q_le (by omega) (by omega)).mp z; omega), if_neg hD]
      rfl
end MOD
theorem m_mix {M : PM} {T : Tol} (hT : mT M 0 T) (ok : tOK T) (p x s w : Int32) : hw (f_X11_mix p x s w M) (fun v _ => v = sp_mix T p x s w) := by
  unfold f_X11_mix sp_mix
  rw [show (0 : Int32) = nI 0 from rfl, show (1 : Int32) = nI 1 from rfl, show (2 : Int32) = nI 2 from rfl, s_inc _ w (by omega), q_bd_some]
  cases hw3 : ix w (2 + 1) with
  | none =>
    rw [if_pos (show bI (none : Option Nat).isSome = nI 0 from rfl)]
    refine hw.ok ?_
    rw [q_m2]
    cases ix p (tz T 0) with
    | none => rfl
    | some p =>
      dsimp only
      cases ix x (pH (tP T p)) <;> rfl
  | some w' =>
    rw [if_neg (show ¬ bI (some w').isSome = nI 0 from (by decide : ¬ nI 1 = nI 0))]
    refine hw.bd ((m_hand (hT.si (k := 0) (v := nI 0)) ok p).mono (fun v M' h => ?_))
    replace h := h.1
    cases hp : ix p (tz T 0) with
    | none =>
      rw [hp] at h
      rw [h.1]
      exact hw.ok rfl
    | some p =>
      rw [hp] at h
      obtain ⟨rfl, hH⟩ := h
      dsimp only
      have h10 := hH.1.1.2.1
      rw [if_neg (show ¬ nI 1 = nI 0 by decide), s_isHue hH, q_bd_some]
      cases hx : ix x (pH (tP T p)) with
      | none => exact hw.ok rfl
      | some h =>
        obtain ⟨rfl, lh, -⟩ := ix_some hx
        obtain ⟨rfl, lw, -⟩ := ix_some hw3
        have hc := clr_lt hH.1.1.2 h
        rw [if_neg (show ¬ bI (some h).isSome = nI 0 from (by decide : ¬ nI 1 = nI 0)), s_colourOf hH lh, q_bd_some, s_isBorneHue hH lh, q_bd_some]
        dsimp only
        unfold mixS
        by_cases z : foes (tP T p) h &&& memS (tP T p) s = 0
        · rw [decide_eq_true z, if_neg (show ¬ bI true = nI 0 by decide), if_pos z]
          by_cases w0 : nI w' = nI 0
          · rw [if_pos w0, if_pos w0]; exact hw.ok rfl
          · rw [if_neg w0, if_neg w0]
            by_cases w1 : nI w' = nI 1
            · rw [if_pos w1, if_pos w1]; exact hw.ok (by decide)
            · rw [if_neg w1, if_neg w1]; exact hw.ok rfl
        · rw [decide_eq_false z, if_pos (show bI false = nI 0 from rfl), if_neg z]
          obtain ⟨M1, g1, g2, g3⟩ := s_findNeeds hH s
          rw [g1, q_bd_some, s_mix83 g2 g3 hc (by omega)]
          exact hw.ok rfl
