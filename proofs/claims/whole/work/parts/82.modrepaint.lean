/-! REPAINTED, answered by the model -/
theorem am_step (f : Nat → Option Nat) (n : Nat) : amS f (n + 1) = match amS f n with
    | none => if (f n).isSome = true then some n else none
    | some j => match f n with
      | none => some j
      | some b => match f j with
        | none => some j
        | some a => if b < a then some n else some j := by
  cases h1 : lsO f n with
  | none =>
    have e0 : amS f n = none := by unfold amS; rw [h1]
    rw [e0]
    dsimp only
    have hno : ∀ k, k < n → f k = none := by
      have : ∀ m, lsO f m = none → ∀ k, k < m → f k = none := by
        intro m
        induction m with
        | zero => intro _ k hk; omega
        | succ m ihm =>
          intro hm k hk
          rw [lsO_s] at hm
          unfold mnO at hm
          cases h2 : lsO f m with
          | none =>
            rw [h2] at hm
            by_cases e : k = m
            · rw [e]; exact hm
            · exact ihm h2 k (by omega)
          | some c =>
            rw [h2] at hm
            dsimp only at hm
            split at hm
            · cases hm
            · split at hm <;> cases hm
      exact this n h1
    have e1 : lsO f (n + 1) = f n := by rw [lsO_s, h1]; rfl
    unfold amS
    rw [e1]
    cases h2 : f n with
    | none => rfl
    | some b =>
      dsimp only
      rw [fst1_hit (n := n) (fst1_nos (n := 0) rfl (Nat.zero_le _) (fun c _ hc => by rw [hno c hc]; simp)) (by rw [h2]; simp) (by omega)]
      rfl
  | some a =>
    obtain ⟨j, j1, j2, j3, j4⟩ := am_hit h1
    rw [j1]
    dsimp only
    cases h2 : f n with
    | none =>
      have e1 : lsO f (n + 1) = some a := by rw [lsO_s, h1, h2]; rfl
      unfold amS
      rw [e1]
      dsimp only
      show fst1 _ (n + 1) = some j
      unfold fst1
      rw [j2]
    | some b =>
      rw [j4]
      dsimp only
      by_cases hlt : b < a
      · have e1 : lsO f (n + 1) = some b := by rw [lsO_s, h1, h2]; unfold mnO; dsimp only; rw [if_pos hlt]
        rw [if_pos hlt]
        unfold amS
        rw [e1]
        dsimp only
        refine fst1_hit (n := n) (fst1_nos (n := 0) rfl (Nat.zero_le _) (fun c _ hc => ?_)) (by rw [h2]; simp) (by omega)
        cases hq : f c with
        | none => simp
        | some d =>
          have := (lsO_hit h1).2 c d hc hq
          simp
          omega
      · have e1 : lsO f (n + 1) = some a := by rw [lsO_s, h1, h2]; unfold mnO; dsimp only; rw [if_neg hlt]
        rw [if_neg hlt]
        unfold amS
        rw [e1]
        dsimp only
        show fst1 _ (n + 1) = some j
        unfold fst1
        rw [j2]
def lpS (P : Pal) (R : Rol) (i : Nat) : Int32 := if i = 0 then zI (-1) else nI (ptN P R (i - 1))
section MOD
variable {q g : Nat} {P : Pal} {R : Rol}
theorem s_painted44 {M : PM} (hg : gOK P R) (hm : mkF M P R 0) {i h : Nat} (hi : i < oN R) (hh : h < pH P) (a1 : Int32) (k4 : Int32 → Int32 → PM → Option (Int32 × PM)) (k15 : Int32 → Int32 → Int32 → Int32 → PM → Option (Int32 × PM)) (x2 : Int32) {w : Nat} : f_X11_paintedAt_44 a1 k4 k15 x2 (nI i) (ocI (amS (csW P R i w) h)) (nI h) (bI (!w.testBit h)) M = k15 x2 (nI i) (ocI (amS (csW P R i w) (h + 1))) (nI (h + 1)) M := by
  have hn := hg.1.2.1
  have h10 := hg.1.1.1
  have e8 := hm i (Nat.zero_le _) hi h hh
  have el : ∀ j a, cs P R (oN R - 1 - i) j = some a → a ≤ 2430 := fun j a hj => Nat.le_trans (cs_le hg (by omega) j a hj) (by omega)
  unfold f_X11_paintedAt_44
  rw [am_step]
  cases hb : w.testBit h with
  | true =>
    have ec : csW P R i w h = none := by unfold csW; rw [hb]; rfl
    rw [ec, if_pos (show bI (!true) = 0 from rfl), q_lit 1, gO, q_add]
    cases amS (csW P R i w) h <;> rfl
  | false =>
    have ec : csW P R i w h = cs P R (oN R - 1 - i) h := by unfold csW; rw [hb]; rfl
    rw [ec, if_neg (show ¬ bI (!false) = 0 by decide)]
    simp (disch := omega) only [q_lit, q_m1, q_m2, q_m1000, q_add, q_mul, q_cl, q_le, q_lt, q_eq, q_in, q_bd_some, eq_self, if_true, if_false, q_b0, q_b1, q_b01, q_bt, q_bf, q_ft, q_tf, Nat.mul_zero, Nat.add_zero, Nat.zero_add, or_true, true_or, not_true_eq_false, not_false_eq_true, reduceCtorEq, e8]
    cases hc : cs P R (oN R - 1 - i) h with
    | none =>
      rw [if_pos (show nI 1000000 ≤ fI none from Int32.le_refl _)]
      cases amS (csW P R i w) h <;> rfl
    | some c =>
      have c2 := el h c hc
      rw [if_neg (show ¬ nI 1000000 ≤ fI (some c) from fun z => by have := (q_le (a := 1000000) (b := c) (by omega) (by omega)).mp z; omega)]
      cases hj : amS (csW P R i w) h with
      | none =>
        rw [if_pos (show ocI none = zI (-1) from rfl)]
        rfl
      | some j =>
        dsimp only
        have hjo : ∃ a, csW P R i w j = some a ∧ j < h := by
          cases hl : lsO (csW P R i w) h with
          | none => unfold amS at hj; rw [hl] at hj; cases hj
          | some a =>
            obtain ⟨j', y1, -, y3, y4⟩ := am_hit hl
            rw [y1] at hj
            cases hj
            exact ⟨a, y4, y3⟩
        obtain ⟨a, ha, hjh⟩ := hjo
        rw [ha]
        have ea : cs P R (oN R - 1 - i) j = some a := by
          unfold csW at ha
          split at ha
          · cases ha
          · exact ha
        have a2 := el j a ea
        have e9 := hm i (Nat.zero_le _) hi j (by omega)
        rw [ea] at e9
        rw [if_neg (show ¬ ocI (some j) = zI (-1) from fun z => by have := (q_nzeq (a := j) (by omega) (by omega)).mp z; omega)]
        rw [show ocI (some j) = nI j from rfl]
        simp (disch := omega) only [q_lit, q_m1, q_m2, q_m1000, q_add, q_mul, q_cl, q_le, q_lt, q_eq, q_in, q_bd_some, eq_self, if_true, if_false, q_b0, q_b1, q_b01, q_bt, q_bf, q_ft, q_tf, Nat.mul_zero, Nat.add_zero, Nat.zero_add, or_true, true_or, not_true_eq_false, not_false_eq_true, reduceCtorEq, e9]
        by_cases hlt : c < a
        · rw [if_neg (show ¬ fI (some a) ≤ fI (some c) from fun z => by have := (q_le (a := a) (b := c) (by omega) (by omega)).mp z; omega), if_pos hlt]
          rfl
        · rw [if_pos (show fI (some a) ≤ fI (some c) from (q_le (a := a) (b := c) (by omega) (by omega)).mpr (by omega)), if_neg hlt]
          rfl
theorem s_paintedAt {M : PM} (hH : hM M q P) (hg : gOK P R) (hm : mkF M P R 0) {c : Nat} (ht : totC P R = some c) {k : Nat} (hk : k < oN R) : f_X11_paintedAt (nI k) M = some (nI (ptN P R k), M) := by
  have hn := hg.1.2.1
  have h10 := hg.1.1.1
  unfold f_X11_paintedAt
  rw [show (-1 : Int32) = zI (-1) by decide]
  refine hr_for (σ := Int32) (fun f i x => f_X11_paintedAt_4 (nI k) f x (nI i) M) (k + 1) (fun i x => x = lpS P R i) (fun r => r = some (nI (ptN P R k), M)) ?_ ?_ FU 0 (zI (-1)) (Nat.zero_le _) (FU_ok (by omega)) rfl
  · rintro f i x hi rfl
    right
    have hin : i < oN R := by omega
    obtain ⟨o1, o2, o3, o4, o5⟩ := pt_ok ht i hin
    have oam : amS (csW P R i (ptW P R i)) (pH P) = some (ptN P R i) := by
      unfold amS
      rw [o1]
      exact o2
    refine ⟨_, ?_, rfl⟩
    show f_X11_paintedAt_4 (nI k) (f + 1) _ (nI i) M = _
    rw [f_X11_paintedAt_4.eq_2]
    simp (disch := omega) only [q_lit, q_m1, q_m2, q_m1000, q_add, q_mul, q_cl, q_le, q_lt, q_eq, q_in, q_bd_some, eq_self, if_true, if_false, q_b0, q_b1, q_b01, q_bt, q_bf, q_ft, q_tf, Nat.mul_zero, Nat.add_zero, Nat.zero_add, or_true, true_or, not_true_eq_false, not_false_eq_true, reduceCtorEq, show ¬ k < i by omega]
    refine hr_for (σ := Int32) (fun f' h x => f_X11_paintedAt_15 (nI k) (fun x2 x3 M => f_X11_paintedAt_4 (nI k) f x2 x3 M) f' (lpS P R i) (nI i) x (nI h) M) (pH P) (fun h x => x = ocI (amS (csW P R i (ptW P R i)) h)) (fun r => r = f_X11_paintedAt_4 (nI k) f (lpS P R (i + 1)) (nI (i + 1)) M) ?_ ?_ FU 0 (zI (-1)) (Nat.zero_le _) (FU_ok (by omega)) rfl
    · rintro f' h x hh rfl
      right
      refine ⟨_, ?_, rfl⟩
      have e44 := s_painted44 hg hm hin hh (nI k) (fun x2 x3 M => f_X11_paintedAt_4 (nI k) f x2 x3 M) (fun x2 x3 x4 x5 M => f_X11_paintedAt_15 (nI k) (fun x2 x3 M => f_X11_paintedAt_4 (nI k) f x2 x3 M) f' x2 x3 x4 x5 M) (lpS P R i) (w := ptW P R i)
      show f_X11_paintedAt_15 (nI k) _ (f' + 1) (lpS P R i) (nI i) _ (nI h) M = _
      rw [f_X11_paintedAt_15.eq_2, hH.2.1.2, if_neg (show ¬ nI (pH P) ≤ nI h from fun z => by have := (q_le (by omega) (by omega)).mp z; omega)]
      by_cases hi0 : i = 0
      · have el : lpS P R i = zI (-1) := by unfold lpS; rw [if_pos hi0]
        have ew : (ptW P R i).testBit h = false := by rw [hi0]; exact Nat.zero_testBit h
        rw [ew] at e44
        rw [if_pos (show lpS P R i = -1 by rw [el]; decide)]
        exact e44
      · have el : lpS P R i = nI (ptN P R (i - 1)) := by unfold lpS; rw [if_neg hi0]
        have lo := (pt_ok ht (i - 1) (by omega)).2.2.1
        have ew : (ptW P R i).testBit h = foe P (ptN P R (i - 1)) h := by
          have e : ptW P R i = foes P (ptN P R (i - 1)) := by
            obtain ⟨i', rfl⟩ : ∃ i', i = i' + 1 := ⟨i - 1, by omega⟩
            rfl
          rw [e, foes, bset_bit, decide_eq_true hh, Bool.true_and]
        rw [if_neg (show ¬ lpS P R i = -1 from fun z => by
          rw [el, show (-1 : Int32) = zI (-1) by decide] at z
          have := (q_nzeq (by omega) (by omega)).mp z
          omega)]
        have ecl : f_X11_clash (lpS P R i) (nI h) M = some (bI (foe P (ptN P R (i - 1)) h), M) := by rw [el]; exact s_clash hH lo hh
        rw [ecl, q_bd_some]
        rw [ew] at e44
        cases hf : foe P (ptN P R (i - 1)) h with
        | false =>
          rw [hf] at e44
          rw [if_pos (show bI false = 0 from rfl)]
          exact e44
        | true =>
          rw [hf] at e44
          rw [if_neg (show ¬ bI true = 0 by decide)]
          exact e44
    · rintro f' x rfl
      show f_X11_paintedAt_15 (nI k) _ (f' + 1) (lpS P R i) (nI i) _ (nI (pH P)) M = _
      rw [f_X11_paintedAt_15.eq_2]
      simp (disch := omega) only [q_lit, q_m1, q_m2, q_m1000, q_add, q_mul, q_cl, q_le, q_lt, q_eq, q_in, q_bd_some, eq_self, if_true, if_false, q_b0, q_b1, q_b01, q_bt, q_bf, q_ft, q_tf, Nat.mul_zero, Nat.add_zero, Nat.zero_add, or_true, true_or, not_true_eq_false, not_false_eq_true, reduceCtorEq, hH.2.1.2, Nat.le_refl]
      rw [oam]
      rfl
  · rintro f x rfl
    show f_X11_paintedAt_4 (nI k) (f + 1) _ (nI (k + 1)) M = _
    rw [f_X11_paintedAt_4.eq_2]
    simp (disch := omega) only [q_lit, q_m1, q_m2, q_m1000, q_add, q_mul, q_cl, q_le, q_lt, q_eq, q_in, q_bd_some, eq_self, if_true, if_false, q_b0, q_b1, q_b01, q_bt, q_bf, q_ft, q_tf, Nat.mul_zero, Nat.add_zero, Nat.zero_add, or_true, true_or, not_true_eq_false, not_false_eq_true, reduceCtorEq, show k < k + 1 by omega]
    rfl
theorem s_repainted36 {M0 : PM} (hB : mB M0 q P g R) (hg : gOK P R) (a1 a2 w : Int32) (hw2 : w = 0 ∨ ∃ m, 10 ≤ m ∧ m < 10 + oN R ∧ w = nI m) : hw (f_X11_repainted_36 a1 a2 w M0) (fun v _ => v = rpS P R w) := by
  have hn := hg.1.2.1
  have h10 := hg.1.1.1
  unfold f_X11_repainted_36
  obtain ⟨M, g1, g2, g3, g4⟩ := s_findPaint hB hg
  have hBM := hB.w298 g4
  rw [g1, q_bd_some, s_pictures hBM.2, q_bd_some]
  have fin : ∀ f, hw (f_X11_repainted_59 a1 a2 w (f + 1) (fI (totC P R)) (nI (pH P)) M) (fun v _ => v = rpS P R w) := by
    intro f
    rw [f_X11_repainted_59.eq_2]
    have ht2 : ∀ a, totC P R = some a → a ≤ 2430 := by
      intro a ha
      by_cases hn0 : oN R = 0
      · unfold totC at ha; rw [if_pos hn0] at ha; cases ha; omega
      · have h1 := (pt_ok ha 0 (by omega)).1
        have h2 := ha
        unfold totC at h2
        rw [if_neg hn0] at h2
        have : lsO (csW P R 0 (ptW P R 0)) (pH P) = some a := h2
        rw [this] at h1
        cases h1
        exact due_le hg ha 0
    have hlt := fI_lt ht2
    rw [hBM.1.2.1.2, if_pos (Int32.le_refl _), show (1000000 : Int32) = nI 1000000 from rfl]
    simp only [hlt]
    unfold rpS
    cases hq : totC P R with
    | none =>
      rw [if_neg (by simp)]
      exact hw.ok (show (-1 : Int32) = zI (-1) by decide)
    | some c =>
      rw [if_pos (by simp)]
      dsimp only
      by_cases w0 : w = 0
      · rw [if_pos w0, if_pos w0]; exact hw.ok rfl
      · rw [if_neg w0, if_neg w0]
        rcases hw2 with h | ⟨m, m1, m2, rfl⟩
        · exact absurd h w0
        · rw [q_lit 10, gO, q_sub m1, s_paintedAt hBM.1 hg g2 hq (show m - 10 < oN R by omega), q_bd_some]
          refine hw.ok ?_
          rw [if_neg (fun z => by have := (q_lt (by omega) (by omega)).mp z; omega), q_cl (by omega), if_pos (by omega)]
  by_cases hn0 : oN R = 0
  · have et : totC P R = some 0 := by unfold totC; rw [if_pos hn0]
    rw [if_pos (show nI (oN R) = 0 by rw [hn0]; rfl)]
    refine hr_for (σ := Unit) (fun f h _ => f_X11_repainted_59 a1 a2 w f (nI 0) (nI h) M) (pH P) (fun _ _ => True) (fun r => hw r (fun v _ => v = rpS P R w)) ?_ ?_ FU 0 () (Nat.zero_le _) (FU_ok (by omega)) trivial
    · intro f h _ hh _
      right
      refine ⟨(), ?_, trivial⟩
      show f_X11_repainted_59 a1 a2 w (f + 1) (nI 0) (nI h) M = _
      rw [f_X11_repainted_59.eq_2]
      have sl := s_lesser M (x := some 0) (y := some 0) (by intro a ha; cases ha; omega) (by intro a ha; cases ha; omega)
      have sl2 : f_X11_lesser (nI 0) (nI 0) M = some (nI 0, M) := sl
      simp (disch := omega) only [q_lit, q_m1, q_m2, q_m1000, q_add, q_mul, q_cl, q_le, q_lt, q_eq, q_in, q_bd_some, eq_self, if_true, if_false, q_b0, q_b1, q_b01, q_bt, q_bf, q_ft, q_tf, Nat.mul_zero, Nat.add_zero, Nat.zero_add, or_true, true_or, not_true_eq_false, not_false_eq_true, reduceCtorEq, hBM.1.2.1.2, show ¬ pH P ≤ h by omega, g3 hn0 h (by omega), sl2]
    · intro f _ _
      have := fin f
      rw [et] at this
      exact this
  · have et : totC P R = lsO (csW P R 0 0) (pH P) := by unfold totC; rw [if_neg hn0]
    rw [if_neg (show ¬ nI (oN R) = 0 from fun z => hn0 ((q_eq (b := 0) (by omega) (by omega)).mp z))]
    have ec : ∀ h, csW P R 0 0 h = cs P R (oN R - 1 - 0) h := fun h => by unfold csW; rw [Nat.zero_testBit]; rfl
    have el : ∀ h a, csW P R 0 0 h = some a → a ≤ 2430 := fun h a ha => Nat.le_trans (cs_le hg (show oN R - 1 - 0 < oN R by omega) h a (by rw [← ec]; exact ha)) (by omega)
    have ela : ∀ m a, lsO (csW P R 0 0) m = some a → a ≤ 2430 := fun m a ha => lsO_le (b := 2430) (fun j c _ hj => el j c hj) ha
    refine hr_for (σ := Int32) (fun f h x => f_X11_repainted_59 a1 a2 w f x (nI h) M) (pH P) (fun h x => x = fI (lsO (csW P R 0 0) h)) (fun r => hw r (fun v _ => v = rpS P R w)) ?_ ?_ FU 0 _ (Nat.zero_le _) (FU_ok (by omega)) rfl
    · rintro f h x hh rfl
      right
      refine ⟨_, ?_, rfl⟩
      have e8 := g2 0 (Nat.le_refl _) (by omega) h hh
      rw [Nat.mul_zero, Nat.zero_add, ← ec] at e8
      show f_X11_repainted_59 a1 a2 w (f + 1) _ (nI h) M = _
      rw [f_X11_repainted_59.eq_2, lsO_s]
      simp (disch := omega) only [q_lit, q_m1, q_m2, q_m1000, q_add, q_mul, q_cl, q_le, q_lt, q_eq, q_in, q_bd_some, eq_self, if_true, if_false, q_b0, q_b1, q_b01, q_bt, q_bf, q_ft, q_tf, Nat.mul_zero, Nat.add_zero, Nat.zero_add, or_true, true_or, not_true_eq_false, not_false_eq_true, reduceCtorEq, hBM.1.2.1.2, show ¬ pH P ≤ h by omega, e8]
      rw [s_lesser M (ela h) (el h), q_bd_some]
    · rintro f x rfl
      rw [← et]
      exact fin f
end MOD
section MOD2
variable {M : PM} {T : Tol}
theorem m_repainted (hT : mT M 0 T) (ok : tOK T) (p g w : Int32) : hw (f_X11_repainted p g w M) (fun v _ => v = sp_repainted T p g w) := by
  unfold f_X11_repainted sp_repainted
  refine hw.bd ((m_layGallery (hT.si (k := 0) (v := 0)) ok p g).mono (fun v M' h => ?_))
  obtain ⟨h, hf⟩ := h
  cases hg : ix g (tz T 1) with
  | none =>
    rw [hg] at h
    dsimp only at h
    rw [h]
    cases ix p (tz T 0) <;> exact hw.ok rfl
  | some g =>
    cases hp : ix p (tz T 0) with
    | none =>
      rw [hg, hp] at h
      dsimp only at h
      rw [h]
      exact hw.ok rfl
    | some p =>
      rw [hg, hp] at h
      dsimp only at h ⊢
      obtain ⟨rfl, hH, hG⟩ := h
      cases ht : tog (tP T p) (tR T 1 g) with
      | false => exact hw.ok rfl
      | true =>
        have hgk := gOK.of hH.1.1.2 hG.1.2 ht
        have hn := hgk.1.2.1
        rw [if_neg (show ¬ bI true = 0 by decide), if_pos rfl]
        by_cases w0 : w = 0
        · rw [if_pos w0]
          exact s_repainted36 ⟨hH, hG⟩ hgk _ _ _ (Or.inl w0)
        · rw [if_neg w0, s_pictures hG, q_bd_some, q_lit 9, gO, q_add, q_lit 10, gO, s_inab _ _ (by omega) (by omega), q_bd_some]
          rcases q_any w with h0 | ⟨m, h1, rfl⟩
          · rw [decide_eq_false (fun z => z.1 h0), if_pos (show bI false = 0 from rfl)]
            refine hw.ok ?_
            unfold rpS
            cases totC (tP T p) (tR T 1 g) with
            | none => exact (show (-1 : Int32) = zI (-1) by decide)
            | some c =>
              dsimp only
              rw [if_neg w0, if_pos (q_neg_lt h0 (by omega))]
              decide
          · rw [q_cl h1]
            by_cases hm : 10 ≤ m ∧ m ≤ 9 + oN (tR T 1 g)
            · rw [decide_eq_true ⟨nI_pos h1, hm⟩, if_neg (show ¬ bI true = 0 by decide)]
              exact s_repainted36 ⟨hH, hG⟩ hgk _ _ _ (Or.inr ⟨m, hm.1, by omega, rfl⟩)
            · rw [decide_eq_false (fun z => hm z.2), if_pos (show bI false = 0 from rfl)]
              refine hw.ok ?_
              unfold rpS
              cases totC (tP T p) (tR T 1 g) with
              | none => exact (show (-1 : Int32) = zI (-1) by decide)
              | some c =>
                dsimp only
                rw [if_neg w0]
                by_cases hm1 : m < 10
                · rw [if_pos ((q_lt (by omega) (by omega)).mpr hm1)]
                  decide
                · rw [if_neg (fun z => hm1 ((q_lt (by omega) (by omega)).mp z)), q_cl h1, if_neg (by omega)]
                  decide
end MOD2
