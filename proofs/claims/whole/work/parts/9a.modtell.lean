/-! FITS: which two tell most, by the model; its answers -/
section MOD
variable {q : Nat} {P : Pal} {R : Rol} {k : Nat}
/-- a palette in hand, and those that may be marked -/
def hF (M : PM) (q : Nat) (P : Pal) (R : Rol) : Prop := hM M q P ∧ fitM M P R 1570
theorem hF.layC {M : PM} (h : hF M q P R) (n : Nat) : hF (layC M n) q P R := ⟨h.1.layC n, fun j hj => by rw [layC_ne _ _ (by omega)]; exact h.2 j hj⟩
theorem hF.o289 {M M' : PM} (h : hF M q P R) (ho : only289 M M') : hF M' q P R := ⟨ho.hnd h.1, fun j hj => by rw [ho.1 _ (by omega)]; exact h.2 j hj⟩
def lsF : Option Nat → Int32
  | none => nI 1000000
  | some v => nI v
theorem s_greN (M : PM) {x y : Nat} (hx : x < 2147483648) (hy : y < 2147483648) : f_X11_greater (nI x) (nI y) M = some (nI (max x y), M) := by
  unfold f_X11_greater
  by_cases h : x ≤ y
  · rw [if_pos ((q_le hx hy).mpr h), Nat.max_eq_right h]
  · rw [if_neg (fun z => h ((q_le hx hy).mp z)), Nat.max_eq_left (by omega)]
theorem s_tells42 {M : PM} (hF0 : hF M q P R) {c : Nat} (hc : c < 100) (hc1 : c / 10 < c % 10) (hc2 : c % 10 < pH P) (k8 : Int32 → Int32 → Int32 → PM → Option (Int32 × PM)) : ∃ M', f_X11_tells_42 k8 FU (ocI (amS (telF P R) c)) (lsF (lsO (telF P R) c)) (nI c) (nI 0) (nI 0) (nI 0) M = k8 (ocI (amS (telF P R) (c + 1))) (lsF (lsO (telF P R) (c + 1))) (nI (c + 1)) M' ∧ hF M' q P R := by
  have h10 := hF0.1.1.1.2.1
  refine hr_for (σ := PM) (fun f n N => f_X11_tells_42 k8 f (ocI (amS (telF P R) c)) (lsF (lsO (telF P R) c)) (nI c) (nI (cnt (fun n => fit P R n && cdH P n (c / 10) (c % 10)) n)) (nI (cnt (fun n => fit P R n && !cdH P n (c / 10) (c % 10)) n)) (nI n) N) 1570 (fun n N => hF N q P R) (fun r => ∃ M', r = k8 (ocI (amS (telF P R) (c + 1))) (lsF (lsO (telF P R) (c + 1))) (nI (c + 1)) M' ∧ hF M' q P R) ?_ ?_ FU 0 M (Nat.zero_le _) (FU_ok (by omega)) hF0
  · rintro f n N hn hF1
    right
    have ey : cnt (fun n => fit P R n && cdH P n (c / 10) (c % 10)) (n + 1) = cnt (fun n => fit P R n && cdH P n (c / 10) (c % 10)) n + (if (fit P R n && cdH P n (c / 10) (c % 10)) = true then 1 else 0) := rfl
    have en : cnt (fun n => fit P R n && !cdH P n (c / 10) (c % 10)) (n + 1) = cnt (fun n => fit P R n && !cdH P n (c / 10) (c % 10)) n + (if (fit P R n && !cdH P n (c / 10) (c % 10)) = true then 1 else 0) := rfl
    show ∃ s', f_X11_tells_42 k8 (f + 1) _ _ (nI c) _ _ (nI n) N = f_X11_tells_42 k8 f _ _ (nI c) (nI (cnt (fun n => fit P R n && cdH P n (c / 10) (c % 10)) (n + 1))) (nI (cnt (fun n => fit P R n && !cdH P n (c / 10) (c % 10)) (n + 1))) (nI (n + 1)) s' ∧ _
    rw [f_X11_tells_42.eq_2, q_lit 1570, gO 1570, if_neg (fun z => by have := (q_le (by omega) (by omega)).mp z; omega), if_pos (q_in (by omega) (by omega)), q_cl (by omega), hF1.2 n hn, ey, en]
    cases hf : fit P R n with
    | false =>
      rw [if_pos (show bI false = 0 from rfl), q_lit 1, gO 1, q_add]
      exact ⟨N, rfl, hF1⟩
    | true =>
      obtain ⟨v, N', g1, g2, g3⟩ := s_holdsOf (hF1.layC n).1 hn (layC_at N n) (show c / 10 < pH P by omega) hc2
      rw [if_neg (show ¬ bI true = 0 by decide), s_laySingle N hn, q_bd_some, q_lit 10, gO 10, q_div (by omega) (by omega) (by omega), q_rem (by omega) (by omega) (by omega), g1, q_bd_some, g2]
      refine ⟨N', ?_, (hF1.layC n).o289 g3⟩
      unfold f_X11_tells_92
      rw [show (0 : Int32) = nI 0 from rfl, show (1 : Int32) = nI 1 from rfl, q_add, q_add, q_add, q_add, q_add]
      cases cdH P n (c / 10) (c % 10) with
      | false => rw [if_pos (show bI false = nI 0 from rfl), if_pos (show bI false = nI 0 from rfl)]; rfl
      | true => rw [if_neg (show ¬ bI true = nI 0 by decide), if_neg (show ¬ bI true = nI 0 by decide)]; rfl
  · rintro f N hF1
    have hy := cnt_le (fun n => fit P R n && cdH P n (c / 10) (c % 10)) 1570
    have hn := cnt_le (fun n => fit P R n && !cdH P n (c / 10) (c % 10)) 1570
    have hsum : cnt (fit P R) 1570 = cnt (fun n => fit P R n && cdH P n (c / 10) (c % 10)) 1570 + cnt (fun n => fit P R n && !cdH P n (c / 10) (c % 10)) 1570 := cnt_sum (fun n _ => by cases fit P R n <;> cases cdH P n (c / 10) (c % 10) <;> rfl)
    have et : telF P R c = some (max (cnt (fun n => fit P R n && cdH P n (c / 10) (c % 10)) 1570) (cnt (fun n => fit P R n && !cdH P n (c / 10) (c % 10)) 1570)) := by
      unfold telF
      rw [if_pos ⟨hc1, hc2⟩]
      congr 2
      omega
    generalize cnt (fun n => fit P R n && cdH P n (c / 10) (c % 10)) 1570 = y at *
    generalize cnt (fun n => fit P R n && !cdH P n (c / 10) (c % 10)) 1570 = z at *
    show ∃ M', f_X11_tells_42 k8 (f + 1) _ _ (nI c) (nI y) (nI z) (nI 1570) N = _ ∧ _
    have e132 : ∀ x2 s0, x2 < 2147483648 → f_X11_tells_132 k8 (nI x2) (nI c) (nI y) (nI z) s0 N = k8 s0 (nI (min x2 (max y z))) (nI (c + 1)) N := by
      intro x2 s0 hx
      unfold f_X11_tells_132
      rw [s_greN N (by omega) (by omega), q_bd_some, s_lesN N hx (by omega), q_bd_some, q_lit 1, gO 1, q_add]
    rw [f_X11_tells_42.eq_2, q_lit 1570, gO 1570, if_pos (Int32.le_refl _), s_greN N (by omega) (by omega), q_bd_some]
    cases hq : lsO (telF P R) c with
    | none =>
      obtain ⟨n1, n2⟩ := am_new et (fun a ha => by rw [hq] at ha; cases ha)
      rw [n1, n2, show lsF none = nI 1000000 from rfl, if_neg (fun z => by have := (q_le (by omega) (by omega)).mp z; omega), e132 _ _ (by omega), Nat.min_eq_right (by omega)]
      exact ⟨N, rfl, hF1⟩
    | some w =>
      have hw2 : w ≤ 1570 := lsO_le (fun k b _ hb => telF_le P R k b hb) hq
      by_cases hw : w ≤ max y z
      · obtain ⟨n1, n2⟩ := am_old et hq hw
        rw [n1, n2, show lsF (some w) = nI w from rfl, if_pos ((q_le (by omega) (by omega)).mpr hw), e132 _ _ (by omega), Nat.min_eq_left hw]
        exact ⟨N, rfl, hF1⟩
      · obtain ⟨n1, n2⟩ := am_new et (fun a ha => by rw [hq] at ha; cases ha; omega)
        rw [n1, n2, show lsF (some w) = nI w from rfl, if_neg (fun z => by have := (q_le (by omega) (by omega)).mp z; omega), e132 _ _ (by omega), Nat.min_eq_right (by omega)]
        exact ⟨N, rfl, hF1⟩
theorem s_isCouple11 {M : PM} (hH : hM M q P) {c : Nat} (hc : c < 100) : f_X11_isCouple (nI c) M = some (bI (decide (c / 10 < pH P ∧ c % 10 < pH P)), M) := by
  have h10 := hH.1.1.2.1
  unfold f_X11_isCouple
  rw [show (0 : Int32) = nI 0 from rfl, q_lit 99, gO 99, s_inc _ _ (by omega), q_bd_some, ix_n (show c < 99 + 1 by omega) (by omega), if_neg (show ¬ bI (some c).isSome = nI 0 from (by decide : ¬ nI 1 = nI 0)), q_lit 10, gO 10, q_div (by omega) (by omega) (by omega), q_rem (by omega) (by omega) (by omega), s_isHue hH, q_bd_some]
  by_cases z1 : c / 10 < pH P
  · rw [ix_n z1 (by omega), if_neg (show ¬ bI (some (c / 10)).isSome = nI 0 from (by decide : ¬ nI 1 = nI 0)), s_isHue hH, q_bd_some]
    by_cases z2 : c % 10 < pH P
    · rw [ix_n z2 (by omega), if_neg (show ¬ bI (some (c % 10)).isSome = nI 0 from (by decide : ¬ nI 1 = nI 0)), decide_eq_true ⟨z1, z2⟩]
      rfl
    · rw [ix_big (by omega) (by omega), if_pos (show bI (none : Option Nat).isSome = nI 0 from rfl), decide_eq_false (fun y => z2 y.2)]
      rfl
  · rw [ix_big (by omega) (by omega), if_pos (show bI (none : Option Nat).isSome = nI 0 from rfl), decide_eq_false (fun y => z1 y.1)]
    rfl
theorem s_tells {M : PM} (hF0 : hF M q P R) : ∃ M', f_X11_tells M = some (ocI (telS P R), M') := by
  have h10 := hF0.1.1.1.2.1
  unfold f_X11_tells
  rw [show (-1 : Int32) = ocI (amS (telF P R) 0) from rfl, show (1000000 : Int32) = lsF (lsO (telF P R) 0) from rfl]
  refine hr_for (σ := PM) (fun f c N => f_X11_tells_8 f (ocI (amS (telF P R) c)) (lsF (lsO (telF P R) c)) (nI c) N) 100 (fun _ N => hF N q P R) (fun r => ∃ M', r = some (ocI (telS P R), M')) ?_ ?_ FU 0 M (Nat.zero_le _) (FU_ok (by omega)) hF0
  · rintro f c N hc hF1
    right
    have skip : telF P R c = none → f_X11_tells_8 f (ocI (amS (telF P R) c)) (lsF (lsO (telF P R) c)) (nI (c + 1)) N = f_X11_tells_8 f (ocI (amS (telF P R) (c + 1))) (lsF (lsO (telF P R) (c + 1))) (nI (c + 1)) N := fun h => by
      obtain ⟨n1, n2⟩ := am_skip h
      rw [n1, n2]
    show ∃ s', f_X11_tells_8 (f + 1) _ _ (nI c) N = f_X11_tells_8 f (ocI (amS (telF P R) (c + 1))) (lsF (lsO (telF P R) (c + 1))) (nI (c + 1)) s' ∧ _
    rw [f_X11_tells_8.eq_2, q_lit 100, gO 100, if_neg (fun z => by have := (q_le (by omega) (by omega)).mp z; omega), q_lit 10, gO 10, q_div (by omega) (by omega) (by omega), q_rem (by omega) (by omega) (by omega), q_lit 1, gO 1, q_add]
    by_cases z1 : c % 10 ≤ c / 10
    · rw [if_pos ((q_le (by omega) (by omega)).mpr z1)]
      exact ⟨N, skip (by unfold telF; rw [if_neg (by omega)]), hF1⟩
    · rw [if_neg (fun y => z1 ((q_le (by omega) (by omega)).mp y)), s_isCouple11 hF1.1 hc, q_bd_some]
      by_cases z2 : c / 10 < pH P ∧ c % 10 < pH P
      · rw [decide_eq_true z2, if_neg (show ¬ bI true = 0 by decide)]
        obtain ⟨M', g1, g2⟩ := s_tells42 hF1 hc (by omega) z2.2 (fun x1 x2 x3 M => f_X11_tells_8 f x1 x2 x3 M)
        exact ⟨M', g1, g2⟩
      · rw [decide_eq_false z2, if_pos (show bI false = 0 from rfl)]
        exact ⟨N, skip (by unfold telF; rw [if_neg (by omega)]), hF1⟩
  · rintro f N hF1
    show ∃ M', f_X11_tells_8 (f + 1) _ _ (nI 100) N = _
    rw [f_X11_tells_8.eq_2, q_lit 100, gO 100, if_pos (Int32.le_refl _)]
    exact ⟨N, rfl⟩
theorem ix_step {x : Int32} {c : Nat} (h : ¬ nI c = x) (hc : c < 2147483648) : ix x (c + 1) = ix x c := by
  rcases q_any x with h0 | ⟨j, h1, rfl⟩
  · rw [ix_neg h0, ix_neg h0]
  · by_cases z : j < c
    · rw [ix_n z (by omega), ix_n (show j < c + 1 by omega) (by omega)]
    · have hj : j ≠ c := fun y => h (by rw [y])
      rw [ix_big (by omega) h1, ix_big (by omega) h1]
/-- which one was found -/
noncomputable def fndI (P : Pal) (R : Rol) (x : Int32) (n : Nat) : Int32 := ocI ((ix x (cnt (fit P R) n)).map (pk (fit P R) 1570))
theorem s_fits26 {M : PM} (hF0 : hF M q P R) (a1 a2 x w : Int32) : hw (f_X11_fits_26 a1 a2 x w FU (nI 0) (zI (-1)) (nI 0) M) (fun v _ => v = fitS P R x w) := by
  have h0 : zI (-1) = fndI P R x 0 := by
    unfold fndI
    show _ = ocI ((ix x 0).map _)
    cases h : ix x 0 with
    | none => rfl
    | some j => have := (ix_some h).2.1; omega
  rw [h0]
  refine hr_for (σ := Unit) (fun f n _ => f_X11_fits_26 a1 a2 x w f (nI (cnt (fit P R) n)) (fndI P R x n) (nI n) M) 1570 (fun _ _ => True) (fun r => hw r (fun v _ => v = fitS P R x w)) ?_ ?_ FU 0 () (Nat.zero_le _) (FU_ok (by omega)) trivial
  · rintro f n _ hn _
    right
    refine ⟨(), ?_, trivial⟩
    have hcn := cnt_le (fit P R) n
    have ec : cnt (fit P R) (n + 1) = cnt (fit P R) n + (if fit P R n = true then 1 else 0) := rfl
    have e57 : ∀ x5 s0, f_X11_fits_57 a1 a2 x w (fun x5 x6 x7 M => f_X11_fits_26 a1 a2 x w f x5 x6 x7 M) (nI x5) (nI n) s0 M = f_X11_fits_26 a1 a2 x w f (nI (x5 + (if fit P R n = true then 1 else 0))) s0 (nI (n + 1)) M := by
      intro x5 s0
      unfold f_X11_fits_57
      rw [if_pos (q_in (by omega) (by omega)), q_cl (by omega), hF0.2 n hn, show (0 : Int32) = nI 0 from rfl, show (1 : Int32) = nI 1 from rfl, q_add, q_add, q_add]
      cases fit P R n with
      | false => rw [if_pos (show bI false = nI 0 from rfl)]; rfl
      | true => rw [if_neg (show ¬ bI true = nI 0 by decide)]; rfl
    show f_X11_fits_26 a1 a2 x w (f + 1) (nI (cnt (fit P R) n)) (fndI P R x n) (nI n) M = f_X11_fits_26 a1 a2 x w f (nI (cnt (fit P R) (n + 1))) (fndI P R x (n + 1)) (nI (n + 1)) M
    rw [f_X11_fits_26.eq_2, q_lit 1570, gO 1570, if_neg (fun z => by have := (q_le (by omega) (by omega)).mp z; omega), if_pos (q_in (by omega) (by omega)), q_cl (by omega), hF0.2 n hn, e57, e57, ec]
    cases hf : fit P R n with
    | false =>
      rw [if_pos (show bI false = 0 from rfl)]
      unfold fndI
      rw [ec, hf]
      rfl
    | true =>
      rw [if_neg (show ¬ bI true = 0 by decide)]
      by_cases z : nI (cnt (fit P R) n) = x
      · rw [if_pos z]
        unfold fndI
        rw [ec, hf, if_pos rfl, ← z, ix_n (by omega) (by omega), Option.map_some, (pk_ok (fit P R) 1570).2 n hn hf]
        rfl
      · rw [if_neg z]
        unfold fndI
        rw [ec, hf, if_pos rfl, ix_step z (by omega)]
  · rintro f _ _
    have hcn := cnt_le (fit P R) 1570
    show hw (f_X11_fits_26 a1 a2 x w (f + 1) (nI (cnt (fit P R) 1570)) (fndI P R x 1570) (nI 1570) M) _
    rw [f_X11_fits_26.eq_2, q_lit 1570, gO 1570, if_pos (Int32.le_refl _), show (-1 : Int32) = zI (-1) by decide, show (-2 : Int32) = zI (-2) by decide, show (0 : Int32) = nI 0 from rfl, show (1 : Int32) = nI 1 from rfl]
    unfold fitS
    by_cases k1 : x = zI (-1)
    · rw [if_pos k1, if_pos k1]
      by_cases w0 : w = nI 0
      · rw [if_pos w0, if_pos w0]; exact hw.ok rfl
      · rw [if_neg w0, if_neg w0]
        by_cases w1 : w = nI 1
        · obtain ⟨M', g1⟩ := s_tells hF0
          rw [if_pos w1, if_pos w1, g1, q_bd_some]
          exact hw.ok rfl
        · rw [if_neg w1, if_neg w1]
          exact hw.ok rfl
    · rw [if_neg k1, if_neg k1]
      unfold fndI
      cases hx : ix x (cnt (fit P R) 1570) with
      | none =>
        rw [if_pos (show ocI (Option.map (pk (fit P R) 1570) none) = zI (-1) from rfl)]
        exact hw.ok rfl
      | some j =>
        obtain ⟨-, lj, -⟩ := ix_some hx
        obtain ⟨p1, -, -⟩ := (pk_ok (fit P R) 1570).1 j lj
        have eo : ocI (Option.map (pk (fit P R) 1570) (some j)) = nI (pk (fit P R) 1570 j) := rfl
        rw [eo, if_neg (fun z => by have := (q_nzeq (by omega) (by omega)).mp z; omega), show (2 : Int32) = nI 2 from rfl, s_inc _ _ (by omega), q_bd_some]
        dsimp only
        obtain ⟨l1, l2, l3⟩ := layC_at M (pk (fit P R) 1570 j)
        cases hw3 : ix w (2 + 1) with
        | none =>
          rw [if_pos (show bI (none : Option Nat).isSome = nI 0 from rfl)]
          have nw : ∀ m, m < 3 → ¬ w = nI m := fun m hm z => by
            rw [z, ix_n (show m < 2 + 1 by omega) (by omega)] at hw3
            cases hw3
          rw [if_neg (nw 0 (by omega)), if_neg (nw 1 (by omega)), if_neg (nw 2 (by omega))]
          exact hw.ok rfl
        | some m =>
          obtain ⟨rfl, lm, -⟩ := ix_some hw3
          rw [if_neg (show ¬ bI (some m).isSome = nI 0 from (by decide : ¬ nI 1 = nI 0)), s_laySingle M p1, q_bd_some, l1, l2, l3]
          by_cases w0 : nI m = nI 0
          · rw [if_pos w0, if_pos w0]; exact hw.ok rfl
          · rw [if_neg w0, if_neg w0]
            by_cases w1 : nI m = nI 1
            · rw [if_pos w1, if_pos w1]; exact hw.ok rfl
            · rw [if_neg w1, if_neg w1]
              have : m = 2 := by
                have h0 : m ≠ 0 := fun z => w0 (by rw [z])
                have h1 : m ≠ 1 := fun z => w1 (by rw [z])
                omega
              rw [if_pos (by rw [this])]
              exact hw.ok rfl
end MOD
theorem m_fits {M : PM} {T : Tol} (hT : mT M 0 T) (ok : tOK T) (p s x w : Int32) : hw (f_X11_fits p s x w M) (fun v _ => v = sp_fits T p s x w) := by
  have hT0 : mT (hr_si M 275 0 (nI 0)) 0 T := hT.si (k := 0) (v := nI 0)
  unfold f_X11_fits sp_fits f_X11_layFits
  rw [show (0 : Int32) = nI 0 from rfl, show (-1 : Int32) = zI (-1) by decide, show (-2 : Int32) = zI (-2) by decide]
  obtain ⟨e1, e2⟩ := m_hasSight hT0 ok s
  rw [e1, q_bd_some]
  cases hs : ix s (tz T 3) with
  | none =>
    rw [if_pos (show bI (none : Option Nat).isSome = nI 0 from rfl), q_bd_some, if_pos rfl]
    refine hw.ok ?_
    cases ix p (tz T 0) <;> rfl
  | some s =>
    obtain ⟨rfl, h1, -⟩ := ix_some hs
    have hS := e2 s rfl h1
    rw [if_neg (show ¬ bI (some s).isSome = nI 0 from (by decide : ¬ nI 1 = nI 0))]
    refine hw.bd (hw.bd ((m_hand (hT0.si (k := 46) (v := nI s)) ok p).mono (fun v M' h => ?_)))
    obtain ⟨h, hf⟩ := h
    cases hp : ix p (tz T 0) with
    | none =>
      rw [hp] at h
      rw [h.1, if_pos rfl]
      exact hw.ok (by rw [if_pos rfl]; exact hw.ok rfl)
    | some q =>
      rw [hp] at h
      obtain ⟨rfl, hH⟩ := h
      dsimp only
      have hS' : gS M' s (tR T 3 s) := hS.at (hf.row 284 (fun _ => rfl)) (hf.at 275 46 rfl)
      obtain ⟨M1, g1, g2⟩ := s_layFits20 hH hS' p (nI s)
      rw [if_neg (show ¬ nI 1 = nI 0 by decide), g1]
      refine hw.ok ?_
      cases ht : tog (tP T q) (tR T 3 s) with
      | false =>
        rw [if_pos (show bI false = nI 0 from rfl), if_neg (by simp)]
        exact hw.ok rfl
      | true =>
        obtain ⟨g3, g4, g5⟩ := g2 ht
        rw [if_neg (show ¬ bI true = nI 0 by decide), if_pos rfl]
        exact s_fits26 ⟨g3, g5⟩ _ _ _ _
