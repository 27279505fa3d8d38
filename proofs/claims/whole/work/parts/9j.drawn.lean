/-! DINNERS: drawn, answered on both sides -/
theorem c_drawn {M : PM} {T : Tol} (hT : rT M 1 T) (ok : tOK T) (p g x n w : Int32) : hw (f_X10_drawn p g x n w M) (fun v _ => v = sp_drawn T p g x n w) := by
  have hz := ok.2.2.1
  have z0 := hz 0 (by omega)
  have z4 := hz 4 (by omega)
  unfold f_X10_drawn sp_drawn
  rw [s_paletteAt hT z0, q_bd_some, show (4 : Int32) = nI 4 from rfl, show (-1 : Int32) = zI (-1) by decide]
  cases hp : ix p (tz T 0) with
  | none =>
    dsimp only
    rw [s_rollAt hT (by omega) (by omega) z4, q_bd_some]
    cases hg : ix g (tz T 4) with
    | none => exact hw.ok rfl
    | some g =>
      dsimp only
      obtain ⟨rfl, lg, -⟩ := ix_some hg
      have hR := hT.rol (s := 4) (by omega) (by omega) lg
      rw [if_pos hR.1, g_nr hR.1, q_bd_some, if_pos (show nI 0 = 0 from rfl)]
      exact hw.ok rfl
  | some p =>
    dsimp only
    obtain ⟨rfl, lp, -⟩ := ix_some hp
    have hP := hT.pal (show p < 2 by omega)
    rw [if_pos hP.1.1, s_rollAt hT (by omega) (by omega) z4, q_bd_some]
    cases hg : ix g (tz T 4) with
    | none =>
      dsimp only
      rw [g_rn hP.1.1, q_bd_some, if_pos (show nI 0 = 0 from rfl)]
      exact hw.ok rfl
    | some g =>
      dsimp only
      obtain ⟨rfl, lg, -⟩ := ix_some hg
      have hR := hT.rol (s := 4) (by omega) (by omega) lg
      have oR := ok.2.2.2.2 4 g (by omega) (by omega) lg
      rw [if_pos hR.1, s_goTogether hP hR (oS_lt (Or.inr (Or.inr rfl)) oR), q_bd_some]
      cases ht : tog (tP T p) (tR T 4 g) with
      | false =>
        rw [if_pos (show bI false = 0 from rfl)]
        refine hw.ok ?_
        cases ix n 41 with
        | none => rfl
        | some n => dsimp only; rw [ht, if_neg (show ¬ false = true by simp)]
      | true =>
        rw [if_neg (show ¬ bI true = 0 by decide)]
        cases hn : ix n 41 with
        | none =>
          rcases ix_none hn (by omega) with h0 | ⟨j, h1, rfl, h2⟩
          · rw [if_pos h0]; exact hw.ok rfl
          · rw [if_neg (nI_pos h1), q_lit 40, gO 40, if_neg (fun z => by have := (q_le (by omega) (by omega)).mp z; omega)]
            exact hw.ok rfl
        | some n =>
          obtain ⟨rfl, ln, -⟩ := ix_some hn
          obtain ⟨M1, g1, g2, g3⟩ := s_dine hP (by omega) hR (by omega) (nOK.of hP.1.2 oR ht) x (n := n) (by omega)
          rw [if_neg (nI_pos (by omega)), q_lit 40, gO 40, if_pos ((q_le (by omega) (by omega)).mpr (by omega)), show (0 : Int32) = nI 0 from rfl, show (1 : Int32) = nI 1 from rfl]
          dsimp only
          unfold f_X10_drawn_58
          rw [ht, if_pos rfl, g1, q_bd_some, show (0 : Int32) = nI 0 from rfl, g2, g3]
          by_cases w0 : w = nI 0
          · rw [if_pos w0, if_pos w0, if_pos w0]; exact hw.ok rfl
          · rw [if_neg w0, if_neg w0]
            by_cases w1 : w = nI 1
            · rw [if_pos w1, if_pos w1, if_neg w0]; exact hw.ok rfl
            · rw [if_neg w1, if_neg w0, if_neg w1]; exact hw.ok rfl
section MOD
variable {q g : Nat} {P : Pal} {R : Rol}
theorem s_draw (N : PM) {n : Nat} (h1 : 1 ≤ n) (hn : n ≤ 10) : f_X11_draw (nI n) N = some (nI (uS (nxS (N.1 275 53)) % n), hr_si N 275 53 (nxS (N.1 275 53))) := by
  have ul := uS_lt (nxS (N.1 275 53))
  have e1 : (hr_si N 275 53 (nxS (N.1 275 53))).1 275 53 = nxS (N.1 275 53) := by rw [si_same, if_pos rfl]
  have e2 : f_X11_draw (nI n) N = if ¬ nI n = 0 then some (jr (ju ((hr_si N 275 53 (nxS (N.1 275 53))).1 275 53) 16) (nI n), hr_si N 275 53 (nxS (N.1 275 53))) else none := rfl
  rw [e2, e1, if_pos (show ¬ nI n = 0 from fun z => by have := (q_eq (b := 0) (by omega) (by omega)).mp z; omega), ju_16, q_rem (by omega) (by omega) (by omega)]
theorem s_picked11 (K : PM) {s r : Nat} (hs : s < 1024) (hr : r < popc s) : f_X11_picked_11 (nI s) FU (nI r) (nI 0) K = some (nI (nth s r), K) := by
  have pl := popc_le s
  obtain ⟨n1, n2, n3, n4⟩ := nth_ok hr
  have c0 : cnt (fun i => s.testBit i) 0 = 0 := rfl
  refine hr_for (σ := Nat) (fun f h y => f_X11_picked_11 (nI s) f (nI y) (nI h) K) (nth s r) (fun h y => y + cnt (fun i => s.testBit i) h = r) (fun x => x = some (nI (nth s r), K)) ?_ ?_ FU 0 r (Nat.zero_le _) (FU_ok (by omega)) (by rw [c0]; exact Nat.add_zero r)
  · intro f h y hh hy
    right
    have c1 := cnt_upto (fun i => s.testBit i) (show h + 1 ≤ nth s r by omega)
    have c2 : cnt (fun i => s.testBit i) (h + 1) = cnt (fun i => s.testBit i) h + (if s.testBit h = true then 1 else 0) := rfl
    have e23 : ∀ b, s.testBit h = b → f_X11_picked_23 (nI s) (fun x2 x3 M => f_X11_picked_11 (nI s) f x2 x3 M) (nI y) (nI h) K = f_X11_picked_11 (nI s) f (nI y - (if b then nI 1 else nI 0)) (nI (h + 1)) K := by
      intro b hb
      unfold f_X11_picked_23
      rw [s_has11 K (by omega) (by omega), q_bd_some, show (0 : Int32) = nI 0 from rfl, show (1 : Int32) = nI 1 from rfl, q_add, hb]
      cases b with
      | false => rw [if_pos (show bI false = nI 0 from rfl), if_neg (show ¬ false = true by simp)]
      | true => rw [if_neg (show ¬ bI true = nI 0 by decide), if_pos rfl]
    show ∃ y', f_X11_picked_11 (nI s) (f + 1) (nI y) (nI h) K = f_X11_picked_11 (nI s) f (nI y') (nI (h + 1)) K ∧ y' + cnt (fun i => s.testBit i) (h + 1) = r
    rw [f_X11_picked_11.eq_2]
    cases hb : s.testBit h with
    | false =>
      rw [hb, if_neg (show ¬ false = true by simp), Nat.add_zero] at c2
      have e := e23 false hb
      rw [if_neg (show ¬ false = true by simp), q_sub (Nat.zero_le _), Nat.sub_zero] at e
      refine ⟨y, ?_, by rw [c2]; exact hy⟩
      by_cases z : 0 < y
      · rw [if_pos (show (0 : Int32) < nI y from (q_lt (a := 0) (by omega) (by omega)).mpr z), e]
      · rw [if_neg (show ¬ (0 : Int32) < nI y from fun w => z ((q_lt (a := 0) (by omega) (by omega)).mp w)), s_has11 K (by omega) (by omega), q_bd_some, hb, if_pos (show bI false = 0 from rfl), e]
    | true =>
      rw [hb, if_pos rfl] at c2
      have e := e23 true hb
      rw [if_pos rfl] at e
      have hy0 : 0 < y := by
        rcases Nat.eq_zero_or_pos y with z | z
        · exfalso
          have := n4 h (by omega) hb (by omega)
          omega
        · exact z
      rw [q_sub (by omega)] at e
      refine ⟨y - 1, ?_, by omega⟩
      rw [if_pos (show (0 : Int32) < nI y from (q_lt (a := 0) (by omega) (by omega)).mpr hy0), e]
  · intro f y hy
    have y0 : y = 0 := by omega
    subst y0
    show f_X11_picked_11 (nI s) (f + 1) (nI 0) (nI (nth s r)) K = _
    rw [f_X11_picked_11.eq_2, if_neg (show ¬ (0 : Int32) < nI 0 by decide), s_has11 K (by omega) (by omega), q_bd_some, n2, if_neg (show ¬ bI true = 0 by decide)]
theorem s_picked {N : PM} {s : Nat} (hs : s < 1024) (h1 : 1 ≤ s) : f_X11_picked (nI s) N = some (nI (nth s (uS (nxS (N.1 275 53)) % popc s)), hr_si N 275 53 (nxS (N.1 275 53))) := by
  have hp := popc_pos hs h1
  have pl := popc_le s
  have hr := Nat.mod_lt (uS (nxS (N.1 275 53))) (show popc s > 0 by omega)
  unfold f_X11_picked
  rw [s_ones N (by omega), q_bd_some, s_draw N hp pl, q_bd_some]
  exact s_picked11 _ hs hr
theorem s_evening37 {N : PM} (hH : hM N q P) (hO : nOK P R) {x : Int32} (hd : drwM N 303 R x (oN R)) : f_X11_evening_37 FU (nI (oN R)) (nI 0) (nI 0) N = some (nI (rowX P R x), N) := by
  have h8 : oN R ≤ 8 := hO.2.1.1
  have h10 := hO.1.1
  refine hr_for (σ := Unit) (fun f i _ => f_X11_evening_37 f (nI (oN R)) (nI (sumN (fun k => strH P (dHue R x k) (dHue R x (k + 1))) i)) (nI i) N) (oN R - 1) (fun _ _ => True) (fun r => r = some (nI (rowX P R x), N)) ?_ ?_ FU 0 () (Nat.zero_le _) (FU_ok (by omega)) trivial
  · intro f i _ hi _
    right
    refine ⟨(), ?_, trivial⟩
    have o1 := (dHue_ok hO x (show i < oN R by omega)).1
    have o2 := (dHue_ok hO x (show i + 1 < oN R by omega)).1
    show f_X11_evening_37 (f + 1) (nI (oN R)) (nI (sumN _ i)) (nI i) N = f_X11_evening_37 f (nI (oN R)) (nI (sumN _ i + strH P (dHue R x i) (dHue R x (i + 1)))) (nI (i + 1)) N
    rw [f_X11_evening_37.eq_2, q_lit 1, gO 1, q_add, if_neg (fun z => by have := (q_le (by omega) (by omega)).mp z; omega), if_pos (q_in (by omega) (by omega)), if_pos (q_in (by omega) (by omega)), q_cl (by omega), q_cl (by omega), hd i (by omega), hd (i + 1) (by omega), q_lit 10, gO 10, q_mul, q_add, if_pos (q_in (by omega) (by omega)), q_cl (by omega), hH.2.2 _ _ o1 o2, q_add]
  · intro f _ _
    show f_X11_evening_37 (f + 1) (nI (oN R)) (nI (sumN _ (oN R - 1))) (nI (oN R - 1)) N = _
    rw [f_X11_evening_37.eq_2, q_lit 1, gO 1, q_add, if_pos ((q_le (by omega) (by omega)).mpr (by omega))]
    unfold rowX
    by_cases z : 2 < oN R
    · have o1 := (dHue_ok hO x (show oN R - 1 < oN R by omega)).1
      have o2 := (dHue_ok hO x (show 0 < oN R by omega)).1
      rw [if_pos (show (3 : Int32) ≤ nI (oN R) from (q_le (a := 3) (by omega) (by omega)).mpr (by omega)), q_sub (by omega), if_pos (q_in (by omega) (by omega)), if_pos (show inB 0 8 = true from q_in (i := 0) (by omega) (by omega)), show (0 : Int32).toNatClampNeg = 0 from rfl, q_cl (by omega), hd (oN R - 1) (by omega), hd 0 (by omega), q_lit 10, gO 10, q_mul, q_add, if_pos (q_in (by omega) (by omega)), q_cl (by omega), hH.2.2 _ _ o1 o2, q_add, if_pos z]
    · rw [if_neg (show ¬ (3 : Int32) ≤ nI (oN R) from fun y => by have := (q_le (a := 3) (by omega) (by omega)).mp y; omega), if_neg z, Nat.add_zero]
theorem s_evening {M : PM} (hH : hM M q P) (hN : gN M g R) (hO : nOK P R) {x : Int32} (hx : M.1 275 53 = x) : ∃ M', f_X11_evening M = some (nI (rowX P R x), M') ∧ hM M' q P ∧ gN M' g R ∧ M'.1 275 53 = sdN x (oN R) := by
  have h8 : oN R ≤ 8 := hO.2.1.1
  unfold f_X11_evening
  rw [s_guests hN, q_bd_some]
  refine hr_for (σ := PM) (fun f k N => f_X11_evening_7 f (nI (oN R)) (nI k) N) (oN R) (fun k N => hM N q P ∧ gN N g R ∧ N.1 275 53 = sdN x k ∧ drwM N 303 R x k) (fun r => ∃ M', r = some (nI (rowX P R x), M') ∧ hM M' q P ∧ gN M' g R ∧ M'.1 275 53 = sdN x (oN R)) ?_ ?_ FU 0 M (Nat.zero_le _) (FU_ok (by omega)) ⟨hH, hN, hx, fun k hk => by omega⟩
  · rintro f k N hk ⟨hH, hN, hx, hd⟩
    right
    have gl := gw_lt hO hk
    have e := s_picked (N := N) gl (hO.2.2 k hk).1.2
    rw [hx] at e
    show ∃ s', f_X11_evening_7 (f + 1) (nI (oN R)) (nI k) N = f_X11_evening_7 f (nI (oN R)) (nI (k + 1)) s' ∧ _
    rw [f_X11_evening_7.eq_2, if_neg (fun z => by have := (q_le (by omega) (by omega)).mp z; omega), s_worn hN hk, q_bd_some, (hO.2.2 k hk).2, e, q_bd_some, if_pos (q_in (by omega) (by omega)), q_cl (by omega), q_lit 1, gO 1, q_add]
    refine ⟨_, rfl, ?_, ?_, ?_, fun j hj => ?_⟩
    · refine hH.at ?_ ?_ ?_ ?_
      · rw [si_ne _ _ _ (by omega), si_ne _ _ _ (by omega)]
      · rw [si_ne _ _ _ (by omega), si_same, if_neg (by omega)]
      · rw [si_ne _ _ _ (by omega), si_same, if_neg (by omega)]
      · rw [si_ne _ _ _ (by omega), si_ne _ _ _ (by omega)]
    · refine hN.at ?_ ?_
      · rw [si_ne _ _ _ (by omega), si_ne _ _ _ (by omega)]
      · rw [si_ne _ _ _ (by omega), si_same, if_neg (by omega)]
    · rw [si_ne _ _ _ (by omega), si_same, if_pos rfl]; rfl
    · rw [si_same]
      by_cases z : j = k
      · rw [if_pos z, z]; rfl
      · rw [if_neg z, si_ne _ _ _ (by omega)]; exact hd j (by omega)
  · rintro f N ⟨hH, hN, hx, hd⟩
    show ∃ M', f_X11_evening_7 (f + 1) (nI (oN R)) (nI (oN R)) N = _ ∧ _
    rw [f_X11_evening_7.eq_2, if_pos (Int32.le_refl _)]
    exact ⟨N, s_evening37 hH hO hd, hH, hN, hx⟩
end MOD
theorem m_drawn {M : PM} {T : Tol} (hT : mT M 0 T) (ok : tOK T) (p g x n w : Int32) : hw (f_X11_drawn p g x n w M) (fun v _ => v = sp_drawn T p g x n w) := by
  unfold f_X11_drawn sp_drawn
  rw [show (-1 : Int32) = zI (-1) by decide, show (0 : Int32) = nI 0 from rfl, show (1 : Int32) = nI 1 from rfl, show (40 : Int32) = nI 40 from rfl, s_inc _ n (by omega), q_bd_some]
  have bad : ∀ r : Option Nat, r = none → zI (-1) = (match ix p (tz T 0), ix g (tz T 4), r with
    | some p, some g, some n => if tog (tP T p) (tR T 4 g) then (if w = nI 0 then nI (clmX (tP T p) (tR T 4 g) x n) else if w = nI 1 then nI (sumX (tP T p) (tR T 4 g) x n) else zI (-1)) else zI (-1)
    | _, _, _ => zI (-1)) := by
    intro r hr
    subst hr
    cases ix p (tz T 0) <;> cases ix g (tz T 4) <;> rfl
  cases hn : ix n (40 + 1) with
  | none =>
    rw [if_pos (show bI (none : Option Nat).isSome = nI 0 from rfl)]
    exact hw.ok (bad _ rfl)
  | some n =>
    obtain ⟨rfl, ln, -⟩ := ix_some hn
    rw [if_neg (show ¬ bI (some n).isSome = nI 0 from (by decide : ¬ nI 1 = nI 0)), s_inc _ w (by omega), q_bd_some]
    cases hw2 : ix w (1 + 1) with
    | none =>
      have nw : ∀ m, m < 2 → ¬ w = nI m := fun m hm z => by
        rw [z, ix_n (show m < 1 + 1 by omega) (by omega)] at hw2
        cases hw2
      rw [if_pos (show bI (none : Option Nat).isSome = nI 0 from rfl)]
      refine hw.ok ?_
      cases ix p (tz T 0) with
      | none => rfl
      | some p =>
        cases ix g (tz T 4) with
        | none => rfl
        | some g => dsimp only; rw [if_neg (nw 0 (by omega)), if_neg (nw 1 (by omega))]; split <;> rfl
    | some j =>
      obtain ⟨rfl, lj, -⟩ := ix_some hw2
      rw [if_neg (show ¬ bI (some j).isSome = nI 0 from (by decide : ¬ nI 1 = nI 0))]
      refine hw.bd ((m_layDinner (hT.si (k := 0) (v := nI 0)) ok p g).mono (fun v M' h => ?_))
      cases hp : ix p (tz T 0) with
      | none =>
        rw [hp] at h
        dsimp only at h ⊢
        rw [h, if_pos rfl]
        exact hw.ok rfl
      | some p =>
        cases hg : ix g (tz T 4) with
        | none =>
          rw [hp, hg] at h
          dsimp only at h ⊢
          rw [h, if_pos rfl]
          exact hw.ok rfl
        | some g =>
          rw [hp, hg] at h
          dsimp only at h ⊢
          obtain ⟨rfl, hH, hN⟩ := h
          cases ht : tog (tP T p) (tR T 4 g) with
          | false =>
            rw [if_pos (show bI false = nI 0 from rfl), if_neg (by simp)]
            exact hw.ok rfl
          | true =>
            have hO := nOK.of hH.1.1.2 hN.1.2 ht
            have h8 : oN (tR T 4 g) ≤ 8 := hO.2.1.1
            rw [if_neg (show ¬ bI true = nI 0 by decide), if_pos rfl]
            refine hr_for (σ := PM) (fun f e N => f_X11_drawn_51 _ _ x (nI n) (nI j) f (nI (clmX (tP T p) (tR T 4 g) x e)) (nI (sumX (tP T p) (tR T 4 g) x e)) (nI e) N) n (fun e N => hM N p (tP T p) ∧ gN N g (tR T 4 g) ∧ N.1 275 53 = evX (tR T 4 g) x e) (fun r => hw r (fun v _ => v = if nI j = nI 0 then nI (clmX (tP T p) (tR T 4 g) x n) else if nI j = nI 1 then nI (sumX (tP T p) (tR T 4 g) x n) else zI (-1))) ?_ ?_ FU 0 (hr_si M' 275 53 x) (Nat.zero_le _) (FU_ok (by omega)) ⟨hH.at (si_ne _ _ _ (by omega)) (by rw [si_same, if_neg (by omega)]) (by rw [si_same, if_neg (by omega)]) (si_ne _ _ _ (by omega)), hN.at (si_ne _ _ _ (by omega)) (by rw [si_same, if_neg (by omega)]), by rw [si_same, if_pos rfl]; rfl⟩
            · rintro f e N he ⟨hH, hN, hx⟩
              right
              obtain ⟨N', g1, g2, g3, g4⟩ := s_evening hH hN hO hx
              have lr := rowX_le (P := tP T p) hO.1 h8 (evX (tR T 4 g) x e)
              have ec : clmX (tP T p) (tR T 4 g) x (e + 1) = clmX (tP T p) (tR T 4 g) x e + (if decide (rowX (tP T p) (tR T 4 g) (evX (tR T 4 g) x e) = 0) = true then 1 else 0) := rfl
              have es : sumX (tP T p) (tR T 4 g) x (e + 1) = sumX (tP T p) (tR T 4 g) x e + rowX (tP T p) (tR T 4 g) (evX (tR T 4 g) x e) := rfl
              show ∃ s', f_X11_drawn_51 _ _ x (nI n) (nI j) (f + 1) (nI (clmX (tP T p) (tR T 4 g) x e)) (nI (sumX (tP T p) (tR T 4 g) x e)) (nI e) N = f_X11_drawn_51 _ _ x (nI n) (nI j) f (nI (clmX (tP T p) (tR T 4 g) x (e + 1))) (nI (sumX (tP T p) (tR T 4 g) x (e + 1))) (nI (e + 1)) s' ∧ _
              rw [f_X11_drawn_51.eq_2, if_neg (fun z => by have := (q_le (by omega) (by omega)).mp z; omega), g1, q_bd_some, show (0 : Int32) = nI 0 from rfl, show (1 : Int32) = nI 1 from rfl, q_add, q_add, q_add, q_add, ec, es]
              refine ⟨N', ?_, g2, g3, g4⟩
              by_cases z : rowX (tP T p) (tR T 4 g) (evX (tR T 4 g) x e) = 0
              · rw [if_pos (show nI (rowX (tP T p) (tR T 4 g) (evX (tR T 4 g) x e)) = nI 0 by rw [z]), decide_eq_true z, if_pos rfl]
              · rw [if_neg (fun y => z ((q_eq (by omega) (by omega)).mp y)), decide_eq_false z, if_neg (show ¬ false = true by simp)]
            · rintro f N -
              show hw (f_X11_drawn_51 _ _ x (nI n) (nI j) (f + 1) (nI (clmX (tP T p) (tR T 4 g) x n)) (nI (sumX (tP T p) (tR T 4 g) x n)) (nI n) N) _
              rw [f_X11_drawn_51.eq_2, if_pos (Int32.le_refl _), show (0 : Int32) = nI 0 from rfl]
              by_cases w0 : nI j = nI 0
              · rw [if_pos w0, if_pos w0]; exact hw.ok rfl
              · rw [if_neg w0, if_neg w0]
                have h1 : j = 1 := by
                  have : j ≠ 0 := fun z => w0 (by rw [z])
                  omega
                rw [if_pos (by rw [h1])]
                exact hw.ok rfl
