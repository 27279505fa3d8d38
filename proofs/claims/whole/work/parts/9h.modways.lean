/-! DINNERS, by the model: ways, the first way, the fewest hues -/
section MOD
variable {q g : Nat} {P : Pal} {R : Rol}
theorem mRv_0 {s f : Nat} (h1 : 1 ≤ oN R) : mRv P R s f 0 f = dT P R s f := by
  unfold mRv dT
  cases hb : (gw R 0 &&& s).testBit f with
  | false => rw [if_neg (by simp), if_neg (by simp)]
  | true => rw [if_pos ⟨rfl, Or.inr rfl⟩, if_pos rfl, Nat.sub_zero, dV_all s f h1]
theorem s_allWays {M : PM} (hH : hM M q P) (hN : gN M g R) (hO : nOK P R) {s : Nat} (hs : s < 1024) : ∃ M', f_X11_allWays (nI s) M = some (lN (dW P R s), M') ∧ M'.1 = M.1 := by
  have h10 := hO.1.1
  have h8 : oN R ≤ 8 := hO.2.1.1
  unfold f_X11_allWays
  rw [s_guests hN, q_bd_some]
  by_cases z0 : oN R = 0
  · rw [if_pos (show nI (oN R) = 0 by rw [z0]; rfl)]
    show ∃ M', f_X11_allWays_16 (nI s) (3999 + 1) 1 (nI 0) M = _ ∧ _
    refine ⟨M, ?_, rfl⟩
    have ew : dW P R s = 1 := by unfold dW; rw [if_pos z0]
    rw [f_X11_allWays_16.eq_2, hH.2.1.2, ew]
    by_cases zh : nI (pH P) ≤ nI 0
    · rw [if_pos zh]; rfl
    · rw [if_neg zh, s_guests hN, q_bd_some, if_pos (show nI (oN R) ≤ 0 by rw [z0]; decide)]
      rfl
  · rw [if_neg (show ¬ nI (oN R) = 0 from fun z => z0 ((q_eq (b := 0) (by omega) (by omega)).mp z))]
    have ew : dW P R s = sumN (dT P R s) (pH P) := by unfold dW; rw [if_neg z0]
    rw [ew]
    refine hr_for (σ := PM) (fun t h N => f_X11_allWays_16 (nI s) t (lN (sumN (dT P R s) h)) (nI h) N) (pH P) (fun _ N => N.1 = M.1) (fun r => ∃ M', r = some (lN (sumN (dT P R s) (pH P)), M') ∧ M'.1 = M.1) ?_ ?_ FU 0 M (Nat.zero_le _) (FU_ok (by omega)) rfl
    · rintro t h N hh he
      right
      have hHN := hH.eq1 he
      have hNN := hN.eq1 he
      obtain ⟨N', g1, g2, g3⟩ := s_findRest hHN hNN hO hs hh
      have er := g3 0 (by omega) h hh
      rw [Nat.mul_zero, Nat.zero_add, mRv_0 (by omega)] at er
      show ∃ s', f_X11_allWays_16 (nI s) (t + 1) (lN (sumN (dT P R s) h)) (nI h) N = f_X11_allWays_16 (nI s) t (lN (sumN (dT P R s) h + dT P R s h)) (nI (h + 1)) s' ∧ _
      rw [f_X11_allWays_16.eq_2, hHN.2.1.2, if_neg (fun z => by have := (q_le (by omega) (by omega)).mp z; omega), s_guests hNN, q_bd_some, if_neg (show ¬ nI (oN R) ≤ 0 from fun z => z0 (by have := (q_le (b := 0) (by omega) (by omega)).mp z; omega)), g1, q_bd_some, if_pos (q_in (by omega) (by omega)), q_cl (by omega), er, lN_add, q_lit 1, gO 1, q_add]
      exact ⟨N', rfl, g2.trans he⟩
    · rintro t N he
      have hHN := hH.eq1 he
      show ∃ M', f_X11_allWays_16 (nI s) (t + 1) _ (nI (pH P)) N = _ ∧ _
      rw [f_X11_allWays_16.eq_2, hHN.2.1.2, if_pos (Int32.le_refl _)]
      exact ⟨N, rfl, he⟩
/-- the next guest's hue -/
theorem s_worn49 {N : PM} (hH : hM N q P) (hO : nOK P R) {f k : Nat} (hf : f < pH P) (h0 : 0 < dT P R 1023 f) (hk : k + 1 < oN R) (hr : mRow N P R 1023 f (k + 1)) (a1 : Int32) (k40 : Int32 → Int32 → PM → Option (Int32 × PM)) : f_X11_wornAt_49 a1 k40 FU (nI (dF P R f k)) (nI (k + 1)) (nI 0) N = k40 (nI (dF P R f (k + 1))) (nI (k + 2)) N := by
  have h10 := hO.1.1
  have h8 : oN R ≤ 8 := hO.2.1.1
  obtain ⟨o1, o2, o3, o4⟩ := dF_ok hO hf h0 k (by omega)
  obtain ⟨f1, f2, f3⟩ := fst1_some (o4 hk)
  refine hr_for (σ := Unit) (fun t h _ => f_X11_wornAt_49 a1 k40 t (nI (dF P R f k)) (nI (k + 1)) (nI h) N) (pH P) (fun h _ => h ≤ dF P R f (k + 1)) (fun r => r = k40 (nI (dF P R f (k + 1))) (nI (k + 2)) N) ?_ ?_ FU 0 () (Nat.zero_le _) (FU_ok (by omega)) (Nat.zero_le _)
  · intro t h _ hh hle
    have er := hr h hh
    have gb : mRv P R 1023 f (k + 1) h = if (gw R (k + 1)).testBit h then dV P R (bM P R f) 1023 (oN R - 1 - (k + 1)) h else 0 := by
      unfold mRv
      rw [gw_and hO hk]
      cases (gw R (k + 1)).testBit h with
      | false => rw [if_neg (by simp), if_neg (by simp)]
      | true => rw [if_pos ⟨rfl, Or.inl (by omega)⟩, if_pos rfl]
    have hv := dV_le (P := P) (R := R) (bM P R f) (bM_le P R f) h10 1023 (oN R - 1 - (k + 1)) h
    have ht := ten_le (show oN R - 1 - (k + 1) ≤ 7 by omega)
    have ml : mRv P R 1023 f (k + 1) h < 2147483648 := by rw [gb]; split <;> omega
    have eqr : foe P (dF P R f k) h = false → dV P R (bM P R f) 1023 (oN R - 1 - (k + 1)) h = dV P R (bC P f) 1023 (oN R - 1 - (k + 1)) h := fun z => dV_row 1023 f (by omega) (fun z2 => by
      have : k = 0 := by omega
      subst this
      exact z)
    show f_X11_wornAt_49 a1 k40 (t + 1) (nI (dF P R f k)) (nI (k + 1)) (nI h) N = _ ∨ ∃ _ : Unit, f_X11_wornAt_49 a1 k40 (t + 1) (nI (dF P R f k)) (nI (k + 1)) (nI h) N = f_X11_wornAt_49 a1 k40 t (nI (dF P R f k)) (nI (k + 1)) (nI (h + 1)) N ∧ _
    rw [f_X11_wornAt_49.eq_2, q_lit 10, gO 10, q_mul, q_add, if_pos (q_in (by omega) (by omega)), q_cl (by omega), er, q_lit 1, gO 1, q_add, q_add, show k + 1 + 1 = k + 2 by omega]
    have go : (((gw R (k + 1)).testBit h && !foe P (dF P R f k) h) && decide (0 < dV P R (bC P f) 1023 (oN R - 1 - (k + 1)) h)) = false → h + 1 ≤ dF P R f (k + 1) := by
      intro hn
      by_cases z : h = dF P R f (k + 1)
      · rw [← z] at f2
        rw [f2] at hn
        cases hn
      · omega
    by_cases z : mRv P R 1023 f (k + 1) h = 0
    · right
      rw [if_pos ((lci0 ml).mpr z)]
      refine ⟨(), rfl, go ?_⟩
      cases hb : (gw R (k + 1)).testBit h with
      | false => rfl
      | true =>
        cases hq : foe P (dF P R f k) h with
        | true => rfl
        | false =>
          rw [gb, hb, if_pos rfl, eqr hq] at z
          rw [z]
          rfl
    · rw [if_neg (fun y => z ((lci0 ml).mp y)), s_clash hH o1 hh, q_bd_some]
      cases hb : (gw R (k + 1)).testBit h with
      | false => rw [gb, hb, if_neg (by simp)] at z; exact absurd rfl z
      | true =>
        cases hq : foe P (dF P R f k) h with
        | true =>
          right
          rw [if_neg (show ¬ bI true = 0 by decide)]
          exact ⟨(), rfl, go (by rw [hb, hq]; rfl)⟩
        | false =>
          left
          rw [if_pos (show bI false = 0 from rfl)]
          rw [gb, hb, if_pos rfl, eqr hq] at z
          have eh : h = dF P R f (k + 1) := by
            rcases Nat.lt_or_ge h (dF P R f (k + 1)) with y | y
            · have := f3 h y
              rw [hb, hq, decide_eq_true (by omega)] at this
              cases this
            · omega
          rw [eh]
  · intro t _ hle
    omega
theorem s_wornAt {M : PM} (hH : hM M q P) (hN : gN M g R) (hO : nOK P R) (h0 : 0 < dW P R 1023) {k : Nat} (hk : k < oN R) : ∃ M', f_X11_wornAt (nI k) M = some (nI (dF P R (d0 P R) k), M') := by
  have h10 := hO.1.1
  have h8 : oN R ≤ 8 := hO.2.1.1
  obtain ⟨-, d1, d2, d3⟩ := d0_ok (show 1 ≤ oN R by omega) h0
  unfold f_X11_wornAt
  obtain ⟨N0, g1, g2, g3⟩ := s_findRest hH hN hO (s := 1023) (f := 0) (by omega) (by omega)
  rw [show (0 : Int32) = nI 0 from rfl, show (1023 : Int32) = nI 1023 from rfl, g1, q_bd_some]
  refine hr_for (σ := PM) (fun t f N => f_X11_wornAt_10 (nI k) t (nI f) N) (d0 P R) (fun f N => N.1 = M.1 ∧ ∀ j, j < oN R → mRow N P R 1023 f j) (fun r => ∃ M', r = some (nI (dF P R (d0 P R) k), M')) ?_ ?_ FU 0 N0 (Nat.zero_le _) (FU_ok (by omega)) ⟨g2, g3⟩
  · rintro t f N hf ⟨he, hr⟩
    right
    have er := hr 0 (by omega) f (by omega)
    rw [Nat.mul_zero, Nat.zero_add, mRv_0 (by omega), d3 f hf] at er
    obtain ⟨N', g1, g2, g3⟩ := s_findRest (hH.eq1 he) (hN.eq1 he) hO (s := 1023) (f := f + 1) (by omega) (by omega)
    show ∃ s', f_X11_wornAt_10 (nI k) (t + 1) (nI f) N = f_X11_wornAt_10 (nI k) t (nI (f + 1)) s' ∧ _
    rw [f_X11_wornAt_10.eq_2, if_pos (q_in (by omega) (by omega)), q_cl (by omega), er, if_pos ((lci0 (by omega)).mpr rfl), q_lit 1, gO 1, q_add, q_lit 1023, gO 1023, g1, q_bd_some]
    exact ⟨N', rfl, g2.trans he, g3⟩
  · rintro t N ⟨he, hr⟩
    have er := hr 0 (by omega) (d0 P R) (by omega)
    have l2 := dT_le h10 h8 1023 (d0 P R)
    rw [Nat.mul_zero, Nat.zero_add, mRv_0 (by omega)] at er
    show ∃ M', f_X11_wornAt_10 (nI k) (t + 1) (nI (d0 P R)) N = _
    rw [f_X11_wornAt_10.eq_2, if_pos (q_in (by omega) (by omega)), q_cl (by omega), er, if_neg (fun y => by have := (lci0 (by omega)).mp y; omega), q_lit 1, gO 1]
    refine hr_for (σ := Unit) (fun t j _ => f_X11_wornAt_40 (nI k) t (nI (dF P R (d0 P R) (j - 1))) (nI j) N) (k + 1) (fun j _ => 1 ≤ j) (fun r => ∃ M', r = some (nI (dF P R (d0 P R) k), M')) ?_ ?_ FU 1 () (by omega) (FU_ok (by omega)) (Nat.le_refl _)
    · intro t j _ hj j1
      right
      obtain ⟨j, rfl⟩ : ∃ i, j = i + 1 := ⟨j - 1, by omega⟩
      refine ⟨(), ?_, by omega⟩
      show f_X11_wornAt_40 (nI k) (t + 1) (nI (dF P R (d0 P R) (j + 1 - 1))) (nI (j + 1)) N = f_X11_wornAt_40 (nI k) t (nI (dF P R (d0 P R) (j + 1 + 1 - 1))) (nI (j + 1 + 1)) N
      rw [show j + 1 - 1 = j by omega, show j + 1 + 1 - 1 = j + 1 by omega, f_X11_wornAt_40.eq_2, if_neg (fun z => by have := (q_lt (by omega) (by omega)).mp z; omega), show (0 : Int32) = nI 0 from rfl, s_worn49 (hH.eq1 he) hO d1 d2 (by omega) (hr (j + 1) (by omega))]
    · intro t _ _
      show ∃ M', f_X11_wornAt_40 (nI k) (t + 1) (nI (dF P R (d0 P R) (k + 1 - 1))) (nI (k + 1)) N = _
      rw [f_X11_wornAt_40.eq_2, if_pos ((q_lt (by omega) (by omega)).mpr (by omega)), show k + 1 - 1 = k by omega]
      exact ⟨N, rfl⟩
theorem s_few {M : PM} (hH : hM M q P) (hN : gN M g R) (hO : nOK P R) (h0 : 0 < dW P R 1023) : ∃ M', f_X11_few M = some (nI (dFew P R), M') := by
  have h10 := hO.1.1
  have h8 : oN R ≤ 8 := hO.2.1.1
  have h2 : 1 ≤ 2 ^ pH P := Nat.one_le_two_pow
  have h3 : 2 ^ pH P ≤ 2 ^ 10 := Nat.pow_le_pow_right (by decide) h10
  let F : Nat → Nat := fun s => if 0 < dW P R s then popc s else 1000000
  unfold f_X11_few
  refine hr_for (σ := PM) (fun t s N => f_X11_few_6 t (nI (lsN 1000000 F s)) (nI s) N) (2 ^ pH P) (fun _ N => N.1 = M.1) (fun r => ∃ M', r = some (nI (dFew P R), M')) ?_ ?_ FU 0 M (Nat.zero_le _) (FU_ok (by omega)) rfl
  · rintro t s N hs he
    right
    have hHN := hH.eq1 he
    have hNN := hN.eq1 he
    have ll := (lsN_le (b := 1000000) (f := F) (n := s)).1
    have pl := popc_le s
    have wl := dW_le (P := P) (R := R) h10 h8 s
    have eF : F s = if 0 < dW P R s then popc s else 1000000 := rfl
    obtain ⟨N', g1, g2⟩ := s_allWays hHN hNN hO (show s < 1024 by omega)
    show ∃ s', f_X11_few_6 (t + 1) (nI (lsN 1000000 F s)) (nI s) N = f_X11_few_6 t (nI (min (lsN 1000000 F s) (F s))) (nI (s + 1)) s' ∧ _
    rw [f_X11_few_6.eq_2, hHN.2.1.2, q_lit 1, gO 1, q_jl (by omega), if_neg (fun z => by have := (q_le (by omega) (by omega)).mp z; omega), s_ones N (by omega), q_bd_some, q_add]
    by_cases z : lsN 1000000 F s ≤ popc s
    · rw [if_pos ((q_le (by omega) (by omega)).mpr z), Nat.min_eq_left (by rw [eF]; split <;> omega)]
      exact ⟨N, rfl, he⟩
    · rw [if_neg (fun y => z ((q_le (by omega) (by omega)).mp y)), g1, q_bd_some, s_ones N' (by omega), q_bd_some]
      by_cases z2 : dW P R s = 0
      · rw [if_pos ((lci0le (by omega)).mpr z2), Nat.min_eq_left (by rw [eF, if_neg (by omega)]; omega)]
        exact ⟨N', rfl, g2.trans he⟩
      · rw [if_neg (fun y => z2 ((lci0le (by omega)).mp y)), Nat.min_eq_right (by rw [eF, if_pos (by omega)]; omega), eF, if_pos (by omega)]
        exact ⟨N', rfl, g2.trans he⟩
  · rintro t N he
    have hHN := hH.eq1 he
    show ∃ M', f_X11_few_6 (t + 1) (nI (lsN 1000000 F (2 ^ pH P))) (nI (2 ^ pH P)) N = _
    rw [f_X11_few_6.eq_2, hHN.2.1.2, q_lit 1, gO 1, q_jl (by omega), if_pos (Int32.le_refl _), ← dFew_far hO h0]
    exact ⟨N, rfl⟩
theorem s_layDinner20 {M : PM} (hH : hM M q P) (hN : gN M g R) (a1 a2 : Int32) : f_X11_layDinner_20 a1 a2 FU (nI 0) M = some (bI (tog P R), M) := by
  have ho := hN.1.2
  have h8 : oN R ≤ 8 := ho.1
  have h10 : pH P ≤ 10 := hH.1.1.2.1
  have h3 : 2 ^ pH P ≤ 2 ^ 10 := Nat.pow_le_pow_right (by decide) h10
  have et : tog P R = decide (namS R (oN R) < 2 ^ pH P) := by unfold tog; rw [ho.2.1]
  rw [et]
  refine hr_for (σ := Unit) (fun f i _ => f_X11_layDinner_20 a1 a2 f (nI i) M) (oN R) (fun i _ => ∀ j, j < i → (oA R j).toNat < 2 ^ pH P) (fun r => r = some (bI (decide (namS R (oN R) < 2 ^ pH P)), M)) ?_ ?_ FU 0 () (Nat.zero_le _) (FU_ok (by omega)) (fun j hj => by omega)
  · intro f i _ hi hI
    have hA := ho.2.2 i hi
    have eA : zI (oA R i) = nI (oA R i).toNat := by rw [q_nz]; congr 1; omega
    show f_X11_layDinner_20 a1 a2 (f + 1) (nI i) M = _ ∨ ∃ _ : Unit, f_X11_layDinner_20 a1 a2 (f + 1) (nI i) M = f_X11_layDinner_20 a1 a2 f (nI (i + 1)) M ∧ _
    rw [f_X11_layDinner_20.eq_2, s_guests hN, q_bd_some, if_neg (fun z => by have := (q_le (by omega) (by omega)).mp z; omega), s_worn hN hi, q_bd_some, eA, hH.2.1.2, q_lit 1, gO 1, q_jl (by omega), q_add]
    by_cases z : (oA R i).toNat < 2 ^ pH P
    · right
      rw [if_pos ((q_lt (by omega) (by omega)).mpr z)]
      refine ⟨(), rfl, fun j hj => ?_⟩
      by_cases e : j = i
      · rw [e]; exact z
      · exact hI j (by omega)
    · left
      rw [if_neg (fun y => z ((q_lt (by omega) (by omega)).mp y)), decide_eq_false (fun y => z (namS_lt.mp y i hi))]
      rfl
  · intro f _ hI
    show f_X11_layDinner_20 a1 a2 (f + 1) (nI (oN R)) M = _
    rw [f_X11_layDinner_20.eq_2, s_guests hN, q_bd_some, if_pos (Int32.le_refl _), decide_eq_true (namS_lt.mpr hI)]
    rfl
end MOD
section MOD2
variable {M : PM} {T : Tol}
theorem m_layDinner (hT : mT M 0 T) (ok : tOK T) (p g : Int32) : hw (f_X11_layDinner p g M) (fun v M' => match ix p (tz T 0), ix g (tz T 4) with
    | some q, some g => v = bI (tog (tP T q) (tR T 4 g)) ∧ hM M' q (tP T q) ∧ gN M' g (tR T 4 g)
    | _, _ => v = nI 0) := by
  unfold f_X11_layDinner
  obtain ⟨e1, e2⟩ := m_hasDinner hT ok g
  rw [e1, q_bd_some]
  cases hg : ix g (tz T 4) with
  | none =>
    refine hw.ok ?_
    cases ix p (tz T 0) <;> rfl
  | some g =>
    obtain ⟨rfl, h1, -⟩ := ix_some hg
    have hG := e2 g rfl h1
    rw [if_neg (show ¬ bI (some g).isSome = 0 from (by decide : ¬ nI 1 = 0))]
    refine hw.bd ((m_hand (hT.si (k := 51) (v := nI g)) ok p).mono (fun v M' h => ?_))
    obtain ⟨h, hf⟩ := h
    cases hp : ix p (tz T 0) with
    | none =>
      rw [hp] at h
      rw [h.1]
      exact hw.ok rfl
    | some q =>
      rw [hp] at h
      obtain ⟨rfl, hH⟩ := h
      dsimp only
      have hG' : gN M' g (tR T 4 g) := hG.at (hf.row 285 (fun _ => rfl)) (hf.at 275 51 rfl)
      rw [if_neg (show ¬ nI 1 = 0 by decide), show (0 : Int32) = nI 0 from rfl, s_layDinner20 hH hG']
      exact hw.ok ⟨rfl, hH, hG'⟩
theorem m_ways (hT : mT M 0 T) (ok : tOK T) (p g : Int32) : hw (f_X11_ways p g M) (fun v _ => v = sp_ways T p g) := by
  unfold f_X11_ways sp_ways
  refine hw.bd ((m_layDinner (hT.si (k := 0) (v := 0)) ok p g).mono (fun v M' h => ?_))
  cases hp : ix p (tz T 0) with
  | none =>
    rw [hp] at h
    dsimp only at h ⊢
    rw [h, if_pos (show nI 0 = 0 from rfl)]
    exact hw.ok rfl
  | some p =>
    cases hg : ix g (tz T 4) with
    | none =>
      rw [hp, hg] at h
      dsimp only at h ⊢
      rw [h, if_pos (show nI 0 = 0 from rfl)]
      exact hw.ok rfl
    | some g =>
      rw [hp, hg] at h
      dsimp only at h ⊢
      obtain ⟨rfl, hH, hN⟩ := h
      cases ht : tog (tP T p) (tR T 4 g) with
      | false =>
        rw [if_pos (show bI false = 0 from rfl), if_neg (by simp)]
        exact hw.ok rfl
      | true =>
        obtain ⟨M1, g1, g2⟩ := s_allWays hH hN (nOK.of hH.1.1.2 hN.1.2 ht) (s := 1023) (by omega)
        rw [if_neg (show ¬ bI true = 0 by decide), if_pos rfl, show (1023 : Int32) = nI 1023 from rfl, g1, q_bd_some]
        exact hw.ok rfl
theorem m_dinner (hT : mT M 0 T) (ok : tOK T) (p g w : Int32) : hw (f_X11_dinner p g w M) (fun v _ => v = sp_dinner T p g w) := by
  unfold f_X11_dinner sp_dinner
  rw [show (-1 : Int32) = zI (-1) by decide]
  refine hw.bd ((m_layDinner (hT.si (k := 0) (v := 0)) ok p g).mono (fun v M' h => ?_))
  cases hp : ix p (tz T 0) with
  | none =>
    rw [hp] at h
    dsimp only at h ⊢
    rw [h, if_pos (show nI 0 = 0 from rfl)]
    exact hw.ok rfl
  | some p =>
    cases hg : ix g (tz T 4) with
    | none =>
      rw [hp, hg] at h
      dsimp only at h ⊢
      rw [h, if_pos (show nI 0 = 0 from rfl)]
      exact hw.ok rfl
    | some g =>
      rw [hp, hg] at h
      dsimp only at h ⊢
      obtain ⟨rfl, hH, hN⟩ := h
      have h8 : oN (tR T 4 g) ≤ 8 := hN.1.2.1
      cases ht : tog (tP T p) (tR T 4 g) with
      | false =>
        rw [if_pos (show bI false = 0 from rfl), if_neg (by simp)]
        exact hw.ok rfl
      | true =>
        have hO := nOK.of hH.1.1.2 hN.1.2 ht
        have wl := dW_le (P := tP T p) (R := tR T 4 g) hO.1.1 h8 1023
        obtain ⟨M1, g1, g2⟩ := s_allWays hH hN hO (s := 1023) (by omega)
        rw [if_neg (show ¬ bI true = 0 by decide), if_pos rfl]
        unfold dinS
        by_cases w0 : w = nI 0
        · rw [if_pos (show w = 0 from w0)]
          unfold f_X11_dinner_34
          rw [show (1023 : Int32) = nI 1023 from rfl, g1, q_bd_some, if_pos (show w = 0 from w0), show (-1 : Int32) = zI (-1) by decide]
          by_cases z : dW (tP T p) (tR T 4 g) 1023 = 0
          · rw [if_pos ((lci0 (by omega)).mpr z), if_pos z]
            exact hw.ok rfl
          · obtain ⟨M2, f1⟩ := s_few (hH.eq1 g2) (hN.eq1 g2) hO (by omega)
            rw [if_neg (fun y => z ((lci0 (by omega)).mp y)), if_neg z, f1, q_bd_some, if_pos w0]
            exact hw.ok rfl
        · rw [if_neg (show ¬ w = 0 from w0), s_guests hN, q_bd_some, show (10 : Int32) = nI 10 from rfl, show (9 : Int32) = nI 9 from rfl, q_add, s_inab _ w (by omega) (by omega), q_bd_some, if_neg w0]
          rcases q_any w with h0 | ⟨m, h1, rfl⟩
          · rw [decide_eq_false (fun z => z.1 h0), if_pos (show bI false = 0 from rfl), if_pos (q_neg_lt h0 (k := 10) (by omega))]
            refine hw.ok ?_
            split <;> rfl
          · rw [q_cl h1]
            by_cases z10 : m < 10
            · rw [decide_eq_false (by omega), if_pos (show bI false = 0 from rfl), if_pos ((q_lt (by omega) (by omega)).mpr z10)]
              refine hw.ok ?_
              split <;> rfl
            · rw [if_neg (fun z => z10 ((q_lt (by omega) (by omega)).mp z))]
              by_cases zm : m - 10 < oN (tR T 4 g)
              · rw [decide_eq_true ⟨nI_pos h1, by omega, by omega⟩, if_neg (show ¬ bI true = 0 by decide), if_pos zm]
                unfold f_X11_dinner_34
                rw [show (1023 : Int32) = nI 1023 from rfl, g1, q_bd_some, if_neg (show ¬ nI m = 0 from w0), show (-1 : Int32) = zI (-1) by decide, show (10 : Int32) = nI 10 from rfl, q_sub (show 10 ≤ m by omega)]
                by_cases z : dW (tP T p) (tR T 4 g) 1023 = 0
                · rw [if_pos ((lci0 (by omega)).mpr z), if_pos z]
                  exact hw.ok rfl
                · obtain ⟨M2, f1⟩ := s_wornAt (hH.eq1 g2) (hN.eq1 g2) hO (by omega) zm
                  rw [if_neg (fun y => z ((lci0 (by omega)).mp y)), if_neg z, f1, q_bd_some]
                  exact hw.ok rfl
              · rw [decide_eq_false (by omega), if_pos (show bI false = 0 from rfl), if_neg zm]
                refine hw.ok ?_
                split <;> rfl
end MOD2
