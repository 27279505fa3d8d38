/-! FITS: which two tell most, by the class -/
section CLS
variable {a b : Nat} {P : Pal} {R : Rol} {M0 : PM} {t : Nat}
/-- a slot's rules, all of them -/
def gAll (M : PM) (t : Nat) (P : Pal) (R : Rol) : Prop := gst M t P R 1570
theorem gAll.up {M : PM} (h : gAll M t P R) {c k : Nat} {v : Int32} (hc : c < 265 ∨ 269 < c) : gAll (hr_si M c k v) t P R := by
  unfold gAll gst at h ⊢
  rw [si_ne _ _ _ (show 265 ≠ c by omega), si_ne _ _ _ (show 267 ≠ c by omega), si_ne _ _ _ (show 268 ≠ c by omega), si_ne _ _ _ (show 269 ≠ c by omega)]
  exact h
theorem gI.up {M : PM} (h : gI M0 M t) {c k : Nat} {v : Int32} (hc : 269 < c) : gI M0 (hr_si M c k v) t := ⟨h.1.si (by omega), h.2.si (Or.inr (Or.inr (Or.inr (Or.inr hc))))⟩
theorem sD_s (k u : Nat) : sD P R (k + 1) u = sD P R k u + (if (sJ P R k && decide (sX P R k = u)) = true then 1 else 0) - (if (sJ P R k && decide (sY P R k + 1 = u)) = true then 1 else 0) := by
  have e1 : cnt (fun j => sJ P R j && decide (sX P R j = u)) (k + 1) = cnt (fun j => sJ P R j && decide (sX P R j = u)) k + (if (sJ P R k && decide (sX P R k = u)) = true then 1 else 0) := rfl
  have e2 : cnt (fun j => sJ P R j && decide (sY P R j + 1 = u)) (k + 1) = cnt (fun j => sJ P R j && decide (sY P R j + 1 = u)) k + (if (sJ P R k && decide (sY P R k + 1 = u)) = true then 1 else 0) := rfl
  unfold sD
  rw [e1, e2]
  split <;> split <;> omega
theorem s_count102 {M : PM} (hI : gI M0 M t) (hg : gAll M t P R) (hD : ∀ u, u < 56 → M.1 270 u = zI (sD P R (sZ P R) u)) (a1 x : Int32) : ∃ M', f_X2_countSums_102 a1 FU x (nI 1) M = some (x, M') ∧ gI M0 M' t ∧ gAll M' t P R ∧ ∀ u, u < 56 → M'.1 270 u = zI (sE P R u) := by
  refine hr_for (σ := PM) (fun f s N => f_X2_countSums_102 a1 f x (nI s) N) 56 (fun s N => 1 ≤ s ∧ gI M0 N t ∧ gAll N t P R ∧ ∀ u, u < 56 → N.1 270 u = zI (if u < s then sE P R u else sD P R (sZ P R) u)) (fun r => ∃ M', r = some (x, M') ∧ gI M0 M' t ∧ gAll M' t P R ∧ ∀ u, u < 56 → M'.1 270 u = zI (sE P R u)) ?_ ?_ FU 1 M (by omega) (FU_ok (by omega)) ⟨Nat.le_refl _, hI, hg, fun u hu => ?_⟩
  · rintro f s N hs ⟨h1, hI, hg, hD⟩
    right
    have e1 := hD s hs
    have e2 := hD (s - 1) (by omega)
    rw [if_neg (by omega)] at e1
    rw [if_pos (by omega)] at e2
    show ∃ s', f_X2_countSums_102 a1 (f + 1) x (nI s) N = f_X2_countSums_102 a1 f x (nI (s + 1)) s' ∧ _
    rw [f_X2_countSums_102.eq_2, q_lit 56, gO 56, if_neg (fun z => by have := (q_le (by omega) (by omega)).mp z; omega), if_pos (q_in (by omega) (by omega)), q_lit 1, gO 1, q_sub h1, if_pos (q_in (by omega) (by omega)), if_pos (q_in (by omega) (by omega)), q_cl (by omega), q_cl (by omega), e1, e2, q_add, q_zadd]
    refine ⟨_, rfl, by omega, hI.up (by omega), hg.up (by omega), fun u hu => ?_⟩
    rw [si_same]
    by_cases z : u = s
    · rw [if_pos z, if_pos (by omega), z]
      obtain ⟨s', rfl⟩ : ∃ s', s = s' + 1 := ⟨s - 1, by omega⟩
      rw [sE_s, show s' + 1 - 1 = s' by omega, Int.add_comm]
    · rw [if_neg z, hD u hu]
      by_cases z2 : u < s
      · rw [if_pos z2, if_pos (by omega)]
      · rw [if_neg z2, if_neg (by omega)]
  · rintro f N ⟨h1, hI, hg, hD⟩
    show ∃ M', f_X2_countSums_102 a1 (f + 1) x (nI 56) N = _ ∧ _
    rw [f_X2_countSums_102.eq_2, q_lit 56, gO 56, if_pos (Int32.le_refl _)]
    exact ⟨N, rfl, hI, hg, fun u hu => by rw [hD u hu, if_pos hu]⟩
  · by_cases z : u < 1
    · rw [if_pos z, show u = 0 by omega, sE_0]; exact hD 0 (by omega)
    · rw [if_neg z]; exact hD u hu
theorem s_count28 {M : PM} (ht : t < 4) (hI : gI M0 M t) (hg : gAll M t P R) (hD : ∀ u, u < 56 → M.1 270 u = zI 0) : ∃ M', f_X2_countSums_28 (nI t) FU (nI 0) (nI 0) M = some (nI (cnt (fit P R) 1540), M') ∧ gI M0 M' t ∧ gAll M' t P R ∧ ∀ u, u < 56 → M'.1 270 u = zI (sE P R u) := by
  have hz : sZ P R ≤ 1570 := cnt_le _ _
  refine hr_for (σ := PM) (fun f k N => f_X2_countSums_28 (nI t) f (nI (cnt (sJ P R) k)) (nI k) N) (sZ P R) (fun k N => gI M0 N t ∧ gAll N t P R ∧ ∀ u, u < 56 → N.1 270 u = zI (sD P R k u)) (fun r => ∃ M', r = some (nI (cnt (fit P R) 1540), M') ∧ gI M0 M' t ∧ gAll M' t P R ∧ ∀ u, u < 56 → M'.1 270 u = zI (sE P R u)) ?_ ?_ FU 0 M (Nat.zero_le _) (FU_ok (by omega)) ⟨hI, hg, fun u hu => by rw [hD u hu]; rfl⟩
  · rintro f k N hk ⟨hI, hg, hD⟩
    right
    obtain ⟨g1, g2⟩ := hg
    obtain ⟨e1, e2, e3⟩ := g2 k hk
    obtain ⟨p1, -, p3⟩ := sJ_ok (P := P) (R := R) hk
    have cS := (cd_ok p1).1
    have hcl := cnt_le (sJ P R) k
    have ej : cnt (sJ P R) (k + 1) = cnt (sJ P R) k + (if sJ P R k = true then 1 else 0) := rfl
    have g1' : N.1 265 t = nI (sZ P R) := g1
    show ∃ s', f_X2_countSums_28 (nI t) (f + 1) (nI (cnt (sJ P R) k)) (nI k) N = f_X2_countSums_28 (nI t) f (nI (cnt (sJ P R) (k + 1))) (nI (k + 1)) s' ∧ _
    rw [f_X2_countSums_28.eq_2, if_pos (q_in (by omega) (by omega)), q_cl (show t < 2147483648 by omega), g1', if_neg (fun z => by have := (q_le (by omega) (by omega)).mp z; omega), q_lit 1570, gO 1570, q_mul, q_add, if_pos (q_in (by omega) (by omega)), if_pos (q_in (by omega) (by omega)), if_pos (q_in (by omega) (by omega)), q_cl (by omega), Nat.mul_comm t 1570, e1, e2]
    cases hj : sJ P R k with
    | false =>
      have hn : cdS (pk (fit P R) 1570 k) ≠ 0 := of_decide_eq_false hj
      rw [if_neg (show ¬ zI (cdS (pk (fit P R) 1570 k)) = 0 from fun z => hn (by have := (q_zneq (b := 0) (by omega) (by omega)).mp z; omega)), ej, hj, q_lit 1, gO 1, q_add]
      refine ⟨N, rfl, hI, ⟨g1, g2⟩, fun u hu => ?_⟩
      rw [hD u hu, sD_s, hj]
      congr 1
      simp
    | true =>
      have hn : cdS (pk (fit P R) 1570 k) = 0 := of_decide_eq_true hj
      obtain ⟨b1, b2, b3⟩ := p3 hj
      have hx : cdX (pk (fit P R) 1570 k) = ((sX P R k).toNat : Nat) := by unfold sX at b1 ⊢; omega
      have hy : cdY (pk (fit P R) 1570 k) = ((sY P R k).toNat : Nat) := by unfold sX at b1 b2; unfold sY at b2 ⊢; omega
      generalize hxn : (sX P R k).toNat = x at *
      generalize hyn : (sY P R k).toNat = y at *
      have e3' : (hr_si N 270 x (N.1 270 x + 1)).1 269 (1570 * t + k) = nI y := by
        rw [si_ne _ _ _ (by omega), e3, hy, q_nz]
      have ey : (hr_si N 270 x (N.1 270 x + 1)).1 270 (y + 1) = N.1 270 (y + 1) := by
        rw [si_same, if_neg (by omega)]
      rw [if_pos (show zI (cdS (pk (fit P R) 1570 k)) = 0 by rw [hn]; rfl), hx, ← q_nz, q_cl (by omega), if_pos (q_in (by omega) (by omega)), if_pos (q_in (by omega) (by omega)), e3', q_lit 1, gO 1, q_add, if_pos (q_in (by omega) (by omega)), if_pos (q_in (by omega) (by omega)), q_cl (by omega), show (nI 1 : Int32) = 1 from rfl, ey, ej, hj, if_pos rfl, show (1 : Int32) = nI 1 from rfl, q_add, q_add]
      refine ⟨_, rfl, (hI.up (by omega)).up (by omega), (gAll.up (gAll.up ⟨g1, g2⟩ (by omega)) (by omega)), fun u hu => ?_⟩
      rw [si_same, si_same, sD_s, hj, Bool.true_and, Bool.true_and]
      by_cases z1 : u = y + 1
      · rw [if_pos z1, z1, hD (y + 1) (by omega), decide_eq_false (show ¬ sX P R k = ((y + 1 : Nat) : Int) by omega), decide_eq_true (show sY P R k + 1 = ((y + 1 : Nat) : Int) by omega), q_znsub]
        congr 1
        rw [if_neg (show ¬ false = true by simp), if_pos rfl]
        omega
      · rw [if_neg z1, decide_eq_false (show ¬ sY P R k + 1 = (u : Int) by omega)]
        by_cases z2 : u = x
        · rw [if_pos z2, z2, hD x (by omega), decide_eq_true (show sX P R k = (x : Int) by omega), q_znadd]
          congr 1
          rw [if_pos rfl, if_neg (show ¬ false = true by simp)]
          omega
        · rw [if_neg z2, hD u hu, decide_eq_false (show ¬ sX P R k = (u : Int) by omega)]
          congr 1
          simp
  · rintro f N ⟨hI, hg, hD⟩
    have g1' : N.1 265 t = nI (sZ P R) := hg.1
    show ∃ M', f_X2_countSums_28 (nI t) (f + 1) (nI (cnt (sJ P R) (sZ P R))) (nI (sZ P R)) N = _ ∧ _
    rw [f_X2_countSums_28.eq_2, if_pos (q_in (by omega) (by omega)), q_cl (show t < 2147483648 by omega), g1', if_pos (Int32.le_refl _), sJ_all]
    exact s_count102 hI hg hD _ _
theorem s_countSums {M : PM} (ht : t < 4) (hI : gI M0 M t) (hg : gAll M t P R) : ∃ M', f_X2_countSums (nI t) M = some (nI (cnt (fit P R) 1540), M') ∧ gI M0 M' t ∧ gAll M' t P R ∧ ∀ u, u < 56 → M'.1 270 u = zI (sE P R u) := by
  unfold f_X2_countSums
  refine hr_for (σ := PM) (fun f s N => f_X2_countSums_2 (nI t) f (nI s) N) 56 (fun s N => gI M0 N t ∧ gAll N t P R ∧ ∀ u, u < s → N.1 270 u = zI 0) (fun r => ∃ M', r = some (nI (cnt (fit P R) 1540), M') ∧ gI M0 M' t ∧ gAll M' t P R ∧ ∀ u, u < 56 → M'.1 270 u = zI (sE P R u)) ?_ ?_ FU 0 M (by omega) (FU_ok (by omega)) ⟨hI, hg, fun u hu => by omega⟩
  · rintro f s N hs ⟨hI, hg, hD⟩
    right
    show ∃ s', f_X2_countSums_2 (nI t) (f + 1) (nI s) N = f_X2_countSums_2 (nI t) f (nI (s + 1)) s' ∧ _
    rw [f_X2_countSums_2.eq_2, q_lit 56, gO 56, if_neg (fun z => by have := (q_le (by omega) (by omega)).mp z; omega), if_pos (q_in (by omega) (by omega)), q_cl (by omega), q_lit 1, gO 1, q_add]
    refine ⟨_, rfl, hI.up (by omega), hg.up (by omega), fun u hu => ?_⟩
    rw [si_same]
    by_cases z : u = s
    · rw [if_pos z]; rfl
    · rw [if_neg z]; exact hD u (by omega)
  · rintro f N ⟨hI, hg, hD⟩
    show ∃ M', f_X2_countSums_2 (nI t) (f + 1) (nI 56) N = _ ∧ _
    rw [f_X2_countSums_2.eq_2, q_lit 56, gO 56, if_pos (Int32.le_refl _)]
    exact s_count28 ht hI hg hD
/-- the least so far -/
def lsI : Option Nat → Int32
  | none => nI 1571
  | some v => nI v
/-- of those picked, how many hold -/
noncomputable def hdJ (P : Pal) (R : Rol) (x y j : Nat) : Bool := cdH P (pk (fit P R) 1570 j) x y
theorem s_tell64 {M : PM} (hP : rP M0 a P) (ha : a + 9 ≤ 240) (ht : t < 4) (hI : gI M0 M t) (hg : gAll M t P R) {x y : Nat} (hx : x < y) (hy : y < pH P) (sums : Int32) (k17 : Int32 → Int32 → Int32 → Int32 → PM → Option (Int32 × PM)) (k32 : Int32 → Int32 → Int32 → Int32 → Int32 → PM → Option (Int32 × PM)) : f_X2_mostTelling_64 (nI t) a k17 k32 FU sums (ocI (amS (telF P R) (10 * x + y))) (lsI (lsO (telF P R) (10 * x + y))) (nI x) (nI y) (nI (cnt (hdJ P R x y) (cnt (fit P R) 1540))) (nI (cnt (fit P R) 1540)) M = k32 sums (ocI (amS (telF P R) (10 * x + (y + 1)))) (lsI (lsO (telF P R) (10 * x + (y + 1)))) (nI x) (nI (y + 1)) M := by
  have h10 := hP.1.2.1
  have hPM := rP_ag hP hI.1 (Nat.zero_le _) (by omega)
  have hz : sZ P R ≤ 1570 := cnt_le _ _
  have hm : cnt (fit P R) 1540 ≤ sZ P R := cnt_upto _ (by omega)
  obtain ⟨g1, g2⟩ := hg
  have g1' : M.1 265 t = nI (sZ P R) := g1
  refine hr_for (σ := Unit) (fun f k _ => f_X2_mostTelling_64 (nI t) a k17 k32 f sums (ocI (amS (telF P R) (10 * x + y))) (lsI (lsO (telF P R) (10 * x + y))) (nI x) (nI y) (nI (cnt (hdJ P R x y) k)) (nI k) M) (sZ P R) (fun _ _ => True) (fun r => r = _) ?_ ?_ FU (cnt (fit P R) 1540) () hm (FU_ok (by omega)) trivial
  · intro f k _ hk _
    right
    obtain ⟨e1, e2, e3⟩ := g2 k hk
    obtain ⟨p1, -, -⟩ := sJ_ok (P := P) (R := R) hk
    obtain ⟨c1, c2, c3, -⟩ := cd_ok p1
    have hcl := cnt_le (hdJ P R x y) k
    have ej : cnt (hdJ P R x y) (k + 1) = cnt (hdJ P R x y) k + (if hdJ P R x y k = true then 1 else 0) := rfl
    refine ⟨(), ?_, trivial⟩
    show f_X2_mostTelling_64 (nI t) a k17 k32 (f + 1) sums _ _ (nI x) (nI y) (nI (cnt (hdJ P R x y) k)) (nI k) M = f_X2_mostTelling_64 (nI t) a k17 k32 f sums _ _ (nI x) (nI y) (nI (cnt (hdJ P R x y) (k + 1))) (nI (k + 1)) M
    rw [f_X2_mostTelling_64.eq_2, if_pos (q_in (by omega) (by omega)), q_cl (show t < 2147483648 by omega), g1', if_neg (fun z => by have := (q_le (by omega) (by omega)).mp z; omega), q_lit 1570, gO 1570, q_mul, q_add, if_pos (q_in (by omega) (by omega)), if_pos (q_in (by omega) (by omega)), if_pos (q_in (by omega) (by omega)), q_cl (by omega), Nat.mul_comm t 1570, e1, e2, e3, s_wouldHold hPM (by omega) hy (by omega) c2 c3, q_bd_some, show (0 : Int32) = nI 0 from rfl, show (1 : Int32) = nI 1 from rfl, q_add, q_add, q_add, ej]
    have e : hold1 P (cdS (pk (fit P R) 1570 k)) (cdX (pk (fit P R) 1570 k)) (cdY (pk (fit P R) 1570 k)) x y = hdJ P R x y k := rfl
    rw [e]
    cases hdJ P R x y k with
    | false => rw [if_pos (show bI false = nI 0 from rfl)]; rfl
    | true => rw [if_neg (show ¬ bI true = nI 0 by decide)]; rfl
  · intro f _ _
    have hcl := cnt_le (hdJ P R x y) (sZ P R)
    have ec : cnt (hdJ P R x y) (sZ P R) = cnt (fun n => fit P R n && cdH P n x y) 1570 := cnt_pk (fit P R) (fun n => cdH P n x y) (Nat.le_refl _)
    have et : telF P R (10 * x + y) = some (max (cnt (hdJ P R x y) (sZ P R)) (sZ P R - cnt (hdJ P R x y) (sZ P R))) := by
      unfold telF
      rw [show (10 * x + y) / 10 = x by omega, show (10 * x + y) % 10 = y by omega, if_pos ⟨hx, hy⟩, ec]
      rfl
    generalize hv : max (cnt (hdJ P R x y) (sZ P R)) (sZ P R - cnt (hdJ P R x y) (sZ P R)) = v at *
    have hv2 : v ≤ 1570 := by omega
    have ei : jx (nI (cnt (hdJ P R x y) (sZ P R))) (nI (sZ P R) - nI (cnt (hdJ P R x y) (sZ P R))) = nI v := by rw [q_sub hcl, q_jx (by omega) (by omega), hv]
    show f_X2_mostTelling_64 (nI t) a k17 k32 (f + 1) sums _ _ (nI x) (nI y) (nI (cnt (hdJ P R x y) (sZ P R))) (nI (sZ P R)) M = _
    rw [f_X2_mostTelling_64.eq_2, if_pos (q_in (by omega) (by omega)), q_cl (show t < 2147483648 by omega), g1', if_pos (Int32.le_refl _), if_pos (q_in (by omega) (by omega)), ei, show 10 * x + (y + 1) = 10 * x + y + 1 by omega, q_lit 1, gO 1, q_add]
    cases hq : lsO (telF P R) (10 * x + y) with
    | none =>
      obtain ⟨n1, n2⟩ := am_new et (fun a ha => by rw [hq] at ha; cases ha)
      rw [n1, n2, show lsI none = nI 1571 from rfl, if_neg (fun z => by have := (q_le (by omega) (by omega)).mp z; omega), q_lit 10, gO 10, q_mul, q_add]
      rfl
    | some w =>
      by_cases hw : w ≤ v
      · obtain ⟨n1, n2⟩ := am_old et hq hw
        have hw2 : w ≤ 1570 := by omega
        rw [n1, n2, show lsI (some w) = nI w from rfl, if_pos ((q_le (by omega) (by omega)).mpr hw)]
      · obtain ⟨n1, n2⟩ := am_new et (fun a ha => by rw [hq] at ha; cases ha; omega)
        have hw2 : w ≤ 1570 := lsO_le (fun k b _ hb => telF_le P R k b hb) hq
        rw [n1, n2, show lsI (some w) = nI w from rfl, if_neg (fun z => by have := (q_le (by omega) (by omega)).mp z; omega), q_lit 10, gO 10, q_mul, q_add]
        rfl
/-- nothing stands between -/
theorem tel_skip (n m : Nat) (h : n ≤ m) (hz : ∀ c, n ≤ c → c < m → telF P R c = none) : lsO (telF P R) m = lsO (telF P R) n ∧ amS (telF P R) m = amS (telF P R) n := by
  induction m with
  | zero => rw [show n = 0 by omega]; exact ⟨rfl, rfl⟩
  | succ m ih =>
    by_cases e : n = m + 1
    · rw [e]; exact ⟨rfl, rfl⟩
    · obtain ⟨i1, i2⟩ := ih (by omega) (fun c h1 h2 => hz c h1 (by omega))
      obtain ⟨j1, j2⟩ := am_skip (hz m (by omega) (by omega))
      rw [j1, j2]
      exact ⟨i1, i2⟩
theorem s_mostTelling {M : PM} (hP : rP M0 a P) (ha : a + 9 ≤ 240) (ht : t < 4) (hI : gI M0 M t) (hg : gAll M t P R) : ∃ M', f_X2_mostTelling (nI t) a M = some (ocI (telS P R), M') ∧ gI M0 M' t ∧ gAll M' t P R := by
  have h10 := hP.1.2.1
  obtain ⟨M', c1, c2, c3, c4⟩ := s_countSums ht hI hg
  have hPM := rP_ag hP c2.1 (Nat.zero_le _) (by omega)
  have hm : cnt (fit P R) 1540 ≤ 1540 := cnt_le _ _
  unfold f_X2_mostTelling
  rw [if_pos hP.1.1, c1, q_bd_some, show (-1 : Int32) = ocI (amS (telF P R) 0) from rfl, show (1571 : Int32) = lsI (lsO (telF P R) 0) from rfl]
  refine ⟨M', ?_, c2, c3⟩
  refine hr_for (σ := Unit) (fun f x _ => f_X2_mostTelling_17 (nI t) a f (nI (cnt (fit P R) 1540)) (ocI (amS (telF P R) (10 * x))) (lsI (lsO (telF P R) (10 * x))) (nI x) M') (pH P) (fun _ _ => True) (fun r => r = some (ocI (telS P R), M')) ?_ ?_ FU 0 () (Nat.zero_le _) (FU_ok (by omega)) trivial
  · intro f x _ hx _
    right
    refine ⟨(), ?_, trivial⟩
    show f_X2_mostTelling_17 (nI t) a (f + 1) _ _ _ (nI x) M' = f_X2_mostTelling_17 (nI t) a f _ (ocI (amS (telF P R) (10 * (x + 1)))) (lsI (lsO (telF P R) (10 * (x + 1)))) (nI (x + 1)) M'
    rw [f_X2_mostTelling_17.eq_2, hPM.2.1.1, if_neg (fun z => by have := (q_le (by omega) (by omega)).mp z; omega), q_lit 1, gO 1, q_add]
    have st := tel_skip (P := P) (R := R) (10 * x) (10 * x + (x + 1)) (by omega) (fun c h1 h2 => by unfold telF; rw [if_neg (by omega)])
    rw [← st.1, ← st.2]
    refine hr_for (σ := Unit) (fun g y _ => f_X2_mostTelling_32 (nI t) a (fun x3 x4 x5 x6 M => f_X2_mostTelling_17 (nI t) a f x3 x4 x5 x6 M) g (nI (cnt (fit P R) 1540)) (ocI (amS (telF P R) (10 * x + y))) (lsI (lsO (telF P R) (10 * x + y))) (nI x) (nI y) M') (pH P) (fun y _ => x < y) (fun r => r = _) ?_ ?_ FU (x + 1) () (by omega) (FU_ok (by omega)) (by omega)
    · intro g y _ hy hxy
      right
      refine ⟨(), ?_, by omega⟩
      have b0 := pP_le hP.1.2
      have ba := b0 (3 * x); have ba1 := b0 (3 * x + 1); have ba2 := b0 (3 * x + 2)
      have bb := b0 (3 * y); have bb1 := b0 (3 * y + 1); have bb2 := b0 (3 * y + 2)
      have hta : tot P x + tot P y < 56 := by unfold tot; omega
      show f_X2_mostTelling_32 (nI t) a _ (g + 1) _ _ _ (nI x) (nI y) M' = f_X2_mostTelling_32 (nI t) a _ g _ (ocI (amS (telF P R) (10 * x + (y + 1)))) (lsI (lsO (telF P R) (10 * x + (y + 1)))) (nI x) (nI (y + 1)) M'
      rw [f_X2_mostTelling_32.eq_2, hPM.2.1.1, if_neg (fun z => by have := (q_le (by omega) (by omega)).mp z; omega), s_total hPM hx, q_bd_some, s_total hPM hy, q_bd_some, q_add, if_pos (q_in (by omega) (by omega)), q_cl (by omega), c4 _ hta, sE_is]
      have e : cnt (fun j => sJ P R j && decide (sX P R j ≤ (tot P x + tot P y : Nat) ∧ ((tot P x + tot P y : Nat) : Int) ≤ sY P R j)) (sZ P R) = cnt (hdJ P R x y) (cnt (fit P R) 1540) := by
        rw [← sJ_cnt]
        refine cnt_congr (fun j hj => ?_)
        cases hq : sJ P R j with
        | false => rfl
        | true =>
          have h0 : cdS (pk (fit P R) 1570 j) = 0 := of_decide_eq_true hq
          rw [Bool.true_and, Bool.true_and]
          unfold hdJ cdH hold1 tch mea
          rw [h0, if_pos rfl, if_pos rfl, if_pos rfl]
          unfold sX sY
          rw [decide_eq_decide, Int.natCast_add]
      rw [e, ← q_nz]
      exact s_tell64 hP ha ht c2 c3 hxy hy _ _ _
    · intro g _ hxy
      show f_X2_mostTelling_32 (nI t) a _ (g + 1) _ _ _ (nI x) (nI (pH P)) M' = _
      have st2 := tel_skip (P := P) (R := R) (10 * x + pH P) (10 * (x + 1)) (by omega) (fun c h1 h2 => by unfold telF; rw [if_neg (by omega)])
      rw [f_X2_mostTelling_32.eq_2, hPM.2.1.1, if_pos (Int32.le_refl _), q_lit 1, gO 1, q_add, st2.1, st2.2]
  · intro f _ _
    show f_X2_mostTelling_17 (nI t) a (f + 1) _ _ _ (nI (pH P)) M' = _
    have st2 := tel_skip (P := P) (R := R) (10 * pH P) 100 (by omega) (fun c h1 h2 => by unfold telF; rw [if_neg (by omega)])
    rw [f_X2_mostTelling_17.eq_2, hPM.2.1.1, if_pos (Int32.le_refl _), ← st2.2]
    rfl
end CLS
