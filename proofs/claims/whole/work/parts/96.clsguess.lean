/-! FITS: the class finds those that may be -/
/-- a slot's rules so far, n candidates having been looked at -/
def gst (M : PM) (t : Nat) (P : Pal) (R : Rol) (n : Nat) : Prop := M.1 265 t = nI (cnt (fit P R) n) ∧ ∀ j, j < cnt (fit P R) n → M.1 267 (1570 * t + j) = zI (cdS (pk (fit P R) 1570 j)) ∧ M.1 268 (1570 * t + j) = zI (cdX (pk (fit P R) 1570 j)) ∧ M.1 269 (1570 * t + j) = zI (cdY (pk (fit P R) 1570 j))
/-- the other slots are as they were -/
def osl (t : Nat) (M M' : PM) : Prop := ∀ u, u < 4 → u ≠ t → M'.1 265 u = M.1 265 u ∧ M'.1 266 u = M.1 266 u ∧ ∀ j, j < 1570 → M'.1 267 (1570 * u + j) = M.1 267 (1570 * u + j) ∧ M'.1 268 (1570 * u + j) = M.1 268 (1570 * u + j) ∧ M'.1 269 (1570 * u + j) = M.1 269 (1570 * u + j)
theorem osl.rf (t : Nat) (M : PM) : osl t M M := fun _ _ _ => ⟨rfl, rfl, fun _ _ => ⟨rfl, rfl, rfl⟩⟩
theorem osl.tr {t : Nat} {M M1 M2 : PM} (h1 : osl t M M1) (h2 : osl t M1 M2) : osl t M M2 := fun u hu hn => ⟨(h2 u hu hn).1.trans (h1 u hu hn).1, (h2 u hu hn).2.1.trans (h1 u hu hn).2.1, fun j hj => ⟨((h2 u hu hn).2.2 j hj).1.trans ((h1 u hu hn).2.2 j hj).1, ((h2 u hu hn).2.2 j hj).2.1.trans ((h1 u hu hn).2.2 j hj).2.1, ((h2 u hu hn).2.2 j hj).2.2.trans ((h1 u hu hn).2.2 j hj).2.2⟩⟩
theorem osl.si {t : Nat} {M M1 : PM} {c k : Nat} {v : Int32} (h : osl t M M1) (hc : (c = 265 ∧ k = t) ∨ (c = 266 ∧ k = t) ∨ ((c = 267 ∨ c = 268 ∨ c = 269) ∧ ∃ j, j < 1570 ∧ k = 1570 * t + j) ∨ (c < 265 ∨ 269 < c)) : osl t M (hr_si M1 c k v) := by
  have key : ∀ d i, ¬ (d = c ∧ i = k) → (hr_si M1 c k v).1 d i = M1.1 d i := by
    intro d i hn
    rw [q_si1]
    by_cases e : d = c
    · rw [if_pos e, if_neg (fun z => hn ⟨e, z⟩)]
    · rw [if_neg e]
  intro u hu hn
  obtain ⟨h1, h2, h3⟩ := h u hu hn
  refine ⟨?_, ?_, fun j hj => ⟨?_, ?_, ?_⟩⟩
  · rw [key 265 u (by rintro ⟨rfl, rfl⟩; rcases hc with ⟨-, g⟩ | ⟨g, -⟩ | ⟨g, -⟩ | g <;> omega)]; exact h1
  · rw [key 266 u (by rintro ⟨rfl, rfl⟩; rcases hc with ⟨g, -⟩ | ⟨-, g⟩ | ⟨g, -⟩ | g <;> omega)]; exact h2
  · rw [key 267 _ (by rintro ⟨rfl, g0⟩; rcases hc with ⟨g, -⟩ | ⟨g, -⟩ | ⟨-, i, g1, g2⟩ | g <;> omega)]; exact (h3 j hj).1
  · rw [key 268 _ (by rintro ⟨rfl, g0⟩; rcases hc with ⟨g, -⟩ | ⟨g, -⟩ | ⟨-, i, g1, g2⟩ | g <;> omega)]; exact (h3 j hj).2.1
  · rw [key 269 _ (by rintro ⟨rfl, g0⟩; rcases hc with ⟨g, -⟩ | ⟨g, -⟩ | ⟨-, i, g1, g2⟩ | g <;> omega)]; exact (h3 j hj).2.2
/-- what a search of rules stands on -/
def gI (M0 M : PM) (t : Nat) : Prop := agr 0 240 M0 M ∧ osl t M0 M
/-- a sight and a palette that go together -/
def sOK (P : Pal) (R : Rol) : Prop := pOK P ∧ oOK 3 R ∧ ∀ k, k < oN R → ((oA R k).toNat < pH P ∧ zI (oA R k) = nI (oA R k).toNat) ∧ (oB R k).toNat < pH P ∧ zI (oB R k) = nI (oB R k).toNat
theorem sOK.of {P : Pal} {R : Rol} (hP : pOK P) (ho : oOK 3 R) (ht : tog P R = true) : sOK P R := by
  refine ⟨hP, ho, fun k hk => ?_⟩
  have h1 : oS R < 2 ^ pH P := of_decide_eq_true ht
  obtain ⟨g1, g3, g4⟩ := ho
  rw [g3] at h1
  have h2 := namB_lt.mp h1 k hk
  have h3 := g4 k hk
  refine ⟨⟨h2.1, ?_⟩, h2.2, ?_⟩
  · rw [q_nz]; congr 1; omega
  · rw [q_nz]; congr 1; omega
section CLS
variable {a b : Nat} {P : Pal} {R : Rol} {M0 : PM} {t : Nat}
theorem s_propose {M : PM} (hP : rP M0 a P) (ha : a + 9 ≤ 240) (hR : rR M0 b R) (hb : b + 4 ≤ 240) (hs : sOK P R) (ht : t < 4) {n : Nat} (hn : n < 1570) (hg : gst M t P R n) (hI : gI M0 M t) : ∃ M', f_X2_propose (nI t) a b (zI (cdS n)) (zI (cdX n)) (zI (cdY n)) M = some ((), M') ∧ gst M' t P R (n + 1) ∧ gI M0 M' t := by
  have hPM := rP_ag hP hI.1 (Nat.zero_le _) (by omega)
  have hRM := rR_ag hR hI.1 (Nat.zero_le _) (by omega)
  obtain ⟨c1, c2, c3, -, -, -⟩ := cd_ok hn
  obtain ⟨-, ho, hk⟩ := hs
  have h12 : oN R ≤ 12 := ho.1
  have hcn := cnt_le (fit P R) n
  have ecn : cnt (fit P R) (n + 1) = cnt (fit P R) n + (if fit P R n then 1 else 0) := rfl
  unfold f_X2_propose
  rw [if_pos hPM.1.1, if_pos hRM.1]
  refine hr_for (σ := Unit) (fun f k _ => f_X2_propose_3 (nI t) a b (zI (cdS n)) (zI (cdX n)) (zI (cdY n)) f (nI k) M) (oN R) (fun k _ => exb (fun k => cdH P n (oA R k).toNat (oB R k).toNat != decide (oC R k = 1)) k = false) (fun x => ∃ M', x = some ((), M') ∧ gst M' t P R (n + 1) ∧ gI M0 M' t) ?_ ?_ FU 0 () (Nat.zero_le _) (FU_ok (by omega)) rfl
  · intro f k _ hkn hno
    obtain ⟨⟨k1, k2⟩, k3, k4⟩ := hk k hkn
    have hc := ho.2.2 k hkn
    obtain ⟨e1, e2, e3⟩ := hRM.2.2 k hkn
    show (∃ M', f_X2_propose_3 (nI t) a b _ _ _ (f + 1) (nI k) M = some ((), M') ∧ _) ∨ ∃ _ : Unit, f_X2_propose_3 (nI t) a b _ _ _ (f + 1) (nI k) M = f_X2_propose_3 (nI t) a b _ _ _ f (nI (k + 1)) M ∧ exb _ (k + 1) = false
    rw [f_X2_propose_3.eq_2, hRM.2.1.1, if_neg (fun z => by have := (q_le (by omega) (by omega)).mp z; omega), if_pos (q_in (by omega) (by omega)), q_cl (by omega), e1]
    have e28 : ∀ s0, f_X2_propose_28 (nI t) a b (zI (cdS n)) (zI (cdX n)) (zI (cdY n)) (fun x7 M => f_X2_propose_3 (nI t) a b (zI (cdS n)) (zI (cdX n)) (zI (cdY n)) f x7 M) (nI k) (bI s0) M = if cdH P n (oA R k).toNat (oB R k).toNat = s0 then f_X2_propose_3 (nI t) a b (zI (cdS n)) (zI (cdX n)) (zI (cdY n)) f (nI (k + 1)) M else some ((), M) := by
      intro s0
      unfold f_X2_propose_28
      rw [if_pos (q_in (by omega) (by omega)), if_pos (q_in (by omega) (by omega)), q_cl (by omega), e2, e3, k2, k4, s_wouldHold hPM k1 k3 (by omega) c2 c3, q_bd_some, q_lit 1, gO 1, q_add, show hold1 P (cdS n) (cdX n) (cdY n) (oA R k).toNat (oB R k).toNat = cdH P n (oA R k).toNat (oB R k).toNat from rfl]
      by_cases z : cdH P n (oA R k).toNat (oB R k).toNat = s0
      · rw [if_pos (show bI (cdH P n (oA R k).toNat (oB R k).toNat) = bI s0 by rw [z]), if_pos z]
      · rw [if_neg (fun y => z (Eq.mp (q_bb _ _) y)), if_neg z]
    have e28' : (if zI (oC R k) = 1 then f_X2_propose_28 (nI t) a b (zI (cdS n)) (zI (cdX n)) (zI (cdY n)) (fun x7 M => f_X2_propose_3 (nI t) a b (zI (cdS n)) (zI (cdX n)) (zI (cdY n)) f x7 M) (nI k) 1 M else f_X2_propose_28 (nI t) a b (zI (cdS n)) (zI (cdX n)) (zI (cdY n)) (fun x7 M => f_X2_propose_3 (nI t) a b (zI (cdS n)) (zI (cdX n)) (zI (cdY n)) f x7 M) (nI k) 0 M) = if cdH P n (oA R k).toNat (oB R k).toNat = decide (oC R k = 1) then f_X2_propose_3 (nI t) a b (zI (cdS n)) (zI (cdX n)) (zI (cdY n)) f (nI (k + 1)) M else some ((), M) := by
      rcases hc.1 with z | z
      · rw [z, if_neg (show ¬ zI 0 = 1 by decide)]
        exact e28 false
      · rw [z, if_pos (show zI 1 = 1 from rfl)]
        exact e28 true
    rw [e28']
    by_cases z : cdH P n (oA R k).toNat (oB R k).toNat = decide (oC R k = 1)
    · right
      rw [if_pos z]
      refine ⟨(), rfl, ?_⟩
      show (exb _ k || _) = false
      rw [hno]
      dsimp only
      rw [z]
      simp
    · left
      rw [if_neg z]
      have hf : fit P R n = false := by
        unfold fit
        rw [exb_iff.mpr ⟨k, hkn, by simpa using z⟩]
        rfl
      refine ⟨M, rfl, ?_, hI⟩
      unfold gst
      rw [ecn, hf]
      exact hg
  · intro f _ hno
    have hf : fit P R n = true := by
      unfold fit
      rw [hno]
      rfl
    have ep := (pk_ok (fit P R) 1570).2 n hn hf
    show ∃ M', f_X2_propose_3 (nI t) a b _ _ _ (f + 1) (nI (oN R)) M = some ((), M') ∧ _
    rw [f_X2_propose_3.eq_2, hRM.2.1.1, if_pos (Int32.le_refl _), if_pos (q_in (by omega) (by omega)), q_cl (show t < 2147483648 by omega), hg.1, q_lit 1570, gO 1570, if_neg (fun z => by have := (q_le (by omega) (by omega)).mp z; omega), q_mul, q_add, if_pos (q_in (by omega) (by omega)), if_pos (q_in (by omega) (by omega)), if_pos (q_in (by omega) (by omega)), if_pos (q_in (by omega) (by omega)), if_pos (q_in (by omega) (by omega)), if_pos (q_in (by omega) (by omega)), q_cl (by omega), Nat.mul_comm t 1570]
    obtain ⟨hg1, hg2⟩ := hg
    generalize hc : cnt (fit P R) n = c at *
    have e5 : (hr_si (hr_si (hr_si M 267 (1570 * t + c) (zI (cdS n))) 268 (1570 * t + c) (zI (cdX n))) 269 (1570 * t + c) (zI (cdY n))).1 265 t = nI c := by
      rw [si_ne _ _ _ (by omega), si_ne _ _ _ (by omega), si_ne _ _ _ (by omega)]; exact hg1
    rw [e5, q_lit 1, gO 1, q_add]
    refine ⟨_, rfl, ⟨?_, fun j hj => ?_⟩, ?_, ?_⟩
    · rw [si_same, if_pos rfl, ecn, hf]; rfl
    · rw [ecn, hf, if_pos rfl] at hj
      refine ⟨?_, ?_, ?_⟩
      · rw [si_ne _ _ _ (by omega), si_ne _ _ _ (by omega), si_ne _ _ _ (by omega), si_same]
        by_cases z : j = c
        · rw [if_pos (by omega), z, ep]
        · rw [if_neg (by omega)]; exact (hg2 j (by omega)).1
      · rw [si_ne _ _ _ (by omega), si_ne _ _ _ (by omega), si_same]
        by_cases z : j = c
        · rw [if_pos (by omega), z, ep]
        · rw [if_neg (by omega), si_ne _ _ _ (by omega)]; exact (hg2 j (by omega)).2.1
      · rw [si_ne _ _ _ (by omega), si_same]
        by_cases z : j = c
        · rw [if_pos (by omega), z, ep]
        · rw [if_neg (by omega), si_ne _ _ _ (by omega), si_ne _ _ _ (by omega)]; exact (hg2 j (by omega)).2.2
    · exact (((hI.1.si (by omega)).si (by omega)).si (by omega)).si (by omega)
    · refine (((hI.2.si ?_).si ?_).si ?_).si ?_
      · exact Or.inr (Or.inr (Or.inl ⟨by omega, c, by omega, rfl⟩))
      · exact Or.inr (Or.inr (Or.inl ⟨by omega, c, by omega, rfl⟩))
      · exact Or.inr (Or.inr (Or.inl ⟨by omega, c, by omega, rfl⟩))
      · exact Or.inl ⟨rfl, rfl⟩
/-- sums that hold -/
noncomputable def sJ (P : Pal) (R : Rol) (j : Nat) : Bool := decide (cdS (pk (fit P R) 1570 j) = 0)
noncomputable def sX (P : Pal) (R : Rol) (j : Nat) : Int := cdX (pk (fit P R) 1570 j)
noncomputable def sY (P : Pal) (R : Rol) (j : Nat) : Int := cdY (pk (fit P R) 1570 j)
def sZ (P : Pal) (R : Rol) : Nat := cnt (fit P R) 1570
theorem sJ_ok {j : Nat} (hj : j < sZ P R) : pk (fit P R) 1570 j < 1570 ∧ sJ P R j = decide (j < cnt (fit P R) 1540) ∧ (sJ P R j = true → 0 ≤ sX P R j ∧ sX P R j ≤ sY P R j ∧ sY P R j ≤ 54) := by
  obtain ⟨p1, p2, p3⟩ := (pk_ok (fit P R) 1570).1 j hj
  obtain ⟨c1, c2, c3, c4, c5, -⟩ := cd_ok p1
  refine ⟨p1, ?_, fun h => ?_⟩
  · unfold sJ
    rw [decide_eq_decide, c4]
    constructor
    · intro h
      have h1 := cnt_upto (fit P R) (show pk (fit P R) 1570 j + 1 ≤ 1540 by omega)
      have : cnt (fit P R) (pk (fit P R) 1570 j + 1) = cnt (fit P R) (pk (fit P R) 1570 j) + (if fit P R (pk (fit P R) 1570 j) then 1 else 0) := rfl
      rw [p2, p3, if_pos rfl] at this
      omega
    · intro h
      refine Classical.byContradiction (fun z => ?_)
      have h1 := cnt_upto (fit P R) (show 1540 ≤ pk (fit P R) 1570 j by omega)
      rw [p3] at h1
      omega
  · unfold sJ at h
    have := c5 (of_decide_eq_true h)
    unfold sX sY
    omega
/-- how many sums begin at a total, less those that have ended before it -/
noncomputable def sD (P : Pal) (R : Rol) (k u : Nat) : Int := (cnt (fun j => sJ P R j && decide (sX P R j = u)) k : Int) - (cnt (fun j => sJ P R j && decide (sY P R j + 1 = u)) k : Int)
noncomputable def sE (P : Pal) (R : Rol) (u : Nat) : Int := (cnt (fun j => sJ P R j && decide (sX P R j ≤ u)) (sZ P R) : Int) - (cnt (fun j => sJ P R j && decide (sY P R j + 1 ≤ u)) (sZ P R) : Int)
theorem sE_0 : sE P R 0 = sD P R (sZ P R) 0 := by
  unfold sE sD
  have e1 : cnt (fun j => sJ P R j && decide (sX P R j ≤ ((0 : Nat) : Int))) (sZ P R) = cnt (fun j => sJ P R j && decide (sX P R j = ((0 : Nat) : Int))) (sZ P R) := cnt_congr (fun j hj => by
    cases h : sJ P R j with
    | false => rfl
    | true =>
      have := (sJ_ok hj).2.2 h
      rw [Bool.true_and, Bool.true_and, decide_eq_decide]
      omega)
  have e2 : cnt (fun j => sJ P R j && decide (sY P R j + 1 ≤ ((0 : Nat) : Int))) (sZ P R) = cnt (fun j => sJ P R j && decide (sY P R j + 1 = ((0 : Nat) : Int))) (sZ P R) := cnt_congr (fun j hj => by
    cases h : sJ P R j with
    | false => rfl
    | true =>
      have := (sJ_ok hj).2.2 h
      rw [Bool.true_and, Bool.true_and, decide_eq_decide]
      omega)
  rw [e1, e2]
theorem sE_s (u : Nat) : sE P R (u + 1) = sE P R u + sD P R (sZ P R) (u + 1) := by
  unfold sE sD
  have e1 : cnt (fun j => sJ P R j && decide (sX P R j ≤ (u + 1 : Nat))) (sZ P R) = cnt (fun j => sJ P R j && decide (sX P R j ≤ (u : Nat))) (sZ P R) + cnt (fun j => sJ P R j && decide (sX P R j = (u + 1 : Nat))) (sZ P R) := cnt_sum (fun j hj => by
    cases h : sJ P R j with
    | false => simp
    | true =>
      by_cases z1 : sX P R j ≤ u
      · rw [decide_eq_true (show sX P R j ≤ ((u + 1 : Nat) : Int) by omega), decide_eq_true z1, decide_eq_false (show ¬ sX P R j = ((u + 1 : Nat) : Int) by omega)]; rfl
      · by_cases z2 : sX P R j = ((u + 1 : Nat) : Int)
        · rw [decide_eq_true (show sX P R j ≤ ((u + 1 : Nat) : Int) by omega), decide_eq_false z1, decide_eq_true z2]; rfl
        · rw [decide_eq_false (show ¬ sX P R j ≤ ((u + 1 : Nat) : Int) by omega), decide_eq_false z1, decide_eq_false z2]; rfl)
  have e2 : cnt (fun j => sJ P R j && decide (sY P R j + 1 ≤ (u + 1 : Nat))) (sZ P R) = cnt (fun j => sJ P R j && decide (sY P R j + 1 ≤ (u : Nat))) (sZ P R) + cnt (fun j => sJ P R j && decide (sY P R j + 1 = (u + 1 : Nat))) (sZ P R) := cnt_sum (fun j hj => by
    cases h : sJ P R j with
    | false => simp
    | true =>
      by_cases z1 : sY P R j + 1 ≤ u
      · rw [decide_eq_true (show sY P R j + 1 ≤ ((u + 1 : Nat) : Int) by omega), decide_eq_true z1, decide_eq_false (show ¬ sY P R j + 1 = ((u + 1 : Nat) : Int) by omega)]; rfl
      · by_cases z2 : sY P R j + 1 = ((u + 1 : Nat) : Int)
        · rw [decide_eq_true (show sY P R j + 1 ≤ ((u + 1 : Nat) : Int) by omega), decide_eq_false z1, decide_eq_true z2]; rfl
        · rw [decide_eq_false (show ¬ sY P R j + 1 ≤ ((u + 1 : Nat) : Int) by omega), decide_eq_false z1, decide_eq_false z2]; rfl)
  rw [e1, e2]
  omega
/-- so many sums hold with a total -/
theorem sE_is (u : Nat) : sE P R u = (cnt (fun j => sJ P R j && decide (sX P R j ≤ u ∧ (u : Int) ≤ sY P R j)) (sZ P R) : Int) := by
  have e1 : cnt (fun j => sJ P R j && decide (sX P R j ≤ (u : Nat))) (sZ P R) = cnt (fun j => sJ P R j && decide (sX P R j ≤ u ∧ (u : Int) ≤ sY P R j)) (sZ P R) + cnt (fun j => sJ P R j && decide (sY P R j + 1 ≤ (u : Nat))) (sZ P R) := cnt_sum (fun j hj => by
    cases h : sJ P R j with
    | false => simp
    | true =>
      have hb := (sJ_ok hj).2.2 h
      by_cases z1 : sX P R j ≤ u
      · by_cases z2 : sY P R j + 1 ≤ u
        · rw [decide_eq_true z1, decide_eq_true z2, decide_eq_false (by omega)]; rfl
        · rw [decide_eq_true z1, decide_eq_false z2, decide_eq_true (by omega)]; rfl
      · rw [decide_eq_false z1, decide_eq_false (show ¬ sY P R j + 1 ≤ (u : Int) by omega), decide_eq_false (by omega)]; rfl)
  unfold sE
  rw [e1]
  omega
theorem sJ_cnt (r : Nat → Bool) : cnt (fun j => sJ P R j && r j) (sZ P R) = cnt r (cnt (fit P R) 1540) := by
  have h := cnt_upto (fit P R) (show 1540 ≤ 1570 by omega)
  rw [← cnt_below (p := r) (n := sZ P R) h]
  exact cnt_congr (fun j hj => by rw [(sJ_ok hj).2.1])
theorem cnt_true (n : Nat) : cnt (fun _ => true) n = n := by
  induction n with
  | zero => rfl
  | succ n ih => show cnt _ n + 1 = n + 1; rw [ih]
theorem sJ_all : cnt (sJ P R) (sZ P R) = cnt (fit P R) 1540 := by
  have := sJ_cnt (P := P) (R := R) (fun _ => true)
  rw [cnt_true] at this
  rw [← this]
  exact cnt_congr (fun j _ => by rw [Bool.and_true])
end CLS
