/-! THE CLASS'S READER: words, numbers, a guest's hues -/
/-- all cells of a frame are below a number -/
def hr_up (W : List (Nat × Nat)) (n : Nat) : Bool := W.all (fun q => Nat.blt q.1 n)
theorem hr_up_in : ∀ {W : List (Nat × Nat)} {n a : Nat}, hr_up W n = true → n ≤ a → ∀ k, hr_in W a k = false
  | [], _, _, _, _, _ => rfl
  | (b, s) :: W, n, a, h, ha, k => by
    have h2 : (Nat.blt b n && hr_up W n) = true := h
    rw [Bool.and_eq_true] at h2
    have h3 : b < n := Nat.le_of_ble_eq_true h2.1
    unfold hr_in
    rw [beqF (show b ≠ a by omega), hr_up_in h2.2 ha k]
    rfl
theorem hr_MS.fr {M M' : PM} (h : hr_MS M) {W : List (Nat × Nat)} (hf : hr_fr W M M') (hu : hr_up W 305 = true) : hr_MS M' := fun a ha => by
  have e : hr_n = 305 := rfl
  rw [hf.row a (hr_up_in hu (by omega))]
  exact h a ha
theorem ms_at {M : PM} (h : hr_MS M) {a : Nat} (ha : 305 ≤ a) (k : Nat) : M.1 a k = hr_s0 a k := by rw [h a ha]
section CLS
variable {B : Nat → Nat} {L : Nat}
theorem s_spells {M : PM} (hm : hr_MS M) (hr : rdT M B L) (hL : L ≤ 600) (hB : ∀ i, B i < 256) {p : Nat} (hp : p ≤ L) (ht : cTk M B L p) (h1 : kT B L p = 1) {k : Nat} (hk : k < 18) : f_X5_spells (325 + k) M = some (bI (isW B L p k), M) := by
  obtain ⟨-, -, ⟨-, t2, t3⟩, -, -, tl⟩ := tbl_ok k hk
  obtain ⟨p1, p2, p3, p4, p5, p6⟩ := tok_ok (B := B) hL hp
  unfold f_X5_spells
  rw [if_pos t2, ht.1, ht.2.2.1, t3, q_sub p3, show Int32.ofNat (wln k) = nI (wln k) from rfl]
  have ei : isW B L p k = (decide (nT B L p - sT B L p = wln k) && !exb (fun i => B (sT B L p + i) != wby k i) (wln k)) := by
    unfold isW
    rw [decide_eq_true h1, Bool.true_and]
  by_cases z : nT B L p - sT B L p = wln k
  · rw [if_pos (show nI (wln k) = nI (nT B L p - sT B L p) by rw [z]), ei, decide_eq_true z, Bool.true_and]
    refine hr_for (σ := Unit) (fun f i _ => f_X5_spells_20 (325 + k) f (nI i) M) (wln k) (fun i _ => exb (fun i => B (sT B L p + i) != wby k i) i = false) (fun r => r = some (bI (!exb (fun i => B (sT B L p + i) != wby k i) (wln k)), M)) ?_ ?_ FU 0 () (Nat.zero_le _) (FU_ok (by omega)) rfl
    · intro f i _ hi hno
      obtain ⟨w1, w2, w3⟩ := wds_ok k hk i hi
      have hb := hB (sT B L p + i)
      show f_X5_spells_20 (325 + k) (f + 1) (nI i) M = _ ∨ ∃ _ : Unit, f_X5_spells_20 (325 + k) (f + 1) (nI i) M = f_X5_spells_20 (325 + k) f (nI (i + 1)) M ∧ _
      rw [f_X5_spells_20.eq_2, t3, show Int32.ofNat (wln k) = nI (wln k) from rfl, if_neg (fun y => by have := (q_le (by omega) (by omega)).mp y; omega), ht.2.2.1, q_add, s_byteAt hr hL hB (by omega), if_pos (show sT B L p + i < L by omega), q_bd_some, if_pos (q_in (by omega) (by omega)), q_cl (by omega), ms_at hm (by omega), w1, q_lit 1, gO 1, q_add]
      by_cases y : B (sT B L p + i) = wby k i
      · right
        rw [if_pos (by rw [y])]
        refine ⟨(), rfl, ?_⟩
        show (exb _ i || _) = false
        rw [hno]
        dsimp only
        rw [y]
        simp
      · left
        rw [if_neg (fun w => y ((q_eq (by omega) (by omega)).mp w)), exb_iff.mpr ⟨i, hi, by simpa using y⟩]
        rfl
    · intro f _ hno
      show f_X5_spells_20 (325 + k) (f + 1) (nI (wln k)) M = _
      rw [f_X5_spells_20.eq_2, t3, show Int32.ofNat (wln k) = nI (wln k) from rfl, if_pos (Int32.le_refl _), hno]
      rfl
  · rw [if_neg (fun y => z ((q_eq (by omega) (by omega)).mp y).symm), ei, decide_eq_false z]
    rfl
theorem s_lineNamed {M : PM} (hm : hr_MS M) (hr : rdT M B L) (hL : L ≤ 600) (hB : ∀ i, B i < 256) {p : Nat} (hp : p ≤ L) (ht : cTk M B L p) (h1 : kT B L p = 1) {s : Nat} (hs : s < 5) : f_X5_lineNamed (nI s) M = some (match lkS B L s p with | none => .null | some k => .ref (307 + k), M) := by
  unfold f_X5_lineNamed lkS
  refine hr_for (σ := Unit) (fun f k _ => f_X5_lineNamed_2 (nI s) f (nI k) M) 18 (fun k _ => fst1 (fun k => decide (kc k / 10 = s) && isW B L p k) k = none) (fun r => r = some (match fst1 (fun k => decide (kc k / 10 = s) && isW B L p k) 18 with | none => .null | some k => .ref (307 + k), M)) ?_ ?_ FU 0 () (Nat.zero_le _) (FU_ok (by omega)) rfl
  · intro f k _ hk hno
    obtain ⟨⟨a1, -, -⟩, -, ⟨t1, t2, t3⟩, ⟨b1, -, -⟩, -, -⟩ := tbl_ok k hk
    have esort : f_X3_sort (306 + 1 + k) M = some (nI (kc k / 10), M) := by
      unfold f_X3_sort
      rw [if_pos (show hr_K (306 + 1 + k) = 19 from t1), show M.1 (306 + 1 + k) 0 = nI (kc k) from (ms_at hm (by omega) 0).trans a1, q_lit 10, gO 10, q_div (by omega) (by omega) (by omega)]
    have sp := s_spells hm hr hL hB hp ht h1 hk
    rw [show 325 + k = 306 + 1 + k + 18 by omega] at sp
    show f_X5_lineNamed_2 (nI s) (f + 1) (nI k) M = _ ∨ ∃ _ : Unit, f_X5_lineNamed_2 (nI s) (f + 1) (nI k) M = f_X5_lineNamed_2 (nI s) f (nI (k + 1)) M ∧ _
    rw [f_X5_lineNamed_2.eq_2, q_lit 18, gO 18, if_neg (fun y => by have := (q_le (by omega) (by omega)).mp y; omega), if_pos (q_in (by omega) (by omega)), q_cl (by omega), if_pos (show hr_K (306 + 1 + k) = 19 from t1), esort, q_bd_some, q_lit 1, gO 1, q_add]
    by_cases z : kc k / 10 = s
    · rw [if_pos (by rw [z]), if_pos (q_in (by omega) (by omega)), if_pos (show hr_K (306 + 1 + k) = 19 from t1), sp, q_bd_some]
      cases hw : isW B L p k with
      | false =>
        right
        rw [if_pos (show bI false = 0 from rfl)]
        exact ⟨(), rfl, fst1_no hno (by rw [hw, Bool.and_false])⟩
      | true =>
        left
        rw [if_neg (show ¬ bI true = 0 by decide), if_pos (q_in (by omega) (by omega)), if_pos (show hr_K (306 + 1 + k) = 19 from t1), fst1_hit hno (by rw [hw, decide_eq_true z]; rfl) hk]
    · right
      rw [if_neg (fun y => z ((q_eq (by omega) (by omega)).mp y))]
      exact ⟨(), rfl, fst1_no hno (by rw [decide_eq_false z]; rfl)⟩
  · intro f _ hno
    show f_X5_lineNamed_2 (nI s) (f + 1) (nI 18) M = _
    rw [f_X5_lineNamed_2.eq_2, q_lit 18, gO 18, if_pos (Int32.le_refl _), hno]
/-- what the numbers' reading may write -/
abbrev numW : List (Nat × Nat) := [(223, 7), (223, 8), (223, 9), (223, 10), (238, 0), (239, 0)]
theorem ps_le (hL : L ≤ 600) {p : Nat} (hp : p ≤ L) : ∀ i, ps B L p i ≤ L
  | 0 => hp
  | i + 1 => (tok_ok (B := B) hL (ps_le hL hp i)).2.2.2.1
theorem ps_s (p : Nat) : ∀ i, ps B L (nT B L p) i = ps B L p (i + 1)
  | 0 => rfl
  | i + 1 => by
    show nT B L (ps B L (nT B L p) i) = nT B L (ps B L p (i + 1))
    rw [ps_s p i]
/-- numbers that were read, and their places -/
def nmM (M : PM) (B : Nat → Nat) (L p m : Nat) : Prop := ∀ i, i < 3 → M.1 238 i = zI (if i < m then (vT B L (ps B L p i) : Int) else -1) ∧ (i < m → M.1 239 i = nI (sT B L (ps B L p i)))
theorem nmS_ps : ∀ m p, (nmS B L m p).1 = true → (nmS B L m p).2 = ps B L p m ∧ ∀ i, i < m → kT B L (ps B L p i) = 2
  | 0, p, _ => ⟨rfl, fun i hi => by omega⟩
  | m + 1, p, h => by
    unfold nmS at h ⊢
    by_cases z : kT B L p = 2
    · rw [if_pos z] at h ⊢
      obtain ⟨h1, h2⟩ := nmS_ps m (nT B L p) h
      refine ⟨h1.trans (ps_s p m), fun i hi => ?_⟩
      cases i with
      | zero => exact z
      | succ i => rw [← ps_s]; exact h2 i (by omega)
    · rw [if_neg z] at h; cases h
/-- reading on from the i-th of them -/
theorem nmS_at : ∀ i m p, i ≤ m → (∀ j, j < i → kT B L (ps B L p j) = 2) → nmS B L m p = nmS B L (m - i) (ps B L p i) := by
  intro i
  induction i with
  | zero => intro m p _ _; rfl
  | succ i ih =>
    intro m p hm h
    obtain ⟨m, rfl⟩ : ∃ k, m = k + 1 := ⟨m - 1, by omega⟩
    have h0 : kT B L p = 2 := h 0 (by omega)
    have e : nmS B L (m + 1) p = nmS B L m (nT B L p) := by
      show (if kT B L p = 2 then nmS B L m (nT B L p) else (false, p)) = _
      rw [if_pos h0]
    rw [e, ih m (nT B L p) (by omega) (fun j hj => by rw [ps_s]; exact h (j + 1) (by omega)), ps_s]
    congr 1
    omega
theorem s_readNumbers {M0 : PM} (hr : rdT M0 B L) (hL : L ≤ 600) (hB : ∀ i, B i < 256) {p m : Nat} (hp : p ≤ L) (ht : cTk M0 B L p) (hm : m ≤ 3) : ∃ M', f_X5_readNumbers (nI m) M0 = some (bI (nmS B L m p).1, M') ∧ hr_fr numW M0 M' ∧ cTk M' B L (nmS B L m p).2 ∧ ((nmS B L m p).1 = true → nmM M' B L p m) := by
  have e29 : ∀ M1, hr_fr numW M0 M1 → cTk M1 B L p → (∀ i, i < 3 → M1.1 238 i = zI (-1)) → ∃ M', f_X5_readNumbers_29 (nI m) FU (nI 0) M1 = some (bI (nmS B L m p).1, M') ∧ hr_fr numW M0 M' ∧ cTk M' B L (nmS B L m p).2 ∧ ((nmS B L m p).1 = true → nmM M' B L p m) := by
    intro M1 hf ht hn
    refine hr_for (σ := PM) (fun f i N => f_X5_readNumbers_29 (nI m) f (nI i) N) m (fun i N => hr_fr numW M0 N ∧ cTk N B L (ps B L p i) ∧ (∀ j, j < i → kT B L (ps B L p j) = 2) ∧ nmM N B L p i) (fun r => ∃ M', r = some (bI (nmS B L m p).1, M') ∧ hr_fr numW M0 M' ∧ cTk M' B L (nmS B L m p).2 ∧ ((nmS B L m p).1 = true → nmM M' B L p m)) ?_ ?_ FU 0 M1 (Nat.zero_le _) (FU_ok (by omega)) ⟨hf, ht, fun j hj => by omega, fun i hi => ⟨by rw [if_neg (by omega)]; exact hn i hi, fun z => by omega⟩⟩
    · rintro f i N hi ⟨i1, i2, i3, i4⟩
      have hpi := ps_le (B := B) hL hp i
      have en := nmS_at (B := B) (L := L) i m p (by omega) i3
      have ek : kT B L (ps B L p i) ≤ 4 := by unfold kT; split <;> (try split) <;> (try split) <;> (try split) <;> omega
      show (∃ M', f_X5_readNumbers_29 (nI m) (f + 1) (nI i) N = _ ∧ _) ∨ ∃ s', f_X5_readNumbers_29 (nI m) (f + 1) (nI i) N = f_X5_readNumbers_29 (nI m) f (nI (i + 1)) s' ∧ _
      rw [f_X5_readNumbers_29.eq_2, if_neg (fun y => by have := (q_le (by omega) (by omega)).mp y; omega), q_lit 3, gO 3, if_neg (fun y => by have := (q_le (by omega) (by omega)).mp y; omega), i2.2.1]
      by_cases z : kT B L (ps B L p i) = 2
      · right
        have vl : N.1 223 9 = nI (vT B L (ps B L p i)) := i2.2.2.2 z
        rw [if_pos (show nI (kT B L (ps B L p i)) = 2 by rw [z]; rfl), if_pos (q_in (by omega) (by omega)), if_pos (q_in (by omega) (by omega)), q_cl (by omega), vl, si_ne _ _ _ (show 223 ≠ 238 by omega), i2.2.2.1, q_lit 1, gO 1, q_add]
        have f2 : hr_fr numW M0 (hr_si (hr_si N 238 i (nI (vT B L (ps B L p i)))) 239 i (nI (sT B L (ps B L p i)))) := hr_fr.si rfl (hr_fr.si rfl i1)
        obtain ⟨M', g1, g2, g3⟩ := s_advance (M0 := hr_si (hr_si N 238 i (nI (vT B L (ps B L p i)))) 239 i (nI (sT B L (ps B L p i)))) (hr.fr f2 rfl (fun _ => rfl)) hL hB (p := nT B L (ps B L p i)) ((tok_ok (B := B) hL hpi).2.2.2.1) (by rw [si_ne _ _ _ (by omega), si_ne _ _ _ (by omega)]; exact i2.1)
        rw [g1, q_bd_some]
        refine ⟨M', rfl, f2.tr (hr_fr.mono rfl g2), g3, fun j hj => ?_, fun j hj => ?_⟩
        · by_cases e : j = i
          · rw [e]; exact z
          · exact i3 j (by omega)
        · obtain ⟨n1, n2⟩ := i4 j hj
          rw [g2.at 238 j rfl, g2.at 239 j rfl, si_ne _ _ _ (show 238 ≠ 239 by omega), si_same, si_same, si_ne _ _ _ (show 239 ≠ 238 by omega)]
          by_cases e : j = i
          · rw [if_pos e, if_pos e, if_pos (by omega), e]
            exact ⟨by rw [q_nz], fun _ => rfl⟩
          · rw [if_neg e, if_neg e]
            refine ⟨?_, fun h => n2 (by omega)⟩
            rw [n1]
            by_cases e2 : j < i
            · rw [if_pos e2, if_pos (by omega)]
            · rw [if_neg e2, if_neg (by omega)]
      · left
        have er : nmS B L m p = (false, ps B L p i) := by
          rw [en]
          obtain ⟨d, hd⟩ : ∃ d, m - i = d + 1 := ⟨m - i - 1, by omega⟩
          rw [hd]
          show (if kT B L (ps B L p i) = 2 then nmS B L d (nT B L (ps B L p i)) else (false, ps B L p i)) = _
          rw [if_neg z]
        rw [if_neg (show ¬ nI (kT B L (ps B L p i)) = 2 from fun y => z ((q_eq (b := 2) (by omega) (by omega)).mp y)), er]
        exact ⟨N, rfl, i1, i2, fun y => by cases y⟩
    · rintro f N ⟨i1, i2, i3, i4⟩
      have er : nmS B L m p = (true, ps B L p m) := by rw [nmS_at m m p (Nat.le_refl _) i3, Nat.sub_self]; rfl
      show ∃ M', f_X5_readNumbers_29 (nI m) (f + 1) (nI m) N = _ ∧ _
      rw [f_X5_readNumbers_29.eq_2, if_pos (Int32.le_refl _), er]
      exact ⟨N, rfl, i1, i2, fun _ => i4⟩
  unfold f_X5_readNumbers
  refine hr_for (σ := PM) (fun f i N => f_X5_readNumbers_2 (nI m) f (nI i) N) 3 (fun i N => hr_fr numW M0 N ∧ cTk N B L p ∧ ∀ j, j < i → N.1 238 j = zI (-1)) (fun r => ∃ M', r = some (bI (nmS B L m p).1, M') ∧ hr_fr numW M0 M' ∧ cTk M' B L (nmS B L m p).2 ∧ ((nmS B L m p).1 = true → nmM M' B L p m)) ?_ ?_ FU 0 M0 (Nat.zero_le _) (FU_ok (by omega)) ⟨hr_fr.rf _ _, ht, fun j hj => by omega⟩
  · rintro f i N hi ⟨i1, i2, i3⟩
    right
    show ∃ s', f_X5_readNumbers_2 (nI m) (f + 1) (nI i) N = f_X5_readNumbers_2 (nI m) f (nI (i + 1)) s' ∧ _
    rw [f_X5_readNumbers_2.eq_2, q_lit 3, gO 3, if_neg (fun y => by have := (q_le (by omega) (by omega)).mp y; omega), if_pos (q_in (by omega) (by omega)), if_pos (q_in (by omega) (by omega)), q_cl (by omega), show (-1 : Int32) = zI (-1) by decide, q_lit 1, gO 1, q_add]
    refine ⟨_, rfl, hr_fr.si rfl (hr_fr.si rfl i1), ?_, fun j hj => ?_⟩
    · unfold cTk
      rw [si_ne _ _ _ (show 223 ≠ 239 by omega), si_ne _ _ _ (show 223 ≠ 238 by omega)]
      exact i2
    · rw [si_ne _ _ _ (show 238 ≠ 239 by omega), si_same]
      by_cases e : j = i
      · rw [if_pos e]
      · rw [if_neg e]; exact i3 j (by omega)
  · rintro f N ⟨i1, i2, i3⟩
    show ∃ M', f_X5_readNumbers_2 (nI m) (f + 1) (nI 3) N = _ ∧ _
    rw [f_X5_readNumbers_2.eq_2, q_lit 3, gO 3, if_pos (Int32.le_refl _)]
    exact e29 N i1 i2 i3
end CLS
