/-! THE CLASS'S READER: a guest's hues, a line -/
theorem vT_le {B : Nat → Nat} {L : Nat} (hL : L ≤ 600) {p : Nat} (hp : p ≤ L) (h : kT B L p = 2) : vT B L p ≤ 99 := by
  obtain ⟨p1, p2, p3, p4, p5, p6⟩ := tok_ok (B := B) hL hp
  unfold kT at h
  by_cases z : L ≤ sT B L p
  · rw [if_pos z] at h; cases h
  rw [if_neg z] at h
  cases hl : ltr (B (sT B L p)) with
  | true => rw [hl, if_pos rfl] at h; cases h
  | false =>
    rw [hl, if_neg (by simp)] at h
    cases hd : dgt (B (sT B L p)) with
    | false =>
      rw [hd, if_neg (by simp)] at h
      split at h <;> cases h
    | true =>
      rw [hd, if_pos rfl] at h
      have d0 := of_decide_eq_true hd
      have he : eT B L p = stp B L dgt 601 (sT B L p) := by unfold eT; rw [hl, if_neg (by simp)]
      obtain ⟨s1, s2, s3, s4⟩ := stp_ok (B := B) (q := dgt) 601 (sT B L p) p2 (by omega)
      rw [← he] at s1 s2 s3 s4
      unfold vT
      by_cases y : eT B L p - sT B L p ≤ 1
      · rw [if_pos y]; omega
      · rw [if_neg y]
        have d1 := of_decide_eq_true (s3 (sT B L p + 1) (by omega) (by omega))
        omega
/-- what a guest's hues may write -/
abbrev gdW : List (Nat × Nat) := [(223, 7), (223, 8), (223, 9), (223, 10), (223, 13), (223, 14)]
def gdB (b : Option Nat) : Int32 := match b with
  | none => zI (-1)
  | some q => nI q
/-- what the hues of a guest are so far -/
def gdI (M : PM) (s : Nat) (b : Option Nat) : Prop := M.1 223 12 = nI s ∧ M.1 223 13 = gdB b ∧ s < 1024 ∧ ∀ q, b = some q → q ≤ 600
def gdN (b x : Option Nat) : Option Nat := match b with
  | some q => some q
  | none => x
theorem gdN_none {b x : Option Nat} (h : gdN b x = none) : b = none ∧ x = none := by
  cases b with
  | none => exact ⟨rfl, h⟩
  | some q => cases h
theorem gdN_self (b : Option Nat) : gdN b none = b := by cases b <;> rfl
theorem gdS_s {B : Nat → Nat} {L d q s : Nat} {b : Option Nat} (h : kT B L q = 2) : gdS B L (d + 1) q s b = gdS B L d (nT B L q) (if vT B L q < 10 then s ||| 2 ^ vT B L q else s) (gdN b (if vT B L q < 10 ∧ s.testBit (vT B L q) = false then none else some (sT B L q))) := by
  have e : gdS B L (d + 1) q s b = if kT B L q = 2 then gdS B L d (nT B L q) (if vT B L q < 10 then s ||| 2 ^ vT B L q else s) (gdN b (if vT B L q < 10 ∧ s.testBit (vT B L q) = false then none else some (sT B L q))) else (q, s, b) := rfl
  rw [e, if_pos h]
theorem gdS_e {B : Nat → Nat} {L d q s : Nat} {b : Option Nat} (h : kT B L q ≠ 2) : gdS B L (d + 1) q s b = (q, s, b) := by
  have e : gdS B L (d + 1) q s b = if kT B L q = 2 then gdS B L d (nT B L q) (if vT B L q < 10 then s ||| 2 ^ vT B L q else s) (gdN b (if vT B L q < 10 ∧ s.testBit (vT B L q) = false then none else some (sT B L q))) else (q, s, b) := rfl
  rw [e, if_neg h]
section CLS
variable {B : Nat → Nat} {L : Nat}
theorem s_gd104 {M0 N : PM} (hr : rdT M0 B L) (hL : L ≤ 600) (hB : ∀ i, B i < 256) {p : Nat} (hp : p ≤ L) (hf : hr_fr gdW M0 N) (ht : cTk N B L p) (k : Int32 → PM → Option (Int32 × PM)) (i : Nat) {s : Nat} {b : Option Nat} (hg : gdI N s b) : ∃ M', f_X5_readGuestHues_104 k (nI i) N = k (nI (i + 1)) M' ∧ hr_fr gdW M0 M' ∧ cTk M' B L (nT B L p) ∧ gdI M' s b := by
  obtain ⟨M', g1, g2, g3⟩ := s_advance (M0 := N) (hr.fr hf rfl (fun _ => rfl)) hL hB (p := nT B L p) ((tok_ok (B := B) hL hp).2.2.2.1) ht.1
  unfold f_X5_readGuestHues_104
  rw [g1, q_bd_some, q_lit 1, gO 1, q_add]
  refine ⟨M', rfl, hf.tr (hr_fr.mono rfl g2), g3, ?_, ?_, hg.2.2.1, hg.2.2.2⟩
  · rw [g2.at 223 12 rfl]; exact hg.1
  · rw [g2.at 223 13 rfl]; exact hg.2.1
theorem s_gd88 {M0 N : PM} (hr : rdT M0 B L) (hL : L ≤ 600) (hB : ∀ i, B i < 256) {p : Nat} (hp : p ≤ L) (hf : hr_fr gdW M0 N) (ht : cTk N B L p) (k : Int32 → PM → Option (Int32 × PM)) (i : Nat) {s : Nat} {b : Option Nat} (hg : gdI N s b) : ∃ M', f_X5_readGuestHues_88 k (nI i) N = k (nI (i + 1)) M' ∧ hr_fr gdW M0 M' ∧ cTk M' B L (nT B L p) ∧ gdI M' s (gdN b (some (sT B L p))) := by
  unfold f_X5_readGuestHues_88
  rw [hg.2.1, show (-1 : Int32) = zI (-1) by decide]
  cases b with
  | none =>
    rw [if_pos (show gdB none = zI (-1) from rfl), ht.2.2.1]
    have hp2 := (tok_ok (B := B) hL hp).2.1
    refine s_gd104 hr hL hB hp (hr_fr.si rfl hf) ?_ k i ⟨?_, ?_, hg.2.2.1, fun q hq => ?_⟩
    · unfold cTk
      rw [si_same, if_neg (by omega), si_same, if_neg (by omega), si_same, if_neg (by omega), si_same, if_neg (by omega)]
      exact ht
    · rw [si_same, if_neg (by omega)]; exact hg.1
    · rw [si_same, if_pos rfl]; rfl
    · cases hq; omega
  | some q =>
    have hq := hg.2.2.2 q rfl
    rw [if_neg (show ¬ gdB (some q) = zI (-1) from fun y => by
      have y' : nI q = zI (-1) := y
      rw [q_nz] at y'
      have := (q_zeq (by omega) (by omega)).mp y'
      omega)]
    exact s_gd104 hr hL hB hp hf ht k i hg
theorem s_guest {M0 : PM} (hr : rdT M0 B L) (hL : L ≤ 600) (hB : ∀ i, B i < 256) {p : Nat} (hp : p ≤ L) (ht : cTk M0 B L p) : ∃ M', f_X5_readGuestHues M0 = some (bI (decide (kT B L p = 2)), M') ∧ hr_fr gdW M0 M' ∧ (kT B L p ≠ 2 → cTk M' B L p) ∧ (kT B L p = 2 → cTk M' B L (gdS B L 601 p 0 none).1 ∧ (gdS B L 601 p 0 none).1 ≤ L ∧ gdI M' (gdS B L 601 p 0 none).2.1 (gdS B L 601 p 0 none).2.2 ∧ ((gdS B L 601 p 0 none).2.2 = none → 1 ≤ (gdS B L 601 p 0 none).2.1)) := by
  have kle : ∀ p, kT B L p ≤ 4 := fun p => by unfold kT; split <;> (try split) <;> (try split) <;> (try split) <;> omega
  unfold f_X5_readGuestHues
  rw [ht.2.1]
  by_cases z : kT B L p = 2
  · rw [if_pos (show nI (kT B L p) = 2 by rw [z]; rfl), decide_eq_true z, show (0 : Int32) = nI 0 from rfl]
    have lp : ∀ r : Option (Int32 × PM), (∃ M', r = some (1, M') ∧ hr_fr gdW M0 M' ∧ cTk M' B L (gdS B L 601 p 0 none).1 ∧ (gdS B L 601 p 0 none).1 ≤ L ∧ gdI M' (gdS B L 601 p 0 none).2.1 (gdS B L 601 p 0 none).2.2 ∧ ((gdS B L 601 p 0 none).2.2 = none → 1 ≤ (gdS B L 601 p 0 none).2.1)) → ∃ M', r = some (bI true, M') ∧ hr_fr gdW M0 M' ∧ (kT B L p ≠ 2 → cTk M' B L p) ∧ (kT B L p = 2 → cTk M' B L (gdS B L 601 p 0 none).1 ∧ (gdS B L 601 p 0 none).1 ≤ L ∧ gdI M' (gdS B L 601 p 0 none).2.1 (gdS B L 601 p 0 none).2.2 ∧ ((gdS B L 601 p 0 none).2.2 = none → 1 ≤ (gdS B L 601 p 0 none).2.1)) := fun r ⟨M', h1, h2, h3⟩ => ⟨M', h1, h2, fun y => absurd z y, fun _ => h3⟩
    apply lp
    refine hr_for (σ := PM) (fun f i N => f_X5_readGuestHues_22 f (nI i) N) 601 (fun i N => hr_fr gdW M0 N ∧ ∃ q s b, q ≤ L ∧ cTk N B L q ∧ gdS B L 601 p 0 none = gdS B L (601 - i) q s b ∧ gdI N s b ∧ (i = 0 → q = p) ∧ (1 ≤ i → b = none → 1 ≤ s)) (fun r => ∃ M', r = some (1, M') ∧ hr_fr gdW M0 M' ∧ cTk M' B L (gdS B L 601 p 0 none).1 ∧ (gdS B L 601 p 0 none).1 ≤ L ∧ gdI M' (gdS B L 601 p 0 none).2.1 (gdS B L 601 p 0 none).2.2 ∧ ((gdS B L 601 p 0 none).2.2 = none → 1 ≤ (gdS B L 601 p 0 none).2.1)) ?_ ?_ FU 0 _ (Nat.zero_le _) (FU_ok (by omega)) ⟨hr_fr.si rfl (hr_fr.si rfl (hr_fr.rf _ _)), p, 0, none, hp, ?_, rfl, ⟨?_, ?_, by omega, fun q hq => by cases hq⟩, fun _ => rfl, fun h => by omega⟩
    · rintro f i N hi ⟨hf, q, s, b, hq, hc, he, hg, h0, h1⟩
      have kq := kle q
      show (∃ M', f_X5_readGuestHues_22 (f + 1) (nI i) N = _ ∧ _) ∨ ∃ s', f_X5_readGuestHues_22 (f + 1) (nI i) N = f_X5_readGuestHues_22 f (nI (i + 1)) s' ∧ _
      obtain ⟨d, hd⟩ : ∃ d, 601 - i = d + 1 := ⟨600 - i, by omega⟩
      have hd2 : 601 - (i + 1) = d := by omega
      rw [hd] at he
      rw [f_X5_readGuestHues_22.eq_2, q_lit 600, gO 600, if_neg (show ¬ nI 600 < nI i from fun y => by have := (q_lt (by omega) (by omega)).mp y; omega), hc.2.1]
      by_cases y : kT B L q = 2
      · right
        have vl : N.1 223 9 = nI (vT B L q) := hc.2.2.2 y
        have v99 := vT_le hL hq y
        rw [gdS_s y] at he
        have nq := (tok_ok (B := B) hL hq).2.2.2.1
        rw [if_pos (show nI (kT B L q) = 2 by rw [y]; rfl), vl, q_lit 10, gO 10]
        by_cases v : vT B L q < 10
        · rw [if_neg (show ¬ nI 10 ≤ nI (vT B L q) from fun w => by have := (q_le (by omega) (by omega)).mp w; omega)]
          rw [if_pos v] at he
          unfold f_X5_readGuestHues_51
          have hs := hg.2.2.1
          rw [if_neg (by decide), hg.1, vl, s_holdsBit N (by omega) (by omega), q_bd_some]
          cases hbt : s.testBit (vT B L q) with
          | false =>
            rw [if_pos ⟨v, hbt⟩, gdN_self] at he
            rw [if_pos (show bI false = 0 from rfl), hg.1, vl, q_lit 1, gO 1, q_jl (by omega), q_or]
            have p1 : 1 ≤ 2 ^ vT B L q := Nat.one_le_two_pow
            have hs2 : s ||| 2 ^ vT B L q < 1024 := or_lt hs (pow_lt v)
            obtain ⟨M', g1, g2, g3, g4⟩ := s_gd104 (N := hr_si N 223 12 (nI (s ||| 2 ^ vT B L q))) (M0 := M0) hr hL hB hq (hr_fr.si rfl hf) (by unfold cTk; rw [si_same, if_neg (by omega), si_same, if_neg (by omega), si_same, if_neg (by omega), si_same, if_neg (by omega)]; exact hc) (fun x1 M => f_X5_readGuestHues_22 f x1 M) i (s := s ||| 2 ^ vT B L q) (b := b) ⟨by rw [si_same, if_pos rfl], by rw [si_same, if_neg (by omega)]; exact hg.2.1, hs2, hg.2.2.2⟩
            rw [g1]
            refine ⟨M', rfl, g2, nT B L q, s ||| 2 ^ vT B L q, b, nq, g3, ?_, g4, fun h => by omega, fun _ _ => ?_⟩
            · rw [hd2, he]
            · exact Nat.le_trans p1 (Nat.right_le_or)
          | true =>
            have e4 : s ||| 2 ^ vT B L q = s := by
              apply Nat.eq_of_testBit_eq
              intro j
              rw [Nat.testBit_or, Nat.testBit_two_pow]
              by_cases w : vT B L q = j
              · rw [← w, hbt]; rfl
              · rw [decide_eq_false w, Bool.or_false]
            rw [if_neg (fun w => by rw [hbt] at w; cases w.2), e4] at he
            rw [if_neg (show ¬ bI true = 0 by decide)]
            obtain ⟨M', g1, g2, g3, g4⟩ := s_gd88 (N := N) (M0 := M0) hr hL hB hq hf hc (fun x1 M => f_X5_readGuestHues_22 f x1 M) i hg
            rw [g1]
            refine ⟨M', rfl, g2, nT B L q, s, _, nq, g3, ?_, g4, fun h => by omega, fun _ hb => ?_⟩
            · rw [hd2, he]
            · cases (gdN_none hb).2
        · rw [if_pos (show nI 10 ≤ nI (vT B L q) from (q_le (by omega) (by omega)).mpr (by omega))]
          rw [if_neg v, if_neg (fun w => v w.1)] at he
          unfold f_X5_readGuestHues_51
          rw [if_pos (by rfl)]
          obtain ⟨M', g1, g2, g3, g4⟩ := s_gd88 (N := N) (M0 := M0) hr hL hB hq hf hc (fun x1 M => f_X5_readGuestHues_22 f x1 M) i hg
          rw [g1]
          refine ⟨M', rfl, g2, nT B L q, s, _, nq, g3, ?_, g4, fun h => by omega, fun _ hb => ?_⟩
          · rw [hd2, he]
          · cases (gdN_none hb).2
      · left
        have i1 : 1 ≤ i := by
          rcases Nat.eq_zero_or_pos i with w | w
          · rw [h0 w] at y; exact absurd z y
          · exact w
        have he' : gdS B L 601 p 0 none = (q, s, b) := by
          rw [he, gdS_e y]
        rw [if_neg (show ¬ nI (kT B L q) = 2 from fun w => y ((q_eq (b := 2) (by omega) (by omega)).mp w)), he']
        exact ⟨N, rfl, hf, hc, hq, hg, h1 i1⟩
    · rintro f N ⟨hf, q, s, b, hq, hc, he, hg, h0, h1⟩
      have he' : gdS B L 601 p 0 none = (q, s, b) := by rw [he]; rfl
      show ∃ M', f_X5_readGuestHues_22 (f + 1) (nI 601) N = _ ∧ _
      rw [f_X5_readGuestHues_22.eq_2, q_lit 600, gO 600, if_pos (show nI 600 < nI 601 from (q_lt (by omega) (by omega)).mpr (by omega)), he']
      exact ⟨N, rfl, hf, hc, hq, hg, h1 (by omega)⟩
    · unfold cTk
      rw [si_same, if_neg (by omega), si_same, if_neg (by omega), si_same, if_neg (by omega), si_same, if_neg (by omega), si_same, if_neg (by omega), si_same, if_neg (by omega), si_same, if_neg (by omega), si_same, if_neg (by omega)]
      exact ht
    · rw [si_same, if_neg (by omega), si_same, if_pos rfl]
    · rw [si_same, if_pos rfl]; decide
  · have kp := kle p
    rw [if_neg (show ¬ nI (kT B L p) = 2 from fun y => z ((q_eq (b := 2) (by omega) (by omega)).mp y)), decide_eq_false z]
    exact ⟨M0, rfl, hr_fr.rf _ _, fun _ => ht, fun y => absurd y z⟩
end CLS
