/-! THE MODEL'S READER: lines of dinners -/
/-- the fault after a guest's numbers -/
def gF (F : Nat × Nat) (b : Option Nat) : Nat × Nat := match b with
  | none => F
  | some q => fl2 F.1 F.2 true 2 q
theorem gF_step (F : Nat × Nat) (b : Option Nat) (bad : Bool) (s : Nat) : fl2 (gF F b).1 (gF F b).2 bad 2 s = gF F (gdN b (if bad = true then some s else none)) := by
  cases b with
  | none =>
    cases bad with
    | true => rfl
    | false => exact if_neg (fun w => by cases w.2)
  | some q =>
    have h : (gF F (some q)).1 ≠ 0 := by
      show (fl2 F.1 F.2 true 2 q).1 ≠ 0
      unfold fl2
      by_cases z : F.1 = 0
      · rw [if_pos ⟨z, rfl⟩]; show 2 ≠ 0; omega
      · rw [if_neg (fun w => z w.1)]; exact z
    show fl2 (gF F (some q)).1 (gF F (some q)).2 bad 2 s = gF F (some q)
    unfold fl2
    rw [if_neg (fun w => h w.1)]
theorem fl2_two (f q : Nat) (a b : Bool) (s : Nat) : fl2 (fl2 f q a 2 s).1 (fl2 f q a 2 s).2 b 2 s = fl2 f q (a || b) 2 s := by
  unfold fl2
  by_cases z : f = 0
  · cases a with
    | true =>
      rw [if_pos (show f = 0 ∧ true = true from ⟨z, rfl⟩), if_pos (show f = 0 ∧ (true || b) = true from ⟨z, by cases b <;> rfl⟩), if_neg (fun w => by cases w.1)]
    | false =>
      rw [if_neg (show ¬ (f = 0 ∧ false = true) from fun w => by cases w.2), Bool.false_or]
  · rw [if_neg (show ¬ (f = 0 ∧ a = true) from fun w => z w.1), if_neg (show ¬ (f = 0 ∧ (a || b) = true) from fun w => z w.1), if_neg (show ¬ (f = 0 ∧ b = true) from fun w => z w.1)]
theorem gf_fin {X Y : Txt} {ws s : Nat} {b : Option Nat} {df : Bool} {F : Nat × Nat} (hd : xF X = 0 → df = decide (8 ≤ oN (xR X))) (hF : F = gF (fl2 (xF X) (xQ X) df 3 ws) b) (hY : Y = gefX ws s b X) : F.1 = xF Y ∧ (F.1 ≠ 0 → F.2 = xQ Y) ∧ (xF Y = 0 → xF X = 0 ∧ oN (xR X) < 8 ∧ Y = (xP X, addO (xR X) 0 s (-1) s, X.2.2)) := by
  unfold gefX at hY
  by_cases z : xF X = 0
  · rw [if_neg (fun w => w z)] at hY
    have hd' := hd z
    by_cases y : 8 ≤ oN (xR X)
    · rw [decide_eq_true y] at hd'
      rw [if_pos y] at hY
      have e1 : fl2 (xF X) (xQ X) df 3 ws = (3, ws) := if_pos ⟨z, hd'⟩
      rw [e1] at hF
      have e2 : gF (3, ws) b = (3, ws) := by
        cases b with
        | none => rfl
        | some q =>
          show fl2 3 ws true 2 q = (3, ws)
          unfold fl2
          rw [if_neg (fun w => by cases w.1)]
      rw [e2] at hF
      rw [hF, hY]
      exact ⟨rfl, fun _ => rfl, fun h => by cases h⟩
    · rw [decide_eq_false y] at hd'
      rw [if_neg y] at hY
      have e1 : fl2 (xF X) (xQ X) df 3 ws = (xF X, xQ X) := if_neg (fun w => by rw [hd'] at w; cases w.2)
      rw [e1] at hF
      cases b with
      | none =>
        have hF' : F = (xF X, xQ X) := hF
        rw [hF', hY]
        exact ⟨rfl, fun _ => rfl, fun _ => ⟨z, by omega, rfl⟩⟩
      | some q =>
        have e2 : gF (xF X, xQ X) (some q) = (2, q) := if_pos ⟨z, rfl⟩
        rw [e2] at hF
        rw [hF, hY]
        exact ⟨rfl, fun _ => rfl, fun h => by cases h⟩
  · rw [if_pos z] at hY
    have e1 : fl2 (xF X) (xQ X) df 3 ws = (xF X, xQ X) := if_neg (fun w => z w.1)
    rw [e1] at hF
    have e2 : gF (xF X, xQ X) b = (xF X, xQ X) := by
      cases b with
      | none => rfl
      | some q => exact if_neg (fun w => z w.1)
    rw [e2] at hF
    rw [hF, hY]
    exact ⟨rfl, fun _ => rfl, fun h => absurd h z⟩
section MOD
variable {B : Nat → Nat} {L : Nat}
/-- a guest's hues, and what is kept of them -/
theorem m_guestL {M0 : PM} {X : Txt} {p n : Nat} {F : Nat × Nat} (hr : mrd M0 B L) (hL : L ≤ 600) (hB : ∀ i, B i < 256) (hp : p ≤ L) (hs : mSt M0 B L p F.1 F.2) (d1 : M0.1 286 0 = nI n) (d2 : n ≤ 8) (hE : xF X = 0 → mE4 M0 X) (oX : oN (xR X) ≤ 8) (z : kT B L p = 2) (a1 : Int64) (a3 : Int32) {Q : Option (Int32 × PM) → Prop} (hok : ∀ M', hr_fr lmW M0 M' → mTk M' B L (gdS B L 601 p 0 none).1 → flm M' (gF F (gdS B L 601 p 0 none).2.2).1 (gF F (gdS B L 601 p 0 none).2.2).2 (sT B L (gdS B L 601 p 0 none).1) → (∃ n', M'.1 286 0 = nI n' ∧ n' ≤ 8) → (xF X = 0 → n < 8 → mE4 M' (xP X, addO (xR X) 0 ((gdS B L 601 p 0 none).2.1 : Nat) (-1) (gdS B L 601 p 0 none).2.1, X.2.2)) → Q (some (1, M'))) : Q (f_X11_dinnerLine_28 a1 a3 FU 0 M0) := by
  rw [show (0 : Int32) = nI 0 from rfl]
  refine hr_for (σ := PM × Nat) (fun f _ st => f_X11_dinnerLine_28 a1 a3 f (nI st.2) st.1) 601 (fun i st => hr_fr tmW M0 st.1 ∧ ∃ q b, (q ≤ L ∧ i ≤ q ∧ st.2 < 1024) ∧ mSt st.1 B L q (gF F b).1 (gF F b).2 ∧ gdS B L 601 p 0 none = gdS B L (601 - i) q st.2 b ∧ kT B L q = 2) (fun r => Q r) ?_ ?_ FU 0 (M0, 0) (Nat.zero_le _) (FU_ok (by omega)) ⟨hr_fr.rf _ _, p, none, ⟨hp, Nat.zero_le _, by show 0 < 1024; omega⟩, hs, rfl, z⟩
  · rintro f i ⟨N, s⟩ hi ⟨hf, q, b, ⟨hq, hiq, hs10⟩, hst, he, kq⟩
    dsimp only at hf hs10 hst he
    obtain ⟨d, hd⟩ : ∃ d, 601 - i = d + 1 := ⟨600 - i, by omega⟩
    have hd2 : 601 - (i + 1) = d := by omega
    rw [hd, gdS_s kq] at he
    have hrN : mrd N B L := hr.fr hf rfl (fun _ => rfl)
    have v99 := vT_le hL hq kq
    obtain ⟨q1, q2, q3, q4, q5, q6⟩ := tok_ok (B := B) hL hq
    have q5 := q5 (by omega)
    have hmono := sT_mono (B := B) hL hq (by omega)
    show Q (f_X11_dinnerLine_28 a1 a3 (f + 1) (nI s) N) ∨ ∃ s' : PM × Nat, f_X11_dinnerLine_28 a1 a3 (f + 1) (nI s) N = f_X11_dinnerLine_28 a1 a3 f (nI s'.2) s'.1 ∧ _
    obtain ⟨-, g2⟩ := s_tkB (i := 1) (lo := 0) (hi := 9) (but := -1) hrN hL hB hq hst (by omega) (by omega) (by omega) (by omega)
    obtain ⟨M2, k1, k2, k3, k4, k5⟩ := g2 kq
    have et : f_X11_take 1 0 9 N = some (1, M2) := s_takeM (Or.inr rfl) k1
    have ebd : bdN 0 9 (vT B L q) (-1) = decide (9 < vT B L q) := by unfold bdN; rw [decide_eq_decide]; omega
    rw [ebd] at k3
    have r1 : M2.1 287 1 = nI (vT B L q) := by rw [k4, if_pos rfl]
    have i14 : inB 1 4 = true := q_in (i := 1) (by omega) (by omega)
    -- whether it is one more fault
    generalize hbad : (decide (9 < vT B L q) || (decide (vT B L q < 10) && s.testBit (vT B L q))) = bad
    have ebn : (if vT B L q < 10 ∧ s.testBit (vT B L q) = false then none else some (sT B L q)) = (if bad = true then some (sT B L q) else none) := by
      rw [← hbad]
      by_cases v : vT B L q < 10
      · rw [decide_eq_false (show ¬ 9 < vT B L q by omega), decide_eq_true v, Bool.false_or, Bool.true_and]
        cases s.testBit (vT B L q) with
        | true => rw [if_neg (fun w => by cases w.2), if_pos rfl]
        | false => rw [if_pos ⟨v, rfl⟩, if_neg (by simp)]
      · rw [decide_eq_true (show 9 < vT B L q by omega), Bool.true_or, if_neg (fun w => v w.1), if_pos rfl]
    rw [ebn] at he
    -- what comes after it
    have aft : ∀ N2, hr_fr tmW M0 N2 → mTk N2 B L (nT B L q) → flm N2 (fl2 (gF F b).1 (gF F b).2 bad 2 (sT B L q)).1 (fl2 (gF F b).1 (gF F b).2 bad 2 (sT B L q)).2 (sT B L q + 1) → N2.1 287 1 = nI (vT B L q) → Q (f_X11_dinnerLine_79 a1 a3 (fun x4 M => f_X11_dinnerLine_28 a1 a3 f x4 M) (nI s) N2) ∨ ∃ s' : PM × Nat, f_X11_dinnerLine_79 a1 a3 (fun x4 M => f_X11_dinnerLine_28 a1 a3 f x4 M) (nI s) N2 = f_X11_dinnerLine_28 a1 a3 f (nI s'.2) s'.1 ∧ (hr_fr tmW M0 s'.1 ∧ ∃ q b, (q ≤ L ∧ i + 1 ≤ q ∧ s'.2 < 1024) ∧ mSt s'.1 B L q (gF F b).1 (gF F b).2 ∧ gdS B L 601 p 0 none = gdS B L (601 - (i + 1)) q s'.2 b ∧ kT B L q = 2) := by
      intro N2 w1 w2 w3 w4
      rw [gF_step] at w3
      generalize hb' : gdN b (if bad = true then some (sT B L q) else none) = b' at *
      have e79 : f_X11_dinnerLine_79 a1 a3 (fun x4 M => f_X11_dinnerLine_28 a1 a3 f x4 M) (nI s) N2 = f_X11_dinnerLine_104 a1 a3 (fun x4 M => f_X11_dinnerLine_28 a1 a3 f x4 M) (nI (if vT B L q < 10 then 2 ^ vT B L q else 0)) (nI s) N2 := by
        unfold f_X11_dinnerLine_79
        rw [if_pos i14, show (1 : Int32).toNatClampNeg = 1 from rfl, w4, if_pos i14, q_lit 10, gO 10]
        by_cases v : vT B L q < 10
        · rw [if_neg (fun y => by have := (q_le (by omega) (by omega)).mp y; omega), if_pos v, q_lit 1, gO 1, q_jl (by omega)]
        · rw [if_pos ((q_le (by omega) (by omega)).mpr (by omega)), if_neg v]
          rfl
      have es : s ||| (if vT B L q < 10 then 2 ^ vT B L q else 0) = (if vT B L q < 10 then s ||| 2 ^ vT B L q else s) := by
        by_cases v : vT B L q < 10
        · rw [if_pos v, if_pos v]
        · rw [if_neg v, if_neg v, Nat.or_zero]
      have hs' : (if vT B L q < 10 then s ||| 2 ^ vT B L q else s) < 1024 := by
        by_cases v : vT B L q < 10
        · rw [if_pos v]; exact or_lt hs10 (pow_lt v)
        · rw [if_neg v]; exact hs10
      have hst2 : mSt N2 B L (nT B L q) (gF F b').1 (gF F b').2 := ⟨w2, w3.up hmono⟩
      rw [e79]
      unfold f_X11_dinnerLine_104
      rw [w2.2.2.1, q_or, es]
      generalize hs2 : (if vT B L q < 10 then s ||| 2 ^ vT B L q else s) = s' at *
      have kle : kT B L (nT B L q) ≤ 4 := by unfold kT; split <;> (try split) <;> (try split) <;> (try split) <;> omega
      by_cases y : kT B L (nT B L q) = 2
      · right
        rw [if_pos (show nI (mKd (kT B L (nT B L q))) = 3 by rw [y]; decide)]
        exact ⟨(N2, s'), rfl, w1, nT B L q, b', ⟨q4, by omega, hs'⟩, hst2, by rw [hd2]; exact he, y⟩
      · left
        have n3 : ¬ nI (mKd (kT B L (nT B L q))) = 3 := by
          have kk : kT B L (nT B L q) = 0 ∨ kT B L (nT B L q) = 1 ∨ kT B L (nT B L q) = 3 ∨ kT B L (nT B L q) = 4 := by omega
          rcases kk with k | k | k | k <;> rw [k] <;> decide
        have eg : gdS B L 601 p 0 none = (nT B L q, s', b') := by
          rw [he]
          cases d with
          | zero => rfl
          | succ d => exact gdS_e y
        rw [if_neg n3, if_pos (show inB 0 4 = true from q_in (i := 0) (by omega) (by omega)), show (0 : Int32).toNatClampNeg = 0 from rfl]
        generalize hN3 : hr_si N2 287 0 (nI s') = N3
        have f3' : hr_fr [(287, 0)] N2 N3 := by rw [← hN3]; exact hr_fr.si rfl (hr_fr.rf _ _)
        have w86 : N3.1 286 = M0.1 286 := by rw [f3'.row 286 (fun _ => rfl), w1.row 286 (fun _ => rfl)]
        have w87 : N3.1 287 0 = nI s' := by rw [← hN3, si_same, if_pos rfl]
        obtain ⟨M4, g1, g2, g3, g4⟩ := s_keepM (M := N3) (c := 0) (b := 1) (w := 1) (n := n) (lim := 8) (by rw [w86]; exact d1) (by omega) d2 (by omega) (by omega) (by omega)
        have f4 : hr_fr [(287, 0), (286, 0)] N2 M4 := (hr_fr.mono rfl f3').tr (g2.fr1 rfl)
        rw [show f_X11_keep 0 1 1 8 N3 = some ((), M4) from g1, q_bd_some]
        rw [eg] at hok
        refine hok M4 ((hr_fr.mono rfl w1).tr (hr_fr.mono rfl f4)) (mTk.fr w2 f4 rfl rfl rfl rfl rfl) (flm.fr hst2.2 f4 rfl rfl) ?_ (fun hz h8 => ?_)
        · by_cases u : n = 8
          · rw [g3 u]; exact ⟨n, by rw [w86]; exact d1, d2⟩
          · exact ⟨n + 1, by rw [g4 (by omega), if_pos rfl], by omega⟩
        · obtain ⟨E1, E3⟩ := hE hz
          have g4' := g4 h8
          have hmm : n = oN (xR X) := (q_eq (by omega) (by omega)).mp (d1.symm.trans E1)
          refine ⟨?_, fun j hj => ?_⟩
          · show M4.1 286 0 = nI (oN (xR X) + 1)
            rw [g4', if_pos rfl, hmm]
          · have hj' : j < oN (xR X) + 1 := hj
            show M4.1 286 (1 + j) = zI (if j = oN (xR X) then (s' : Int) else oA (xR X) j)
            rw [g4', if_neg (show ¬ 1 + j = 0 by omega), hmm]
            by_cases u : j = oN (xR X)
            · rw [if_pos (show 1 + 1 * oN (xR X) ≤ 1 + j ∧ 1 + j < 1 + 1 * oN (xR X) + 1 by omega), if_pos u, show 1 + j - (1 + 1 * oN (xR X)) = 0 by omega, w87, q_nz]
            · rw [if_neg (show ¬ (1 + 1 * oN (xR X) ≤ 1 + j ∧ 1 + j < 1 + 1 * oN (xR X) + 1) by omega), if_neg u, w86]
              exact E3 j (by omega)
    rw [f_X11_dinnerLine_28.eq_2, et, q_bd_some, if_neg (show ¬ (1 : Int32) = 0 by decide), if_pos i14, show (1 : Int32).toNatClampNeg = 1 from rfl, r1, if_pos i14, hst.1.2.1]
    by_cases v : vT B L q < 10
    · have ef : fl2 (gF F b).1 (gF F b).2 (decide (9 < vT B L q)) 2 (sT B L q) = gF F b := by
        rw [decide_eq_false (by omega)]
        exact if_neg (fun w => by cases w.2)
      rw [ef] at k3
      rw [if_neg (show ¬ (10 : Int32) ≤ nI (vT B L q) from fun y => by have := (q_le (a := 10) (by omega) (by omega)).mp y; omega), s_has11 M2 (by omega) (by omega), q_bd_some]
      have hfl : flm M2 (gF F b).1 (gF F b).2 (sT B L q) := ⟨k3.2.1, k3.2.2.1, fun w => ⟨(k3.2.2.2 w).1, (hst.2.2.2 w).2⟩⟩
      cases hbt : s.testBit (vT B L q) with
      | false =>
        rw [if_pos (show bI false = 0 from rfl)]
        have eb : bad = false := by rw [← hbad, hbt, decide_eq_false (by omega)]; simp
        refine aft M2 (hf.tr k2) k3.1 ?_ r1
        rw [eb, show fl2 (gF F b).1 (gF F b).2 false 2 (sT B L q) = gF F b from if_neg (fun w => by cases w.2)]
        exact hfl.up (by omega)
      | true =>
        have eb : bad = true := by rw [← hbad, hbt, decide_eq_true v]; simp
        obtain ⟨M3, l1, l2, l3⟩ := s_later (a := 2) hfl (by omega) (by omega)
        rw [if_neg (show ¬ bI true = 0 by decide), show (2 : Int32) = nI 2 from rfl, l1, q_bd_some]
        refine aft M3 ((hf.tr k2).tr (hr_fr.mono rfl l2)) (mTk.fr k3.1 l2 rfl rfl rfl rfl rfl) ?_ (by rw [l2.at 287 1 rfl]; exact r1)
        rw [eb]
        exact l3
    · have eb : bad = true := by rw [← hbad, decide_eq_true (show 9 < vT B L q by omega)]; rfl
      rw [if_pos (show (10 : Int32) ≤ nI (vT B L q) from (q_le (a := 10) (by omega) (by omega)).mpr (by omega))]
      refine aft M2 (hf.tr k2) k3.1 ?_ r1
      rw [eb]
      rw [decide_eq_true (show 9 < vT B L q by omega)] at k3
      refine ⟨k3.2.1, k3.2.2.1, fun w => ⟨(k3.2.2.2 w).1, ?_⟩⟩
      unfold fl2
      by_cases u : (gF F b).1 = 0
      · rw [if_pos ⟨u, rfl⟩]
        show sT B L q < sT B L q + 1
        omega
      · rw [if_neg (fun t => u t.1)]
        have := (hst.2.2.2 u).2
        omega
  · rintro f ⟨N, s⟩ ⟨hf, q, b, ⟨hq, hiq, hs10⟩, -⟩
    omega
end MOD
