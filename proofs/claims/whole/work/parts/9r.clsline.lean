/-! THE CLASS'S READER: it keeps a line; a guest's hues -/
theorem rR4 {M M' : PM} {R : Rol} (h : rR M 233 R) (e0 : M'.1 233 = M.1 233) (e1 : M'.1 234 = M.1 234) (e2 : M'.1 235 = M.1 235) (e3 : M'.1 236 = M.1 236) : rR M' 233 R := by
  unfold rR at h ⊢
  rw [e0, e1, e2, e3]
  exact h
theorem pB4 {M M' : PM} {P : Pal} (h : pB M 224 P) (e0 : M'.1 224 = M.1 224) (e1 : M'.1 225 = M.1 225) (e2 : M'.1 226 = M.1 226) (e3 : M'.1 227 = M.1 227) : pB M' 224 P := by
  unfold pB at h ⊢
  rw [e0, e1, e2, e3]
  exact h
section CLS
variable {B : Nat → Nat} {L : Nat} {M : PM} {X : Txt}
theorem s_note {f q : Nat} (hX : cX M X) (h0 : xF X = 0) (hf : 1 ≤ f) (hf3 : f ≤ 4) : ∃ M', f_X5_note (nI f) (nI q) M = some ((), M') ∧ cX M' (fltX f q X) ∧ hr_fr tkW M M' := by
  obtain ⟨c1, c2, c3, c4, c5⟩ := hX
  unfold f_X5_note
  rw [c3, h0, if_pos (show nI 0 = 0 from rfl)]
  have nf : ¬ f = 0 := by omega
  have e1 : xF (fltX f q X) = f := rfl
  refine ⟨_, rfl, ⟨pB4 c1 ?_ ?_ ?_ ?_, rR4 c2 ?_ ?_ ?_ ?_, ?_, ?_, ?_⟩, hr_fr.si rfl (hr_fr.si rfl (hr_fr.rf _ _))⟩
  · rw [si_ne _ _ _ (by omega), si_ne _ _ _ (by omega)]
  · rw [si_ne _ _ _ (by omega), si_ne _ _ _ (by omega)]
  · rw [si_ne _ _ _ (by omega), si_ne _ _ _ (by omega)]
  · rw [si_ne _ _ _ (by omega), si_ne _ _ _ (by omega)]
  · rw [si_ne _ _ _ (by omega), si_ne _ _ _ (by omega)]
  · rw [si_ne _ _ _ (by omega), si_ne _ _ _ (by omega)]
  · rw [si_ne _ _ _ (by omega), si_ne _ _ _ (by omega)]
  · rw [si_ne _ _ _ (by omega), si_ne _ _ _ (by omega)]
  · rw [si_same, if_neg (by omega), si_same, if_pos rfl, e1]
  · rw [si_same, if_pos rfl, e1, if_neg nf]; rfl
  · rw [si_same, if_neg (by omega), si_same, if_neg (by omega)]; exact c5
theorem s_keepP {k v0 v1 v2 : Nat} (hm : hr_MS M) (hX : cX M X) (ok : xOK 0 X) (hk : k < 17) (hs : kc k < 10) (hf : fullX k X = false) (hb : badX k v0 v1 v2 = 0) (hn : ∀ i, i < kn k → M.1 238 i = nI (if i = 0 then v0 else if i = 1 then v1 else v2)) (hn1 : M.1 238 1 = zI (nu k 1 v1)) : ∃ M', f_X5_keepInPalette (307 + k) M = some ((), M') ∧ cX M' (keepX k v0 v1 v2 X) ∧ hr_fr tkW M M' := by
  obtain ⟨⟨a1, a2, a3⟩, -, ⟨t1, -, -⟩, ⟨b1, b2, b3⟩, -, -⟩ := tbl_ok k (by omega)
  have m0 : M.1 (307 + k) 0 = nI (kc k) := (ms_at hm (by omega) 0).trans a1
  obtain ⟨d1, d2, d3⟩ := badX_0 hb
  obtain ⟨c1, c2, c3, c4, c5⟩ := hX
  obtain ⟨o1, -, o3, -, -, -⟩ := ok
  have i03 : inB 0 3 = true := q_in (i := 0) (by omega) (by omega)
  have i13 : inB 1 3 = true := q_in (i := 1) (by omega) (by omega)
  have i23 : inB 2 3 = true := q_in (i := 2) (by omega) (by omega)
  have cc : kc k < 7 := by rcases tb_all k (by omega) with h | h | h | h | h | h | h <;> omega
  unfold fullX at hf
  unfold f_X5_keepInPalette keepX
  rw [if_pos t1, m0, show (0 : Int32).toNatClampNeg = 0 from rfl, show (1 : Int32).toNatClampNeg = 1 from rfl, show (2 : Int32).toNatClampNeg = 2 from rfl, q_lit 5, gO 5, q_lit 6, gO 6]
  by_cases z5 : kc k = 5
  · obtain ⟨s1, s2, s3, s4, s5⟩ := tb_5 k (by omega) z5
    have n0 := hn 0 (by omega)
    have n1 := hn 1 (by omega)
    have n2 := hn 2 (by omega)
    rw [if_pos rfl] at n0
    rw [if_neg (by omega), if_pos rfl] at n1
    rw [if_neg (by omega), if_neg (by omega)] at n2
    rw [if_neg (show ¬ (kc k = 6 ∨ kc k = 11) by omega), if_pos z5] at hf
    have := of_decide_eq_false hf
    obtain ⟨M', g1, g2, g3⟩ := s_addH c1 (by omega) v0 v1 v2
    rw [if_pos (show nI (kc k) = nI 5 by rw [z5]), if_pos i03, if_pos i13, if_pos i23, n0, n1, n2, g1, q_bd_some, if_pos z5]
    refine ⟨M', rfl, ⟨g2, rR4 c2 (g3.row 233 (fun _ => rfl)) (g3.row 234 (fun _ => rfl)) (g3.row 235 (fun _ => rfl)) (g3.row 236 (fun _ => rfl)), (g3.at 223 2 rfl).trans c3, (g3.at 223 3 rfl).trans c4, (g3.at 223 14 rfl).trans c5⟩, hr_fr.mono rfl g3⟩
  rw [if_neg (fun y => z5 ((q_eq (by omega) (by omega)).mp y)), if_neg z5]
  by_cases z6 : kc k = 6
  · obtain ⟨s1, s2, s3, s4, s5⟩ := tb_6 k (by omega) z6
    have n0 := hn 0 (by omega)
    have n1 := hn 1 (by omega)
    have n2 := hn 2 (by omega)
    rw [if_pos rfl] at n0
    rw [if_neg (by omega), if_pos rfl] at n1
    rw [if_neg (by omega), if_neg (by omega)] at n2
    have e0 := d1 (by omega)
    have e1 := d2 (by omega)
    have e2 := d3 (by omega)
    obtain ⟨g1, g2⟩ := s_setL c1 (w := v0) (g := v1) (by omega) (by omega) v2
    rw [if_pos (show nI (kc k) = nI 6 by rw [z6]), if_pos i03, if_pos i13, if_pos i23, n0, n1, n2, g1, q_bd_some, if_pos i13, si_ne _ _ _ (show 238 ≠ 227 by omega), n1, si_ne _ _ _ (show 223 ≠ 227 by omega), c5, q_lit 1, gO 1, q_jl (by omega), q_or, if_pos z6]
    refine ⟨_, rfl, ⟨pB4 g2 (si_ne _ _ _ (by omega)) (si_ne _ _ _ (by omega)) (si_ne _ _ _ (by omega)) (si_ne _ _ _ (by omega)), rR4 c2 ?_ ?_ ?_ ?_, ?_, ?_, ?_⟩, hr_fr.si rfl (hr_fr.si rfl (hr_fr.rf _ _))⟩
    · rw [si_ne _ _ _ (by omega), si_ne _ _ _ (by omega)]
    · rw [si_ne _ _ _ (by omega), si_ne _ _ _ (by omega)]
    · rw [si_ne _ _ _ (by omega), si_ne _ _ _ (by omega)]
    · rw [si_ne _ _ _ (by omega), si_ne _ _ _ (by omega)]
    · rw [si_same, if_neg (by omega), si_ne _ _ _ (by omega)]; exact c3
    · rw [si_same, if_neg (by omega), si_ne _ _ _ (by omega)]; exact c4
    · rw [si_same, if_pos rfl]; rfl
  rw [if_neg (fun y => z6 ((q_eq (by omega) (by omega)).mp y)), if_neg z6, if_pos (show kc k < 5 by omega)]
  have kn1 : 1 ≤ kn k := by
    have cc2 : kc k = 0 ∨ kc k = 1 ∨ kc k = 2 ∨ kc k = 3 ∨ kc k = 4 := by omega
    rcases cc2 with c | c | c | c | c
    · have := (tb_0 k (by omega) c).1; omega
    · have := (tb_1 k (by omega) c).1; omega
    · have := (tb_2 k (by omega) c).1; omega
    · have := (tb_3 k (by omega) c).1; omega
    · have := (tb_4 k (by omega) c).1; omega
  have n0 := hn 0 (by omega)
  rw [if_pos rfl] at n0
  rw [if_neg (show ¬ (kc k = 6 ∨ kc k = 11) by omega), if_neg z5, if_pos (show kc k < 5 by omega)] at hf
  have := of_decide_eq_false hf
  obtain ⟨M', g1, g2, g3⟩ := s_addR c1 (by omega) ((kc k : Nat) : Int) ((v0 : Nat) : Int) (nu k 1 v1)
  have g38 : M'.1 238 = M.1 238 := g3.row 238 (fun _ => rfl)
  have m0' : M'.1 (307 + k) 0 = nI (kc k) := by rw [g3.row (307 + k) (hr_up_in (n := 305) rfl (by omega))]; exact m0
  rw [if_pos i03, if_pos i13, n0, hn1, q_nz (kc k), q_nz v0, g1, q_bd_some, m0', g38, n0, (g3.at 223 14 rfl).trans c5, q_lit 1, gO 1, q_lit 3, gO 3]
  have c2' : rR M' 233 (xR X) := rR4 c2 (g3.row 233 (fun _ => rfl)) (g3.row 234 (fun _ => rfl)) (g3.row 235 (fun _ => rfl)) (g3.row 236 (fun _ => rfl))
  have fin : ∀ n, cX (hr_si M' 223 14 (nI n)) (addR (xP X) ((kc k : Nat) : Int) ((v0 : Nat) : Int) (nu k 1 v1), xR X, n, X.2.2.2) ∧ hr_fr tkW M (hr_si M' 223 14 (nI n)) := by
    intro n
    refine ⟨⟨pB4 g2 (si_ne _ _ _ (by omega)) (si_ne _ _ _ (by omega)) (si_ne _ _ _ (by omega)) (si_ne _ _ _ (by omega)), rR4 c2' (si_ne _ _ _ (by omega)) (si_ne _ _ _ (by omega)) (si_ne _ _ _ (by omega)) (si_ne _ _ _ (by omega)), ?_, ?_, ?_⟩, hr_fr.si rfl (hr_fr.mono rfl g3)⟩
    · rw [si_same, if_neg (by omega)]; exact (g3.at 223 2 rfl).trans c3
    · rw [si_same, if_neg (by omega)]; exact (g3.at 223 3 rfl).trans c4
    · rw [si_same, if_pos rfl]; rfl
  by_cases z3 : kc k = 3
  · obtain ⟨s1, s2, s3, s4⟩ := tb_3 k (by omega) z3
    have e0 := d1 (by omega)
    have e1 := d2 (by omega)
    have en : nu k 1 v1 = v1 := by unfold nu; rw [if_pos (by omega)]
    rw [if_pos (show nI (kc k) = nI 3 by rw [z3]), if_pos i03, if_pos (show inB (nI 1) 3 = true from i13), hn1, en, ← q_nz, q_jl (by omega), q_jl (by omega), q_or, q_or, if_pos z3]
    have := fin (xN X ||| (2 ^ v0 ||| 2 ^ v1))
    rw [en] at this
    exact ⟨_, rfl, this⟩
  · rw [if_neg (fun y => z3 ((q_eq (by omega) (by omega)).mp y)), show (0 : Int32) = nI 0 from rfl, q_or, Nat.or_zero, if_neg z3]
    exact ⟨_, rfl, fin (xN X)⟩
theorem s_keepR {k v0 v1 v2 : Nat} (hm : hr_MS M) (hX : cX M X) {s : Nat} (ok : xOK s X) (h1 : 1 ≤ s) (hk : k < 17) (hs : kc k / 10 = s) (hf : fullX k X = false) (hb : badX k v0 v1 v2 = 0) (hn0 : M.1 238 0 = zI (nu k 0 v0)) (hn1 : M.1 238 1 = zI (nu k 1 v1)) : ∃ M', f_X5_keepInRoll (307 + k) M = some ((), M') ∧ cX M' (keepX k v0 v1 v2 X) ∧ hr_fr tkW M M' := by
  obtain ⟨⟨a1, a2, a3⟩, -, ⟨t1, -, -⟩, ⟨b1, b2, b3⟩, -, -⟩ := tbl_ok k (by omega)
  have m0 : M.1 (307 + k) 0 = nI (kc k) := (ms_at hm (by omega) 0).trans a1
  obtain ⟨d1, d2, d3⟩ := badX_0 hb
  obtain ⟨c1, c2, c3, c4, c5⟩ := hX
  obtain ⟨o1, o2, o3, -, -, -⟩ := ok
  have i03 : inB 0 3 = true := q_in (i := 0) (by omega) (by omega)
  have i13 : inB 1 3 = true := q_in (i := 1) (by omega) (by omega)
  have cc : kc k = 10 ∨ kc k = 11 ∨ (20 ≤ kc k ∧ kc k ≤ 25) ∨ kc k = 30 ∨ kc k = 31 := by rcases tb_all k (by omega) with h | h | h | h | h | h | h <;> omega
  unfold fullX at hf
  unfold f_X5_keepInRoll keepX
  rw [if_pos t1, m0, show (0 : Int32).toNatClampNeg = 0 from rfl, show (1 : Int32).toNatClampNeg = 1 from rfl, q_lit 10, gO 10, q_lit 11, gO 11, q_lit 30, gO 30, q_lit 31, gO 31, q_lit 40, gO 40, if_neg (show ¬ kc k = 5 by omega), if_neg (show ¬ kc k = 6 by omega), if_neg (show ¬ kc k < 5 by omega)]
  -- adding to the roll, of a memory where its hues have been named
  have add : ∀ (N : PM) (nm : Nat), rR N 233 (nmO (xR X) nm) → hr_MS N → N.1 238 = M.1 238 → hr_fr tkW M N → N.1 223 = M.1 223 → N.1 224 = M.1 224 → N.1 225 = M.1 225 → N.1 226 = M.1 226 → N.1 227 = M.1 227 → oN (xR X) < 40 → ∃ M', hr_bd (f_X3_code (307 + k) N) (fun v5 M5 => if inB 0 3 = true then if inB 1 3 = true then hr_bd (f_X6_add 233 v5 (M5.1 238 0) (M5.1 238 1) M5) (fun v7 M7 => some ((), M7)) else none else none) = some ((), M') ∧ cX M' (xP X, addO (xR X) ((kc k % 10 : Nat) : Int) (nu k 0 v0) (nu k 1 v1) nm, X.2.2) ∧ hr_fr tkW M M' := by
    intro N nm hR hmN e38 hfN e23 e24 e25 e26 e27 hlt
    obtain ⟨M', g1, g2, g3⟩ := s_addO hR hlt ((kc k % 10 : Nat) : Int) (nu k 0 v0) (nu k 1 v1)
    rw [s_code hmN (by omega), q_bd_some, if_pos i03, if_pos i13, e38, hn0, hn1, q_nz, g1, q_bd_some]
    refine ⟨M', rfl, ⟨pB4 c1 ?_ ?_ ?_ ?_, g2, ?_, ?_, ?_⟩, hfN.tr (hr_fr.mono rfl g3)⟩
    · exact (g3.row 224 (fun _ => rfl)).trans e24
    · exact (g3.row 225 (fun _ => rfl)).trans e25
    · exact (g3.row 226 (fun _ => rfl)).trans e26
    · exact (g3.row 227 (fun _ => rfl)).trans e27
    · rw [g3.row 223 (fun _ => rfl), e23]; exact c3
    · rw [g3.row 223 (fun _ => rfl), e23]; exact c4
    · rw [g3.row 223 (fun _ => rfl), e23]; exact c5
  have nam : ∀ nm, ∃ N, f_X6_name 233 (nI nm) M = some ((), N) ∧ rR N 233 (nmO (xR X) nm) ∧ hr_MS N ∧ N.1 238 = M.1 238 ∧ hr_fr tkW M N ∧ N.1 223 = M.1 223 ∧ N.1 224 = M.1 224 ∧ N.1 225 = M.1 225 ∧ N.1 226 = M.1 226 ∧ N.1 227 = M.1 227 := by
    intro nm
    obtain ⟨g1, g2⟩ := s_name c2 nm
    have hf2 : hr_fr tkW M (hr_si M 233 2 (nI (oS (xR X) ||| nm))) := hr_fr.si rfl (hr_fr.rf _ _)
    exact ⟨_, g1, g2, hm.fr hf2 rfl, si_ne _ _ _ (by omega), hf2, si_ne _ _ _ (by omega), si_ne _ _ _ (by omega), si_ne _ _ _ (by omega), si_ne _ _ _ (by omega), si_ne _ _ _ (by omega)⟩
  by_cases z11 : kc k = 11
  · obtain ⟨s1, s2⟩ := (tb_10 k (by omega)).2.1 z11
    have en : nu k 0 v0 = v0 := by unfold nu; rw [if_pos (by omega)]
    rw [if_neg (show ¬ nI (kc k) = nI 10 from fun y => by have := (q_eq (by omega) (by omega)).mp y; omega), if_pos (show nI (kc k) = nI 11 by rw [z11]), if_pos i03, hn0, en, ← q_nz, if_pos z11]
    refine ⟨_, rfl, ⟨pB4 c1 (si_ne _ _ _ (by omega)) (si_ne _ _ _ (by omega)) (si_ne _ _ _ (by omega)) (si_ne _ _ _ (by omega)), ⟨c2.1, ⟨?_, ?_, ?_⟩, fun i hi => ?_⟩, ?_, ?_, ?_⟩, hr_fr.si rfl (hr_fr.rf _ _)⟩
    · rw [si_same, if_neg (by omega)]; exact c2.2.1.1
    · rw [si_same, if_pos rfl]; rfl
    · rw [si_same, if_neg (by omega)]; exact c2.2.1.2.2
    · rw [si_ne _ _ _ (by omega), si_ne _ _ _ (by omega), si_ne _ _ _ (by omega)]; exact c2.2.2 i hi
    · rw [si_ne _ _ _ (by omega)]; exact c3
    · rw [si_ne _ _ _ (by omega)]; exact c4
    · rw [si_ne _ _ _ (by omega)]; exact c5
  rw [if_neg z11]
  rw [if_neg (show ¬ (kc k = 6 ∨ kc k = 11) by omega), if_neg (show ¬ kc k = 5 by omega), if_neg (show ¬ kc k < 5 by omega)] at hf
  have hlim := of_decide_eq_false hf
  have l40 := (lim_ok (kc k / 10) (by omega) (by omega)).2
  by_cases z10 : kc k = 10
  · obtain ⟨s1, s2, s3, s4⟩ := (tb_10 k (by omega)).1 z10
    have en : nu k 0 v0 = v0 := by unfold nu; rw [if_pos (by omega)]
    have e0 := d1 (by omega)
    obtain ⟨N, g1, g2, g3, g4, g5, g6, g7, g8, g9, g0⟩ := nam (2 ^ v0)
    rw [if_pos (show nI (kc k) = nI 10 by rw [z10]), if_pos i03, hn0, en, ← q_nz, q_lit 1, gO 1, q_jl (by omega), g1, q_bd_some, if_pos z10]
    have := add N _ g2 g3 g4 g5 g6 g7 g8 g9 g0 (by omega)
    rw [en] at this
    exact this
  rw [if_neg (show ¬ nI (kc k) = nI 10 from fun y => z10 ((q_eq (by omega) (by omega)).mp y)), if_neg (show ¬ nI (kc k) = nI 11 from fun y => z11 ((q_eq (by omega) (by omega)).mp y)), if_neg z10]
  by_cases z30 : kc k = 30 ∨ kc k = 31
  · obtain ⟨s1, s2, s3, s4⟩ := (tb_10 k (by omega)).2.2 z30
    have en : nu k 0 v0 = v0 := by unfold nu; rw [if_pos (by omega)]
    have en1 : nu k 1 v1 = v1 := by unfold nu; rw [if_pos (by omega)]
    have e0 := d1 (by omega)
    have e1 := d2 (by omega)
    obtain ⟨N, g1, g2, g3, g4, g5, g6, g7, g8, g9, g0⟩ := nam (2 ^ v0 ||| 2 ^ v1)
    have := add N _ g2 g3 g4 g5 g6 g7 g8 g9 g0 (by omega)
    rw [if_pos (show 30 ≤ kc k by omega)]
    rw [en, en1] at this
    have body : ∃ M', (if inB 0 3 = true then if inB 1 3 = true then hr_bd (f_X6_name 233 ((jl 1 (M.1 238 0)) ||| (jl 1 (M.1 238 1))) M) (fun v11 M11 => hr_bd (f_X3_code (307 + k) M11) (fun v13 M13 => if inB 0 3 = true then if inB 1 3 = true then hr_bd (f_X6_add 233 v13 (M13.1 238 0) (M13.1 238 1) M13) (fun v15 M15 => some ((), M15)) else none else none)) else none else none : Option (Unit × PM)) = some ((), M') ∧ cX M' (xP X, addO (xR X) ((kc k % 10 : Nat) : Int) (nu k 0 v0) (nu k 1 v1) (2 ^ v0 ||| 2 ^ v1), X.2.2) ∧ hr_fr tkW M M' := by
      rw [if_pos i03, if_pos i13, hn0, hn1, en, en1, ← q_nz, ← q_nz, q_lit 1, gO 1, q_jl (by omega), q_jl (by omega), q_or, g1, q_bd_some]
      exact this
    rcases z30 with z | z
    · rw [if_pos (show nI (kc k) = nI 30 by rw [z])]
      exact body
    · rw [if_neg (show ¬ nI (kc k) = nI 30 from fun y => by have := (q_eq (by omega) (by omega)).mp y; omega), if_pos (show nI (kc k) = nI 31 by rw [z])]
      exact body
  rw [if_neg (show ¬ nI (kc k) = nI 30 from fun y => z30 (Or.inl ((q_eq (by omega) (by omega)).mp y))), if_neg (show ¬ nI (kc k) = nI 31 from fun y => z30 (Or.inr ((q_eq (by omega) (by omega)).mp y))), if_neg (show ¬ nI (kc k) = nI 40 from fun y => by have := (q_eq (by omega) (by omega)).mp y; omega), if_neg (show ¬ 30 ≤ kc k by omega)]
  exact add M 0 ⟨c2.1, ⟨c2.2.1.1, c2.2.1.2.1, by rw [show oS (nmO (xR X) 0) = oS (xR X) ||| 0 from rfl, Nat.or_zero]; exact c2.2.1.2.2⟩, c2.2.2⟩ hm rfl (hr_fr.rf _ _) rfl rfl rfl rfl rfl (by omega)
theorem s_take {s k p ws : Nat} (hm : hr_MS M) (hX : cX M X) (ok : xOK s X) (h0 : xF X = 0) (hk : k < 17) (hs : kc k / 10 = s) (hn : nmM M B L p (kn k)) (hv : ∀ i, i < kn k → vT B L (ps B L p i) ≤ 99) (hq6 : ∀ i, i < 3 → sT B L (ps B L p i) ≤ 600) : ∃ M', f_X5_take (307 + k) (nI ws) M = some ((), M') ∧ cX M' (effX k ws (vT B L (ps B L p 0)) (vT B L (ps B L p 1)) (vT B L (ps B L p 2)) (sT B L (ps B L p 0)) (sT B L (ps B L p 1)) (sT B L (ps B L p 2)) X) ∧ hr_fr tkW M M' := by
  obtain ⟨-, -, ⟨t1, -, -⟩, ⟨b1, b2, b3⟩, -, -⟩ := tbl_ok k (by omega)
  have ho40 : oN (xR X) ≤ 40 := by
    rcases Nat.eq_zero_or_pos s with z | z
    · rw [ok.2.2.2.2.2 z]; omega
    · have s5 : s < 5 := by omega
      obtain ⟨q1, -⟩ := ok.2.1 z
      have ss : s = 1 ∨ s = 2 ∨ s = 3 ∨ s = 4 := by omega
      rcases ss with rfl | rfl | rfl | rfl
      · have : oN (xR X) ≤ 9 := q1.1; omega
      · exact q1.1
      · have : oN (xR X) ≤ 12 := q1.1; omega
      · have : oN (xR X) ≤ 8 := q1.1; omega
  unfold f_X5_take effX
  rw [if_pos t1, s_isFull hm hX ok.1 ho40 (by omega), q_bd_some, if_neg (show ¬ xF X ≠ 0 from fun y => y h0)]
  cases hf : fullX k X with
  | true =>
    obtain ⟨M', g1, g2, g3⟩ := s_note (f := 3) (q := ws) hX h0 (by omega) (by omega)
    rw [if_neg (show ¬ bI true = 0 by decide), show (3 : Int32) = nI 3 from rfl, g1, q_bd_some, if_pos rfl]
    exact ⟨M', rfl, g2, g3⟩
  | false =>
    rw [if_pos (show bI false = 0 from rfl), s_badPlace hm hk hn hv, q_bd_some, if_neg (show ¬ false = true by simp), show (-1 : Int32) = zI (-1) by decide]
    by_cases z : badX k (vT B L (ps B L p 0)) (vT B L (ps B L p 1)) (vT B L (ps B L p 2)) = 0
    · have n0 : ∀ i, i < 3 → M.1 238 i = zI (nu k i (vT B L (ps B L p i))) := fun i hi => (hn i hi).1
      rw [if_pos z, if_pos rfl, s_sort hm (by omega), q_bd_some, if_pos z]
      by_cases zs : s = 0
      · rw [if_pos (show nI (kc k / 10) = 0 by rw [hs, zs]; rfl)]
        obtain ⟨M', g1, g2, g3⟩ := s_keepP hm hX (zs ▸ ok) hk (by omega) hf z (fun i hi => by
          rw [n0 i (by omega), show nu k i (vT B L (ps B L p i)) = (vT B L (ps B L p i) : Int) from if_pos hi, ← q_nz]
          congr 1
          have : i = 0 ∨ i = 1 ∨ i = 2 := by omega
          rcases this with rfl | rfl | rfl <;> rfl) (n0 1 (by omega))
        rw [g1, q_bd_some]
        exact ⟨M', rfl, g2, g3⟩
      · rw [if_neg (show ¬ nI (kc k / 10) = 0 from fun y => by have := (q_eq (b := 0) (by omega) (by omega)).mp y; omega)]
        obtain ⟨M', g1, g2, g3⟩ := s_keepR (v2 := vT B L (ps B L p 2)) hm hX ok (by omega) hk hs hf z (n0 0 (by omega)) (n0 1 (by omega))
        rw [g1, q_bd_some]
        exact ⟨M', rfl, g2, g3⟩
    · rw [if_neg z, if_neg z]
      generalize hq : (if badX k (vT B L (ps B L p 0)) (vT B L (ps B L p 1)) (vT B L (ps B L p 2)) = 1 then sT B L (ps B L p 0) else if badX k (vT B L (ps B L p 0)) (vT B L (ps B L p 1)) (vT B L (ps B L p 2)) = 2 then sT B L (ps B L p 1) else sT B L (ps B L p 2)) = q
      obtain ⟨M', g1, g2, g3⟩ := s_note (f := 2) (q := q) hX h0 (by omega) (by omega)
      have q6 : q ≤ 600 := by
        rw [← hq]
        have := hq6 0 (by omega)
        have := hq6 1 (by omega)
        have := hq6 2 (by omega)
        split
        · assumption
        · split <;> assumption
      have nq : ¬ nI q = zI (-1) := fun y => by
        rw [q_nz] at y
        have := (q_zeq (by omega) (by omega)).mp y
        omega
      rw [if_neg nq, show (2 : Int32) = nI 2 from rfl, g1, q_bd_some]
      exact ⟨M', rfl, g2, g3⟩
end CLS
