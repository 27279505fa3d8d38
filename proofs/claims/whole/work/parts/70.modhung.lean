/-! HUNG, on both sides -/
def ssS (P : Pal) (R : Rol) (k : Nat) : Nat := sumN (fun j => strH P (hsR R k) (hsR R j)) (oN R)
def fs2 (g : Nat → Nat) (i : Nat) : Int := if i = 0 then -1 else (g (amx g i) : Nat)
theorem fs2_s {g : Nat → Nat} {i : Nat} (h : i ≠ 0) : fs2 g i = (g (amx g i) : Nat) := if_neg h
theorem ssS_le {P : Pal} {R : Rol} (hg : gOK P R) (k : Nat) : ssS P R k ≤ 54 := by
  have h6 := hg.1.1.2.1
  have h9 := hg.1.2.1
  refine Nat.le_trans (sumN_le (b := 6) (fun j _ => Nat.le_trans (strH_le _ _ _) h6)) (by omega)
/-- the sum below the diagonal -/
def dgS (s : Nat → Nat → Nat) (n : Nat) : Nat := sumN (fun k => sumN (s k) k) n
theorem sumN_add (f g : Nat → Nat) (n : Nat) : sumN (fun k => f k + g k) n = sumN f n + sumN g n := by
  induction n with
  | zero => rfl
  | succ n ih => unfold sumN; rw [ih]; omega
theorem dg_2 {s : Nat → Nat → Nat} (hs : ∀ a b, s a b = s b a) (h0 : ∀ a, s a a = 0) (n : Nat) : sumN (fun k => sumN (s k) n) n = 2 * dgS s n := by
  induction n with
  | zero => rfl
  | succ n ih =>
    have e1 : sumN (fun k => sumN (s k) (n + 1)) (n + 1) = sumN (fun k => sumN (s k) n + s k n) n + (sumN (s n) n + s n n) := rfl
    have e2 : dgS s (n + 1) = dgS s n + sumN (s n) n := rfl
    have e3 : sumN (fun k => s k n) n = sumN (s n) n := sumN_congr (fun k _ => hs k n)
    rw [e1, e2, sumN_add, ih, e3, h0]
    omega
theorem mB.fr' {M M' : PM} {q g : Nat} {P : Pal} {R : Rol} (h : mB M q P g R) {V : List (Nat × Nat)} (hf : hr_fr V M M') (h1 : ∀ k, hr_in V 281 k = false) (h2 : hr_in V 275 24 = false) (h3 : hr_in V 275 25 = false) (h4 : ∀ k, hr_in V 288 k = false) (h5 : ∀ k, hr_in V 282 k = false) (h6 : hr_in V 275 28 = false) : mB M' q P g R :=
  ⟨h.1.at (hf.row 281 h1) (hf.at 275 24 h2) (hf.at 275 25 h3) (hf.row 288 h4), h.2.at (hf.row 282 h5) (hf.at 275 28 h6)⟩
section MOD
variable {M : PM} {q g : Nat} {P : Pal} {R : Rol}
theorem hsR_n {R : Rol} {P : Pal} (hg : gOK P R) {k : Nat} (hk : k < oN R) : zI (oA R k) = nI (hsR R k) ∧ hsR R k < pH P := ⟨by unfold hsR; rw [q_nz, Int.toNat_of_nonneg (hg.2 k hk).1.1], (hg.2 k hk).1.2⟩
theorem s_greatestSet (hB : mB M q P g R) (hg : gOK P R) : f_X11_greatestSet M = some (nI (gqS (qr (eF P (hsR R)) (oN R)) (2 ^ oN R)), M) := by
  have h9 := hg.1.2.1
  have h2 : 1 ≤ 2 ^ oN R := Nat.one_le_two_pow
  have h3 : 2 ^ oN R ≤ 2 ^ 9 := Nat.pow_le_pow_right (by decide) h9
  unfold f_X11_greatestSet
  refine hr_for (σ := Int32) (fun f s x => f_X11_greatestSet_4 f x (nI s) M) (2 ^ oN R) (fun s x => 1 ≤ s ∧ x = nI (gqS (qr (eF P (hsR R)) (oN R)) s)) (fun r => r = some (nI (gqS (qr (eF P (hsR R)) (oN R)) (2 ^ oN R)), M)) ?_ ?_ FU 1 0 h2 (FU_ok (by omega)) ⟨Nat.le_refl _, by show nI 0 = nI (if _ then 0 else 0); rw [ite_self]⟩
  · rintro f s x hs2 ⟨hs1, rfl⟩
    right
    have hgl : gqS (qr (eF P (hsR R)) (oN R)) s ≤ s - 1 := by
      have := gqS_lt (qr (eF P (hsR R)) (oN R)) (s - 1)
      rw [show s - 1 + 1 = s by omega] at this
      exact this
    have p1 := popc_le s
    have p2 := popc_le (gqS (qr (eF P (hsR R)) (oN R)) s)
    have e1 : gqS (qr (eF P (hsR R)) (oN R)) (s + 1) = if popc (gqS (qr (eF P (hsR R)) (oN R)) s) < popc s ∧ qr (eF P (hsR R)) (oN R) s = true then s else gqS (qr (eF P (hsR R)) (oN R)) s := rfl
    have es : f_X11_isSet (nI s) (nI 1) M = some (bI (stS (eF P (hsR R)) (oN R) s true), M) := s_isSet hB hg (by omega) true
    show ∃ s', f_X11_greatestSet_4 (f + 1) _ (nI s) M = f_X11_greatestSet_4 f s' (nI (s + 1)) M ∧ _
    rw [f_X11_greatestSet_4.eq_2]
    simp (disch := omega) only [q_lit, q_m1, q_m2, q_m1000, q_add, q_mul, q_cl, q_le, q_lt, q_eq, q_in, q_bd_some, eq_self, if_true, if_false, q_b0, q_b1, q_b01, q_bt, q_bf, q_ft, q_tf, Nat.mul_zero, Nat.add_zero, Nat.zero_add, or_true, true_or, not_true_eq_false, not_false_eq_true, reduceCtorEq, s_pictures hB.2, q_jl, show ¬ 2 ^ oN R ≤ s by omega, s_ones, es, stS_1]
    rw [e1]
    by_cases hc : popc s ≤ popc (gqS (qr (eF P (hsR R)) (oN R)) s)
    · rw [if_pos hc, if_neg (fun z => by omega)]
      exact ⟨_, rfl, by omega, rfl⟩
    · rw [if_neg hc]
      cases hq : qr (eF P (hsR R)) (oN R) s with
      | false =>
        rw [if_pos rfl, if_neg (fun z => by cases z.2)]
        exact ⟨_, rfl, by omega, rfl⟩
      | true =>
        rw [if_neg (by simp), if_pos ⟨by omega, rfl⟩]
        exact ⟨_, rfl, by omega, rfl⟩
  · rintro f x ⟨hs1, rfl⟩
    show f_X11_greatestSet_4 (f + 1) _ (nI (2 ^ oN R)) M = _
    rw [f_X11_greatestSet_4.eq_2]
    simp (disch := omega) only [q_lit, q_m1, q_m2, q_m1000, q_add, q_mul, q_cl, q_le, q_lt, q_eq, q_in, q_bd_some, eq_self, if_true, if_false, q_b0, q_b1, q_b01, q_bt, q_bf, q_ft, q_tf, Nat.mul_zero, Nat.add_zero, Nat.zero_add, or_true, true_or, not_true_eq_false, not_false_eq_true, reduceCtorEq, s_pictures hB.2, q_jl, Nat.le_refl]
theorem s_curtains (hB : mB M q P g R) (hg : gOK P R) : f_X11_curtains M = some (nI (hmS (qt (eF P (hsR R)) (oN R)) (2 ^ oN R - 1) (2 ^ oN R - 1)), M) := by
  have h9 := hg.1.2.1
  have h2 : 1 ≤ 2 ^ oN R := Nat.one_le_two_pow
  have h3 : 2 ^ oN R ≤ 2 ^ 9 := Nat.pow_le_pow_right (by decide) h9
  have hle : ∀ j, hmS (qt (eF P (hsR R)) (oN R)) (2 ^ oN R - 1) j < 1024 := by
    intro j
    induction j with
    | zero => show 2 ^ oN R - 1 < 1024; omega
    | succ j ih =>
      unfold hmS
      split
      · omega
      · exact ih
  unfold f_X11_curtains
  rw [s_pictures hB.2, q_bd_some, q_lit 1, gO, q_jl (by omega), q_sub h2, q_nsub, show ((2 ^ oN R - 1 : Nat) : Int) - (1 : Nat) = ((2 ^ oN R - 1 : Nat) : Int) - 1 - (0 : Nat) by omega]
  refine hr_for (σ := Int32) (fun f j x => f_X11_curtains_15 f (nI (2 ^ oN R - 1)) x (zI (((2 ^ oN R - 1 : Nat) : Int) - 1 - j)) M) (2 ^ oN R - 1) (fun j x => x = nI (hmS (qt (eF P (hsR R)) (oN R)) (2 ^ oN R - 1) j)) (fun r => r = some (nI (hmS (qt (eF P (hsR R)) (oN R)) (2 ^ oN R - 1) (2 ^ oN R - 1)), M)) ?_ ?_ FU 0 (nI (2 ^ oN R - 1)) (Nat.zero_le _) (FU_ok (by omega)) rfl
  · rintro f j x hj rfl
    right
    have hj2 := hle j
    have p1 := popc_le (2 ^ oN R - 1 - 1 - j)
    have p2 := popc_le (hmS (qt (eF P (hsR R)) (oN R)) (2 ^ oN R - 1) j)
    have ei : zI (((2 ^ oN R - 1 : Nat) : Int) - 1 - j) = nI (2 ^ oN R - 1 - 1 - j) := by
      rw [q_nz]
      congr 1
      omega
    have en : nI (2 ^ oN R - 1 - 1 - j) + zI (-1) = zI (((2 ^ oN R - 1 : Nat) : Int) - 1 - (j + 1 : Nat)) := by
      rw [q_nzadd]
      congr 1
      omega
    have bl := bd_le (2 ^ oN R - 1) (2 ^ oN R - 1 - 1 - j)
    have es : ∀ s, s < 2147483648 → f_X11_isSet (nI s) (nI 0) M = some (bI (stS (eF P (hsR R)) (oN R) s false), M) := fun s hs => s_isSet hB hg hs false
    have e1 : hmS (qt (eF P (hsR R)) (oN R)) (2 ^ oN R - 1) (j + 1) = if popc (2 ^ oN R - 1 - 1 - j) ≤ popc (hmS (qt (eF P (hsR R)) (oN R)) (2 ^ oN R - 1) j) ∧ qt (eF P (hsR R)) (oN R) (bd (2 ^ oN R - 1) (2 ^ oN R - 1 - 1 - j)) = true then 2 ^ oN R - 1 - 1 - j else hmS (qt (eF P (hsR R)) (oN R)) (2 ^ oN R - 1) j := rfl
    show ∃ s', f_X11_curtains_15 (f + 1) (nI (2 ^ oN R - 1)) _ (zI (((2 ^ oN R - 1 : Nat) : Int) - 1 - j)) M = f_X11_curtains_15 f (nI (2 ^ oN R - 1)) s' (zI (((2 ^ oN R - 1 : Nat) : Int) - 1 - (j + 1 : Nat))) M ∧ _
    rw [f_X11_curtains_15.eq_2, ei, ← en, if_neg (show ¬ nI (2 ^ oN R - 1 - 1 - j) < 0 from nI_pos (by omega))]
    simp (disch := omega) only [q_lit, q_m1, q_m2, q_m1000, q_add, q_mul, q_cl, q_le, q_lt, q_eq, q_in, q_bd_some, eq_self, if_true, if_false, q_b0, q_b1, q_b01, q_bt, q_bf, q_ft, q_tf, Nat.mul_zero, Nat.add_zero, Nat.zero_add, or_true, true_or, not_true_eq_false, not_false_eq_true, reduceCtorEq, s_ones, q_bd, es, stS_0]
    rw [e1]
    by_cases hc : popc (hmS (qt (eF P (hsR R)) (oN R)) (2 ^ oN R - 1) j) < popc (2 ^ oN R - 1 - 1 - j)
    · rw [if_pos hc, if_neg (fun z => by omega)]
      exact ⟨_, rfl, rfl⟩
    · rw [if_neg hc]
      cases hq : qt (eF P (hsR R)) (oN R) (bd (2 ^ oN R - 1) (2 ^ oN R - 1 - 1 - j)) with
      | false =>
        rw [if_pos rfl, if_neg (fun z => by cases z.2)]
        exact ⟨_, rfl, rfl⟩
      | true =>
        rw [if_neg (by simp), if_pos ⟨by omega, rfl⟩]
        exact ⟨_, rfl, rfl⟩
  · rintro f x rfl
    show f_X11_curtains_15 (f + 1) (nI (2 ^ oN R - 1)) _ (zI (((2 ^ oN R - 1 : Nat) : Int) - 1 - (2 ^ oN R - 1 : Nat))) M = _
    rw [f_X11_curtains_15.eq_2, if_pos]
    show _ < nI 0
    rw [q_znlt (by omega) (by omega)]
    omega
theorem s_rooms29 (hB : mB M q P g R) (hg : gOK P R) {s : Nat} (h1 : 1 ≤ s) (h2 : s < 2 ^ oN R) {E : Nat → Nat → Bool} (hEE : E = eF P (hsR R)) (k9 : Int32 → PM → Option (Int32 × PM)) (h9s : M.1 295 s = nI 9) (hx : mkX M 295 E (oN R) s) : ∃ M', f_X11_fewestRooms_29 k9 FU (nI s) (nI s) M = k9 (nI (s + 1)) M' ∧ isX E (oN R) s (chi E (oN R) s) ∧ M'.1 295 s = nI (chi E (oN R) s) ∧ (∀ t, t ≠ s → M'.1 295 t = M.1 295 t) ∧ hr_fr [(295, 0)] M M' := by
  have h9 := hg.1.2.1
  have h3 : 2 ^ oN R ≤ 2 ^ 9 := Nat.pow_le_pow_right (by decide) h9
  have hE : ∀ i, E i i = false := by rw [hEE]; exact eF_self P (hsR R)
  obtain ⟨l, l1, l2, l3⟩ := low_ex s s (Nat.le_refl _) (by omega)
  have hl : l < oN R := lt2_iff.mp h2 l l1
  suffices hsuf : ∃ M' m, f_X11_fewestRooms_29 k9 FU (nI s) (nI s) M = k9 (nI (s + 1)) M' ∧ isX E (oN R) s m ∧ M'.1 295 s = nI m ∧ (∀ t, t ≠ s → M'.1 295 t = M.1 295 t) ∧ hr_fr [(295, 0)] M M' by
    obtain ⟨M', m, g1, g2, g3⟩ := hsuf
    refine ⟨M', g1, ?_⟩
    rw [g2.chi]
    exact ⟨g2, g3⟩
  refine hr_for (σ := Nat × Nat × PM) (fun f i x => f_X11_fewestRooms_29 k9 f (nI s) (nI x.1) x.2.2) (s + 1) (fun i x => i + x.1 ≤ s ∧ sub2 x.1 s ∧ (x.2.1 ≤ 9 ∧ x.2.2.1 295 s = nI x.2.1) ∧ pc E (oN R) s x.2.1 ∧ (∀ X, sub2 X s → x.1 < X → qt E (oN R) X = true → x.2.1 ≤ 1 + chi E (oN R) (bd s X)) ∧ (∀ t, t ≠ s → x.2.2.1 295 t = M.1 295 t) ∧ hr_fr [(295, 0)] M x.2.2) (fun r => ∃ M' m, r = k9 (nI (s + 1)) M' ∧ isX E (oN R) s m ∧ M'.1 295 s = nI m ∧ (∀ t, t ≠ s → M'.1 295 t = M.1 295 t) ∧ hr_fr [(295, 0)] M M') ?_ ?_ FU 0 (s, 9, M) (Nat.zero_le _) (FU_ok (by omega)) ⟨by show 0 + s ≤ s; omega, fun i hi => hi, ⟨Nat.le_refl _, h9s⟩, pc_id hE s h9, fun X hX hlt => by have := hX.le; have : s < X := hlt; omega, fun _ _ => rfl, hr_fr.rf _ _⟩
  · rintro f i ⟨w, m, N⟩ hi ⟨a1, a2, ⟨a3, a3'⟩, a4, a5, a6, a7⟩
    dsimp only at a1 a2 a3 a3' a4 a5 a6 a7
    dsimp only
    rw [f_X11_fewestRooms_29.eq_2]
    by_cases hw0 : w = 0
    · left
      subst hw0
      rw [if_pos (show nI 0 ≤ 0 by decide), q_lit 1, gO, q_add]
      refine ⟨N, m, rfl, ⟨a4, ?_⟩, a3', a6, a7⟩
      intro k hk
      obtain ⟨X, y1, y2, y3, y4, y5⟩ := pc_drop hk hl l1
      have hX0 : 0 < X := by
        apply Nat.pos_of_ne_zero
        intro z
        rw [z, Nat.zero_testBit] at y2
        cases y2
      have hlt : bd s X < s := by
        apply Nat.lt_of_le_of_ne (bd_le _ _)
        intro z
        have : (bd s X).testBit l = true := by rw [z]; exact l1
        rw [bd_bit, y2] at this
        simp at this
      have := a5 X y1 hX0 y3
      have := (hx _ hlt).1.2 (k - 1) y5
      omega
    · right
      have hwp : sub2 w s := a2
      have hws := hwp.le
      have hlt : bd s w < s := by
        have hne : ∃ j, w.testBit j = true := by
          obtain ⟨j, hj, -⟩ := low_ex w w (Nat.le_refl _) hw0
          exact ⟨j, hj⟩
        obtain ⟨j, hj⟩ := hne
        apply Nat.lt_of_le_of_ne (bd_le _ _)
        intro z
        have : (bd s w).testBit j = true := by rw [z]; exact hwp j hj
        rw [bd_bit, hj] at this
        simp at this
      obtain ⟨x1, x2⟩ := hx (bd s w) hlt
      have x3 := chi_le hE x1
      have eN : N.1 295 (bd s w) = nI (chi E (oN R) (bd s w)) := (a6 _ (by omega)).trans x2
      have hBN : mB N q P g R := hB.fr' a7 (fun _ => rfl) rfl rfl (fun _ => rfl) (fun _ => rfl) rfl
      have es : f_X11_isSet (nI w) (nI 0) N = some (bI (qt E (oN R) w), N) := by
        rw [hEE, ← stS_0]
        exact s_isSet hBN hg (by omega) false
      have next : ∀ m', m' ≤ m → pc E (oN R) s m' → (qt E (oN R) w = true → m' ≤ 1 + chi E (oN R) (bd s w)) → ∃ s' : Nat × Nat × PM, f_X11_fewestRooms_29 k9 f (nI s) (nI ((w - 1) &&& s)) (hr_si N 295 s (nI m')) = f_X11_fewestRooms_29 k9 f (nI s) (nI s'.1) s'.2.2 ∧ i + 1 + s'.1 ≤ s ∧ sub2 s'.1 s ∧ (s'.2.1 ≤ 9 ∧ s'.2.2.1 295 s = nI s'.2.1) ∧ pc E (oN R) s s'.2.1 ∧ (∀ X, sub2 X s → s'.1 < X → qt E (oN R) X = true → s'.2.1 ≤ 1 + chi E (oN R) (bd s X)) ∧ (∀ t, t ≠ s → s'.2.2.1 295 t = M.1 295 t) ∧ hr_fr [(295, 0)] M s'.2.2 := by
        intro m' hm hp hw2
        have hn1 : ((w - 1) &&& s) < w := Nat.lt_of_le_of_lt (Nat.and_le_left) (by omega)
        refine ⟨((w - 1) &&& s, m', hr_si N 295 s (nI m')), rfl, by show i + 1 + ((w - 1) &&& s) ≤ s; omega, and_sub _ _, ⟨by show m' ≤ 9; omega, by rw [si_same, if_pos rfl]⟩, hp, ?_, ?_, hr_fr.si rfl a7⟩
        · intro X hX hlt2 hqX
          show m' ≤ _
          by_cases e : X = w
          · subst e; exact hw2 hqX
          · have hge : w ≤ X := by
              apply Nat.le_of_not_lt
              intro z
              have := next_sub w w s X (Nat.le_refl _) a2 hX z
              have : (w - 1) &&& s < X := hlt2
              omega
            exact Nat.le_trans hm (a5 X hX (by omega) hqX)
        · intro t ht
          rw [si_same, if_neg ht]
          exact a6 t ht
      rw [if_neg (show ¬ nI w ≤ 0 from fun z => by have := (q_le (a := w) (b := 0) (by omega) (by omega)).mp z; omega)]
      simp (disch := omega) only [q_lit, q_m1, q_m2, q_m1000, q_add, q_mul, q_cl, q_le, q_lt, q_eq, q_in, q_bd_some, eq_self, if_true, if_false, q_b0, q_b1, q_b01, q_bt, q_bf, q_ft, q_tf, Nat.mul_zero, Nat.add_zero, Nat.zero_add, or_true, true_or, not_true_eq_false, not_false_eq_true, reduceCtorEq, q_sub, q_and, q_bd, eN, a3', es]
      by_cases hc : m ≤ chi E (oN R) (bd s w) + 1
      · rw [if_pos hc]
        exact next m (Nat.le_refl _) a4 (fun _ => by omega)
      · rw [if_neg hc]
        cases hqw : qt E (oN R) w with
        | false =>
          rw [if_pos rfl]
          exact next m (Nat.le_refl _) a4 (fun z => by rw [hqw] at z; cases z)
        | true =>
          rw [if_neg (by simp)]
          exact next _ (by omega) (pc_add x1.1 hqw) (fun _ => by omega)
  · rintro f ⟨w, m, N⟩ ⟨a1, -⟩
    dsimp only at a1
    omega
theorem s_fewestRooms (hB : mB M q P g R) (hg : gOK P R) : hw (f_X11_fewestRooms M) (fun v _ => v = nI (chi (eF P (hsR R)) (oN R) (2 ^ oN R - 1))) := by
  have h9 := hg.1.2.1
  have h2 : 1 ≤ 2 ^ oN R := Nat.one_le_two_pow
  have h3 : 2 ^ oN R ≤ 2 ^ 9 := Nat.pow_le_pow_right (by decide) h9
  unfold f_X11_fewestRooms
  rw [if_pos (show inB 0 512 = true from q_in (i := 0) (by omega) (by omega))]
  refine hr_for (σ := PM) (fun f s N => f_X11_fewestRooms_9 f (nI s) N) (2 ^ oN R) (fun s N => (1 ≤ s ∧ mkX N 295 (eF P (hsR R)) (oN R) s) ∧ hr_fr [(295, 0)] M N) (fun r => hw r (fun v _ => v = nI (chi (eF P (hsR R)) (oN R) (2 ^ oN R - 1)))) ?_ ?_ FU 1 (hr_si M 295 0 (nI 0)) h2 (FU_ok (by omega)) ⟨⟨Nat.le_refl _, ?_⟩, hr_fr.si rfl (hr_fr.rf _ _)⟩
  · rintro f s N hs2 ⟨⟨hs1, hm⟩, hf⟩
    right
    have hBN : mB N q P g R := hB.fr' hf (fun _ => rfl) rfl rfl (fun _ => rfl) (fun _ => rfl) rfl
    have hf1 : hr_fr [(295, 0)] M (hr_si N 295 s (nI 9)) := hr_fr.si rfl hf
    have hB1 : mB (hr_si N 295 s (nI 9)) q P g R := hB.fr' hf1 (fun _ => rfl) rfl rfl (fun _ => rfl) (fun _ => rfl) rfl
    have hm1 : mkX (hr_si N 295 s (nI 9)) 295 (eF P (hsR R)) (oN R) s := fun t ht => by
      rw [si_same, if_neg (by omega)]
      exact hm t ht
    obtain ⟨N', g1, g2, g3, g4, g5⟩ := s_rooms29 hB1 hg hs1 hs2 rfl (fun x1 M => f_X11_fewestRooms_9 f x1 M) (by rw [si_same, if_pos rfl]) hm1
    show ∃ s', f_X11_fewestRooms_9 (f + 1) (nI s) N = f_X11_fewestRooms_9 f (nI (s + 1)) s' ∧ _
    rw [f_X11_fewestRooms_9.eq_2]
    simp (disch := omega) only [q_lit, q_m1, q_m2, q_m1000, q_add, q_mul, q_cl, q_le, q_lt, q_eq, q_in, q_bd_some, eq_self, if_true, if_false, q_b0, q_b1, q_b01, q_bt, q_bf, q_ft, q_tf, Nat.mul_zero, Nat.add_zero, Nat.zero_add, or_true, true_or, not_true_eq_false, not_false_eq_true, reduceCtorEq, s_pictures hBN.2, q_jl, show ¬ 2 ^ oN R ≤ s by omega]
    rw [g1]
    refine ⟨N', rfl, ⟨by omega, ?_⟩, hf1.tr g5⟩
    intro t ht
    by_cases e : t = s
    · rw [e]; exact ⟨g2, g3⟩
    · rw [g4 t e, si_same, if_neg e]
      exact hm t (by omega)
  · rintro f N ⟨⟨hs1, hm⟩, hf⟩
    have hBN : mB N q P g R := hB.fr' hf (fun _ => rfl) rfl rfl (fun _ => rfl) (fun _ => rfl) rfl
    show hw (f_X11_fewestRooms_9 (f + 1) (nI (2 ^ oN R)) N) _
    rw [f_X11_fewestRooms_9.eq_2]
    simp (disch := omega) only [q_lit, q_m1, q_m2, q_m1000, q_add, q_mul, q_cl, q_le, q_lt, q_eq, q_in, q_bd_some, eq_self, if_true, if_false, q_b0, q_b1, q_b01, q_bt, q_bf, q_ft, q_tf, Nat.mul_zero, Nat.add_zero, Nat.zero_add, or_true, true_or, not_true_eq_false, not_false_eq_true, reduceCtorEq, s_pictures hBN.2, q_jl, Nat.le_refl, q_sub]
    exact hw.ok (hm _ (by omega)).2
  · intro t ht
    rw [show t = 0 by omega, si_same, if_pos rfl, (pc_0 (eF P (hsR R)) (oN R)).chi]
    exact ⟨pc_0 _ _, rfl⟩
end MOD
