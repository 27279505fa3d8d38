/-! MIXES, by the model: how few units are needed of each colour -/
theorem s_lesN (M : PM) {x y : Nat} (hx : x < 2147483648) (hy : y < 2147483648) : f_X11_lesser (nI x) (nI y) M = some (nI (min x y), M) := by
  unfold f_X11_lesser
  by_cases h : y ≤ x
  · rw [if_pos ((q_le hy hx).mpr h), Nat.min_eq_right h]
  · rw [if_neg (fun z => h ((q_le hy hx).mp z)), Nat.min_eq_left (by omega)]
section MOD
variable {q : Nat} {P : Pal}
theorem s_isBorneA {M : PM} (hH : hM M q P) {c : Nat} (hc : c < 1000) (s : Int32) : hw (f_X11_isBorne (nI c) s M) (fun v M' => v = bI (mixB P s c) ∧ only289 M M') := by
  have h10 : pH P ≤ 10 := hH.1.1.2.1
  have h6 : pR P ≤ 6 := hH.1.1.2.2.1
  unfold f_X11_isBorne
  let p : Nat → Bool := fun h => decide (0 < strC P h (c / 100) (c / 10 % 10) (c % 10)) && hb s h
  have key : ∀ h, h < pH P → (foesC P (c / 100) (c / 10 % 10) (c % 10) &&& memS P s).testBit h = p h := by
    intro h hh
    rw [Nat.testBit_and, foesC, bset_bit, decide_eq_true hh, memS_bit h10 s hh]
    rfl
  refine hr_for (σ := PM) (fun f i s' => f_X11_isBorne_2 (nI c) s f (nI i) s') (pH P) (fun i s' => only289 M s' ∧ exb p i = false) (fun r => hw r (fun v M' => v = bI (mixB P s c) ∧ only289 M M')) ?_ ?_ FU 0 M (Nat.zero_le _) (FU_ok (by omega)) ⟨only289.rf M, rfl⟩
  · rintro f i s' hi ⟨g1, g2⟩
    have hH' := g1.hnd hH
    have hl : strC P i (c / 100) (c / 10 % 10) (c % 10) ≤ pR P := str0_le _ _
    show hw (f_X11_isBorne_2 (nI c) s (f + 1) (nI i) s') _ ∨ ∃ s'', f_X11_isBorne_2 (nI c) s (f + 1) (nI i) s' = f_X11_isBorne_2 (nI c) s f (nI (i + 1)) s'' ∧ _
    rw [f_X11_isBorne_2.eq_2, hH'.2.1.2, s_hasAny11 s (show i < 32 by omega)]
    simp (disch := omega) only [q_lit, q_m1, q_m2, q_m1000, q_add, q_mul, q_cl, q_le, q_lt, q_eq, q_in, q_bd_some, eq_self, if_true, if_false, q_b0, q_b1, q_b01, q_bt, q_bf, q_ft, q_tf, Nat.mul_zero, Nat.add_zero, Nat.zero_add, or_true, true_or, not_true_eq_false, not_false_eq_true, reduceCtorEq, show ¬ pH P ≤ i by omega, s_mindsColour hH' hi hc]
    cases hb2 : hb s i with
    | false =>
      right
      rw [if_pos rfl]
      refine ⟨s', rfl, g1, ?_⟩
      show (exb p i || p i) = false
      rw [g2]
      show (false || (_ && hb s i)) = false
      rw [hb2]
      simp
    | true =>
      rw [if_neg (by simp)]
      have g3 := (g1.tr (only289.lay s' 0 (pP P (3 * i)) (pP P (3 * i + 1)) (pP P (3 * i + 2)))).tr (only289.lay _ 3 (c / 100) (c / 10 % 10) (c % 10))
      by_cases h0 : strC P i (c / 100) (c / 10 % 10) (c % 10) ≤ 0
      · right
        rw [if_pos h0]
        refine ⟨_, rfl, g3, ?_⟩
        show (exb p i || p i) = false
        rw [g2]
        show (false || (decide (0 < strC P i (c / 100) (c / 10 % 10) (c % 10)) && hb s i)) = false
        rw [decide_eq_false (by omega)]
        rfl
      · left
        rw [if_neg h0]
        refine hw.ok ⟨?_, g3⟩
        unfold mixB
        rw [decide_eq_false]
        · rfl
        · intro z
          have hk := key i hi
          rw [z, Nat.zero_testBit] at hk
          have : p i = true := by
            show (decide (0 < strC P i (c / 100) (c / 10 % 10) (c % 10)) && hb s i) = true
            rw [decide_eq_true (by omega), hb2]; rfl
          rw [this] at hk
          cases hk
  · rintro f s' ⟨g1, g2⟩
    have hH' := g1.hnd hH
    show hw (f_X11_isBorne_2 (nI c) s (f + 1) (nI (pH P)) s') _
    rw [f_X11_isBorne_2.eq_2, hH'.2.1.2]
    simp (disch := omega) only [q_lit, q_m1, q_m2, q_m1000, q_add, q_mul, q_cl, q_le, q_lt, q_eq, q_in, q_bd_some, eq_self, if_true, if_false, q_b0, q_b1, q_b01, q_bt, q_bf, q_ft, q_tf, Nat.mul_zero, Nat.add_zero, Nat.zero_add, or_true, true_or, not_true_eq_false, not_false_eq_true, reduceCtorEq, Nat.le_refl]
    refine hw.ok ⟨?_, g1⟩
    unfold mixB
    rw [decide_eq_true]
    · rfl
    · apply Nat.eq_of_testBit_eq
      intro i
      rw [Nat.zero_testBit]
      by_cases hi : i < pH P
      · rw [key i hi]
        exact exb_no.mp g2 i hi
      · rw [Nat.testBit_and, foesC, bset_bit, decide_eq_false hi]
        rfl
theorem s_mixed {M : PM} (hH : hM M q P) {c h : Nat} (hc : c < 1000) (hh : h < pH P) : f_X11_mixed (nI c) (nI h) M = some (nI (mxd P c h), M) := by
  have h9 := pP_le hH.1.1.2
  have p0 := h9 (3 * h)
  have p1 := h9 (3 * h + 1)
  have p2 := h9 (3 * h + 2)
  unfold f_X11_mixed
  rw [show (0 : Int32) = nI 0 from rfl, show (1 : Int32) = nI 1 from rfl, show (2 : Int32) = nI 2 from rfl, s_part11 hH.1 hH.2.1.1 hh (by omega), q_bd_some, s_part11 hH.1 hH.2.1.1 hh (by omega), q_bd_some, s_part11 hH.1 hH.2.1.1 hh (by omega), q_bd_some, Nat.add_zero]
  rw [q_lit 100, q_lit 10, gO 100, gO 10, q_div (by omega) (by omega) (by omega), q_div (by omega) (by omega) (by omega), q_add, q_add, q_add, q_rem (by omega) (by omega) (by omega), q_rem (by omega) (by omega) (by omega), q_rem (by omega) (by omega) (by omega), q_mul, q_mul, q_add, q_add]
  rfl
/-- the needs, as they stand -/
def ndA (M : PM) (N : Nat → Nat) : Prop := ∀ c, c < 1000 → M.1 299 c = nI (N c)
theorem hM.w299 {M : PM} (hH : hM M q P) (j : Nat) (v : Int32) : hM (hr_si M 299 j v) q P := hH.at (si_ne _ _ _ (by omega)) (by rw [si_ne _ _ _ (by omega)]) (by rw [si_ne _ _ _ (by omega)]) (si_ne _ _ _ (by omega))
theorem ndA.up {M : PM} {N : Nat → Nat} (h : ndA M N) (c v : Nat) : ndA (hr_si M 299 c (nI v)) (upQ N c v) := by
  intro x hx
  rw [si_same]
  by_cases e : x = c
  · rw [if_pos e, e, upQ_at]
  · rw [if_neg e, upQ_ne _ _ e]; exact h x hx
/-- a sweep: what stood before, what stands, whether there was more, and how far it is -/
def swp (P : Pal) (B : Nat → Bool) (N0 N : Nat → Nat) (more : Bool) (c h : Nat) : Prop :=
  ((∀ x, x < 1000 → nd P B (pH P) x ≤ N x ∧ N x ≤ N0 x) ∧ (more = false → ∀ x, x < 1000 → N x = N0 x)) ∧
  ((∀ x a, x < c → a < pH P → N x ≤ 1 + N0 (mxd P x a)) ∧ ∀ a, a < h → N c ≤ 1 + N0 (mxd P c a)) ∧
  ((∀ x, x < 1000 → N0 x = nd P B (pH P) x) → more = false)
theorem swp_step {B : Nat → Bool} {N0 N : Nat → Nat} {more : Bool} {c h : Nat} (hn : pH P ≤ 10) (w : swp P B N0 N more c h) (hc : c < 1000) (hh : h < pH P) : swp P B N0 (upQ N c (min (N c) (1 + N (mxd P c h)))) (more || decide (1 + N (mxd P c h) < N c)) c (h + 1) := by
  obtain ⟨⟨w1, w2⟩, ⟨w3, w4⟩, w5⟩ := w
  have hy := mxd_lt P c h
  have hs := nd_step (P := P) (B := B) hn hc hh
  have hcc := w1 c hc
  have hyy := w1 _ hy
  have le : ∀ x, upQ N c (min (N c) (1 + N (mxd P c h))) x ≤ N x := fun x => by
    by_cases e : x = c
    · rw [e, upQ_at]; exact Nat.min_le_left _ _
    · rw [upQ_ne _ _ e]; exact Nat.le_refl _
  refine ⟨⟨fun x hx => ⟨?_, Nat.le_trans (le x) (w1 x hx).2⟩, fun hm x hx => ?_⟩, ⟨fun x a hx ha => Nat.le_trans (le x) (w3 x a hx ha), fun a ha => ?_⟩, fun hz => ?_⟩
  · by_cases e : x = c
    · rw [e, upQ_at]; omega
    · rw [upQ_ne _ _ e]; exact (w1 x hx).1
  · rw [Bool.or_eq_false_iff] at hm
    have h2 := w2 hm.1
    have h3 : ¬ 1 + N (mxd P c h) < N c := of_decide_eq_false hm.2
    by_cases e : x = c
    · rw [e, upQ_at, Nat.min_eq_left (by omega)]; exact h2 c hc
    · rw [upQ_ne _ _ e]; exact h2 x hx
  · by_cases e : a = h
    · rw [e, upQ_at]; omega
    · exact Nat.le_trans (le c) (w4 a (by omega))
  · have hm := w5 hz
    have h2 := w2 hm
    rw [hm, decide_eq_false]
    · rfl
    · rw [h2 c hc, h2 _ hy, hz c hc, hz _ hy]; omega
theorem s_needs57 {B : Nat → Bool} {N0 : Nat → Nat} (hN0 : ∀ x, x < 1000 → N0 x ≤ 1000000) (a1 : Int32) (k39 : Int32 → PM → Option (Unit × PM)) (k47 : Int32 → Int32 → PM → Option (Unit × PM)) {M : PM} (hH : hM M q P) {N : Nat → Nat} {more : Bool} {c : Nat} (hc : c < 1000) (hA : ndA M N) (w : swp P B N0 N more c 0) : ∃ M' N' more', f_X11_findNeeds_57 a1 k39 k47 FU (bI more) (nI c) (nI 0) M = k47 (bI more') (nI (c + 1)) M' ∧ hM M' q P ∧ ndA M' N' ∧ swp P B N0 N' more' (c + 1) 0 := by
  have hn := hH.1.1.2.1
  refine hr_for (σ := PM × (Nat → Nat) × Bool) (fun f h x => f_X11_findNeeds_57 a1 k39 k47 f (bI x.2.2) (nI c) (nI h) x.1) (pH P) (fun h x => hM x.1 q P ∧ ndA x.1 x.2.1 ∧ swp P B N0 x.2.1 x.2.2 c h) (fun r => ∃ M' N' more', r = k47 (bI more') (nI (c + 1)) M' ∧ hM M' q P ∧ ndA M' N' ∧ swp P B N0 N' more' (c + 1) 0) ?_ ?_ FU 0 (M, N, more) (Nat.zero_le _) (FU_ok (by omega)) ⟨hH, hA, w⟩
  · rintro f h ⟨M, N, more⟩ hh ⟨hH, hA, w⟩
    dsimp only at hH hA w
    right
    have hy := mxd_lt P c h
    have b1 := (w.1.1 c hc).2
    have b2 := hN0 c hc
    have b3 := (w.1.1 _ hy).2
    have b4 := hN0 _ hy
    have e102 : ∀ s0, f_X11_findNeeds_102 a1 k39 k47 (fun x2 x3 x4 M => f_X11_findNeeds_57 a1 k39 k47 f x2 x3 x4 M) (nI c) (nI h) (nI (1 + N (mxd P c h))) s0 M = f_X11_findNeeds_57 a1 k39 k47 f s0 (nI c) (nI (h + 1)) (hr_si M 299 c (nI (min (N c) (1 + N (mxd P c h))))) := by
      intro s0
      unfold f_X11_findNeeds_102
      rw [if_pos (q_in (by omega) (by omega)), q_cl (by omega), hA c hc, s_lesN M (by omega) (by omega), q_bd_some, if_pos (q_in (by omega) (by omega)), q_lit 1, gO 1, q_add]
    show ∃ s' : PM × (Nat → Nat) × Bool, f_X11_findNeeds_57 a1 k39 k47 (f + 1) (bI more) (nI c) (nI h) M = f_X11_findNeeds_57 a1 k39 k47 f (bI s'.2.2) (nI c) (nI (h + 1)) s'.1 ∧ _
    rw [f_X11_findNeeds_57.eq_2, hH.2.1.2, if_neg (fun z => by have := (q_le (by omega) (by omega)).mp z; omega), s_mixed hH hc hh, q_bd_some, if_pos (q_in (by omega) (by omega)), if_pos (q_in (by omega) (by omega)), q_cl (by omega), q_cl (by omega), hA c hc, hA _ hy, q_lit 1, gO 1, q_add, e102, e102]
    have st := swp_step hn w hc hh
    refine ⟨(_, _, _), ?_, hH.w299 _ _, hA.up _ _, st⟩
    cases more with
    | false =>
      rw [if_pos (show bI false = 0 from rfl)]
      by_cases z : N c ≤ 1 + N (mxd P c h)
      · rw [if_pos ((q_le (by omega) (by omega)).mpr z), decide_eq_false (show ¬ 1 + N (mxd P c h) < N c by omega)]
        rfl
      · rw [if_neg (fun y => z ((q_le (by omega) (by omega)).mp y)), decide_eq_true (show 1 + N (mxd P c h) < N c by omega)]
        rfl
    | true =>
      rw [if_neg (show ¬ bI true = 0 by decide)]
      rfl
  · rintro f ⟨M, N, more⟩ ⟨hH, hA, w⟩
    dsimp only at hH hA w
    show ∃ M' N' more', f_X11_findNeeds_57 a1 k39 k47 (f + 1) (bI more) (nI c) (nI (pH P)) M = _ ∧ _
    rw [f_X11_findNeeds_57.eq_2, hH.2.1.2, if_pos (Int32.le_refl _), q_lit 1, gO 1, q_add]
    refine ⟨M, N, more, rfl, hH, hA, w.1, ⟨fun x a hx ha => ?_, fun a ha => by omega⟩, w.2.2⟩
    by_cases e : x = c
    · rw [e]; exact w.2.1.2 a ha
    · exact w.2.1.1 x a (by omega) ha
theorem s_needs47 {B : Nat → Bool} {N0 : Nat → Nat} (hN0 : ∀ x, x < 1000 → N0 x ≤ 1000000) (a1 : Int32) (k39 : Int32 → PM → Option (Unit × PM)) {M : PM} (hH : hM M q P) {N : Nat → Nat} {more : Bool} (hA : ndA M N) (w : swp P B N0 N more 0 0) : ∃ M' N' more', f_X11_findNeeds_47 a1 k39 FU (bI more) (nI 0) M = k39 (bI more') M' ∧ hM M' q P ∧ ndA M' N' ∧ swp P B N0 N' more' 1000 0 := by
  refine hr_for (σ := PM × (Nat → Nat) × Bool) (fun f c x => f_X11_findNeeds_47 a1 k39 f (bI x.2.2) (nI c) x.1) 1000 (fun c x => hM x.1 q P ∧ ndA x.1 x.2.1 ∧ swp P B N0 x.2.1 x.2.2 c 0) (fun r => ∃ M' N' more', r = k39 (bI more') M' ∧ hM M' q P ∧ ndA M' N' ∧ swp P B N0 N' more' 1000 0) ?_ ?_ FU 0 (M, N, more) (Nat.zero_le _) (FU_ok (by omega)) ⟨hH, hA, w⟩
  · rintro f c ⟨M, N, more⟩ hc ⟨hH, hA, w⟩
    dsimp only at hH hA w
    right
    show ∃ s' : PM × (Nat → Nat) × Bool, f_X11_findNeeds_47 a1 k39 (f + 1) (bI more) (nI c) M = f_X11_findNeeds_47 a1 k39 f (bI s'.2.2) (nI (c + 1)) s'.1 ∧ _
    rw [f_X11_findNeeds_47.eq_2, q_lit 1000, gO 1000, if_neg (fun z => by have := (q_le (by omega) (by omega)).mp z; omega)]
    obtain ⟨M', N', more', e, g1, g2, g3⟩ := s_needs57 hN0 a1 k39 (fun x2 x3 M => f_X11_findNeeds_47 a1 k39 f x2 x3 M) hH hc hA w
    exact ⟨(M', N', more'), e, g1, g2, g3⟩
  · rintro f ⟨M, N, more⟩ ⟨hH, hA, w⟩
    dsimp only at hH hA w
    show ∃ M' N' more', f_X11_findNeeds_47 a1 k39 (f + 1) (bI more) (nI 1000) M = _ ∧ _
    rw [f_X11_findNeeds_47.eq_2, q_lit 1000, gO 1000, if_pos (Int32.le_refl _)]
    exact ⟨M, N, more, rfl, hH, hA, w⟩
/-- a level of needs -/
def lev (P : Pal) (B : Nat → Bool) (N : Nat → Nat) (j : Nat) : Prop := (∀ x, x < 1000 → nd P B (pH P) x ≤ N x ∧ N x ≤ 1000000) ∧ ∀ x, x < 1000 → nd P B (pH P) x < j → N x = nd P B (pH P) x
theorem lev_all {B : Nat → Bool} {N : Nat → Nat} {j : Nat} (hl : lev P B N j) (hj : 91 ≤ j) : ∀ x, x < 1000 → N x = nd P B (pH P) x := by
  intro x hx
  rcases nd_small (P := P) (B := B) (n := pH P) x with h | h
  · exact hl.2 x hx (by omega)
  · have := hl.1 x hx; omega
theorem s_needs39 {B : Nat → Bool} (a1 : Int32) : ∀ (fuel j : Nat) (M : PM) (N : Nat → Nat), hM M q P → ndA M N → lev P B N j → 1 ≤ j → 95 - j < fuel → j ≤ 92 → ∃ M', f_X11_findNeeds_39 a1 fuel (nI 1) M = some ((), M') ∧ hM M' q P ∧ ndA M' (nd P B (pH P)) := by
  intro fuel
  induction fuel with
  | zero => intro j M N _ _ _ _ h _; omega
  | succ fuel ih =>
    intro j M N hH hA hl h1 hf hj
    have hn := hH.1.1.2.1
    rw [f_X11_findNeeds_39.eq_2, if_neg (show ¬ nI 1 = 0 by decide)]
    obtain ⟨M', N', more', e, g1, g2, g3⟩ := s_needs47 (B := B) (N0 := N) (fun x hx => (hl.1 x hx).2) a1 (fun x2 M => f_X11_findNeeds_39 a1 fuel x2 M) hH (N := N) (more := false) hA ⟨⟨fun x hx => ⟨(hl.1 x hx).1, Nat.le_refl _⟩, fun _ _ _ => rfl⟩, ⟨fun x a hx => by omega, fun a ha => by omega⟩, fun _ => rfl⟩
    rw [show f_X11_findNeeds_47 a1 (fun x2 M => f_X11_findNeeds_39 a1 fuel x2 M) FU 0 0 M = f_X11_findNeeds_47 a1 (fun x2 M => f_X11_findNeeds_39 a1 fuel x2 M) FU (bI false) (nI 0) M from rfl, e]
    obtain ⟨⟨w1, w2⟩, ⟨w3, -⟩, w5⟩ := g3
    cases more' with
    | false =>
      obtain ⟨f, rfl⟩ : ∃ f, fuel = f + 1 := ⟨fuel - 1, by omega⟩
      show ∃ M'', f_X11_findNeeds_39 a1 (f + 1) (bI false) M' = _ ∧ _
      rw [f_X11_findNeeds_39.eq_2, if_pos (show bI false = 0 from rfl)]
      have eN := w2 rfl
      have fix : ∀ d x, x < 1000 → nd P B (pH P) x = d → d ≤ 90 → N x ≤ d := by
        intro d
        induction d with
        | zero =>
          intro x hx hd _
          rw [hl.2 x hx (by omega)]; omega
        | succ d ihd =>
          intro x hx hd hle
          obtain ⟨h, hh, h2⟩ := nd_ex (P := P) (B := B) hn hx (by omega) (by omega)
          have h3 := ihd (mxd P x h) (mxd_lt P x h) (by omega) (by omega)
          have h4 := w3 x h hx hh
          rw [eN x hx] at h4
          omega
      refine ⟨M', rfl, g1, fun x hx => ?_⟩
      rw [g2 x hx, eN x hx]
      congr 1
      have b := hl.1 x hx
      rcases nd_small (P := P) (B := B) (n := pH P) x with h | h
      · have := fix _ x hx rfl h; omega
      · omega
    | true =>
      have hj2 : j < 91 := by
        refine Classical.byContradiction (fun z => ?_)
        have := w5 (lev_all hl (by omega))
        cases this
      refine ih (j + 1) M' N' g1 g2 ⟨fun x hx => ⟨(w1 x hx).1, Nat.le_trans (w1 x hx).2 (hl.1 x hx).2⟩, fun x hx hd => ?_⟩ (by omega) (by omega) (by omega)
      have b := w1 x hx
      by_cases z : nd P B (pH P) x = 0
      · have := hl.2 x hx (by omega); omega
      · obtain ⟨h, hh, h2⟩ := nd_ex (P := P) (B := B) hn hx (by omega) (by omega)
        have h3 := hl.2 _ (mxd_lt P x h) (by omega)
        have h4 := w3 x h hx hh
        omega
theorem s_findNeeds {M : PM} (hH : hM M q P) (s : Int32) : ∃ M', f_X11_findNeeds s M = some ((), M') ∧ hM M' q P ∧ ndA M' (nd P (mixB P s) (pH P)) := by
  have hn := hH.1.1.2.1
  unfold f_X11_findNeeds
  refine hr_for (σ := PM) (fun f c N => f_X11_findNeeds_2 s f (nI c) N) 1000 (fun c N => hM N q P ∧ ∀ x, x < c → N.1 299 x = nI (if mixB P s x then 0 else 1000000)) (fun r => ∃ M', r = some ((), M') ∧ hM M' q P ∧ ndA M' (nd P (mixB P s) (pH P))) ?_ ?_ FU 0 M (Nat.zero_le _) (FU_ok (by omega)) ⟨hH, fun x hx => by omega⟩
  · rintro f c N hc ⟨hH, hA⟩
    right
    obtain ⟨v, M', e, g1, g2⟩ := s_isBorneA hH hc s
    have hH' := g2.hnd hH
    have hA' : ∀ v, v = nI (if mixB P s c then 0 else 1000000) → ∀ x, x < c + 1 → (hr_si M' 299 c v).1 299 x = nI (if mixB P s x then 0 else 1000000) := by
      intro v hv x hx
      rw [si_same]
      by_cases z : x = c
      · rw [if_pos z, z]; exact hv
      · rw [if_neg z, g2.1 299 (by omega)]; exact hA x (by omega)
    show ∃ s', f_X11_findNeeds_2 s (f + 1) (nI c) N = f_X11_findNeeds_2 s f (nI (c + 1)) s' ∧ _
    rw [f_X11_findNeeds_2.eq_2, q_lit 1000, gO 1000, if_neg (fun z => by have := (q_le (by omega) (by omega)).mp z; omega), e, q_bd_some, g1, if_pos (q_in (by omega) (by omega)), if_pos (q_in (by omega) (by omega)), q_cl (by omega), q_lit 1, gO 1, q_add]
    cases hb : mixB P s c with
    | false =>
      rw [if_pos (show bI false = 0 from rfl)]
      exact ⟨_, rfl, hH'.w299 _ _, hA' _ (by rw [hb]; rfl)⟩
    | true =>
      rw [if_neg (show ¬ bI true = 0 by decide)]
      exact ⟨_, rfl, hH'.w299 _ _, hA' _ (by rw [hb]; rfl)⟩
  · rintro f N ⟨hH, hA⟩
    show ∃ M', f_X11_findNeeds_2 s (f + 1) (nI 1000) N = _ ∧ _
    rw [f_X11_findNeeds_2.eq_2, q_lit 1000, gO 1000, if_pos (Int32.le_refl _)]
    refine s_needs39 s FU 1 N _ hH (fun x hx => hA x hx) ⟨fun x hx => ?_, fun x hx hd => ?_⟩ (Nat.le_refl _) (by unfold FU; omega) (by omega)
    · have hle := nd_le (P := P) (B := mixB P s) (n := pH P) x
      dsimp only
      cases hb : mixB P s x with
      | false => rw [if_neg (by simp)]; omega
      | true =>
        have := (nd_0 (P := P) hn hx).mpr hb
        rw [if_pos rfl]; omega
    · have h0 : nd P (mixB P s) (pH P) x = 0 := by omega
      dsimp only
      rw [(nd_0 hn hx).mp h0, if_pos rfl, h0]
end MOD
