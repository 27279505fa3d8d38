/-! IMAGES, by the model -/
/-- a row of images where b is now as a was -/
def cpI (M M' : PM) (a b c w : Nat) : Prop := ∀ m t, t < w → M'.1 c (w * m + t) = M.1 c (w * (if m = b then a else m) + t)
theorem mul_sep {w a b : Nat} (h : a ≠ b) : w * a + w ≤ w * b ∨ w * b + w ≤ w * a := by
  rcases Nat.lt_or_gt_of_ne h with z | z
  · left
    have : w * (a + 1) ≤ w * b := Nat.mul_le_mul_left w z
    rw [Nat.mul_succ] at this
    exact this
  · right
    have : w * (b + 1) ≤ w * a := Nat.mul_le_mul_left w z
    rw [Nat.mul_succ] at this
    exact this
theorem s_copyRow {M : PM} {c w a b : Nat} (hK : hr_K c = 12) (hc : c < hr_n) (hN : hr_N c = 4 * w) (hw : w ≤ 600) (ha : a < 4) (hb : b < 4) (hab : a ≠ b) : ∃ M', f_X11_copyRow c (nI w) (nI a) (nI b) M = some ((), M') ∧ rng c c M M' ∧ cpI M M' a b c w := by
  have sep := mul_sep (w := w) hab
  have fa : w * a + w ≤ 4 * w := by
    have : w * (a + 1) ≤ w * 4 := Nat.mul_le_mul_left w ha
    rw [Nat.mul_succ] at this
    omega
  have fb : w * b + w ≤ 4 * w := by
    have : w * (b + 1) ≤ w * 4 := Nat.mul_le_mul_left w hb
    rw [Nat.mul_succ] at this
    omega
  have key : ∃ M', f_X11_copyRow c (nI w) (nI a) (nI b) M = some ((), M') ∧ rng c c M M' ∧ ∀ j, M'.1 c j = if w * b ≤ j ∧ j < w * b + w then M.1 c (w * a + (j - w * b)) else M.1 c j := by
    unfold f_X11_copyRow
    rw [if_pos ⟨hK, hc⟩, show (0 : Int32) = nI 0 from rfl]
    refine hr_for (σ := PM) (fun f i N => f_X11_copyRow_3 c (nI w) (nI a) (nI b) f (nI i) N) w (fun i N => rng c c M N ∧ ∀ j, N.1 c j = if w * b ≤ j ∧ j < w * b + i then M.1 c (w * a + (j - w * b)) else M.1 c j) (fun r => ∃ M', r = some ((), M') ∧ rng c c M M' ∧ ∀ j, M'.1 c j = if w * b ≤ j ∧ j < w * b + w then M.1 c (w * a + (j - w * b)) else M.1 c j) ?_ ?_ FU 0 M (Nat.zero_le _) (FU_ok (by omega)) ⟨rng.rf _ _ _, fun j => by rw [if_neg (by omega)]⟩
    · rintro f i N hi ⟨i1, i2⟩
      right
      show ∃ s', f_X11_copyRow_3 c (nI w) (nI a) (nI b) (f + 1) (nI i) N = f_X11_copyRow_3 c (nI w) (nI a) (nI b) f (nI (i + 1)) s' ∧ _
      rw [f_X11_copyRow_3.eq_2, if_neg (fun y => by have := (q_le (by omega) (by omega)).mp y; omega), q_mul, q_add, q_mul, q_add, hN, if_pos (q_in (by omega) (by omega)), if_pos (q_in (by omega) (by omega)), q_cl (by omega), q_cl (by omega), q_lit 1, gO 1, q_add]
      refine ⟨_, rfl, i1.si (Nat.le_refl _) (Nat.le_refl _) _ _, fun j => ?_⟩
      rw [si_same]
      by_cases y : j = w * b + i
      · rw [if_pos y, if_pos (by omega), i2, if_neg (by omega), show j - w * b = i by omega]
      · rw [if_neg y, i2 j]
        by_cases v : w * b ≤ j ∧ j < w * b + i
        · rw [if_pos v, if_pos (by omega)]
        · rw [if_neg v, if_neg (by omega)]
    · rintro f N ⟨i1, i2⟩
      show ∃ M', f_X11_copyRow_3 c (nI w) (nI a) (nI b) (f + 1) (nI w) N = _ ∧ _
      rw [f_X11_copyRow_3.eq_2, if_pos (Int32.le_refl _)]
      exact ⟨N, rfl, i1, i2⟩
  obtain ⟨M', g1, g2, g3⟩ := key
  refine ⟨M', g1, g2, fun m t ht => ?_⟩
  rw [g3]
  by_cases z : m = b
  · subst z
    rw [if_pos (show w * m ≤ w * m + t ∧ w * m + t < w * m + w by omega), if_pos rfl, show w * m + t - w * m = t by omega]
  · have := mul_sep (w := w) z
    rw [if_neg (show ¬ (w * b ≤ w * m + t ∧ w * m + t < w * b + w) by omega), if_neg z]
theorem im_cells : (hr_K 277 = 12 ∧ 277 < hr_n ∧ hr_N 277 = 4 * 1) ∧ (hr_K 278 = 12 ∧ 278 < hr_n ∧ hr_N 278 = 4 * 1) ∧ (hr_K 279 = 12 ∧ 279 < hr_n ∧ hr_N 279 = 4 * 1) ∧ (hr_K 280 = 12 ∧ 280 < hr_n ∧ hr_N 280 = 4 * 5) ∧ (hr_K 281 = 12 ∧ 281 < hr_n ∧ hr_N 281 = 4 * 140) ∧ (hr_K 282 = 12 ∧ 282 < hr_n ∧ hr_N 282 = 4 * 40) ∧ (hr_K 283 = 12 ∧ 283 < hr_n ∧ hr_N 283 = 4 * 242) ∧ (hr_K 284 = 12 ∧ 284 < hr_n ∧ hr_N 284 = 4 * 74) ∧ hr_K 285 = 12 ∧ 285 < hr_n ∧ hr_N 285 = 4 * 18 := by decide +kernel
/-- all rows of images -/
def cpA (M M' : PM) (a b : Nat) : Prop := (cpI M M' a b 277 1 ∧ cpI M M' a b 278 1 ∧ cpI M M' a b 279 1) ∧ (cpI M M' a b 280 5 ∧ cpI M M' a b 281 140 ∧ cpI M M' a b 282 40) ∧ cpI M M' a b 283 242 ∧ cpI M M' a b 284 74 ∧ cpI M M' a b 285 18
theorem cpI.eq {M M' N N' : PM} {a b c w : Nat} (h : cpI M M' a b c w) (h1 : N.1 c = M.1 c) (h2 : N'.1 c = M'.1 c) : cpI N N' a b c w := fun m t ht => by rw [h1, h2]; exact h m t ht
theorem s_copyRows {M : PM} {a b : Nat} (ha : a < 4) (hb : b < 4) (hab : a ≠ b) : ∃ M', (hr_bd (f_X11_copyRow 277 1 (nI a) (nI b) M) (fun _ M3 =>
      hr_bd (f_X11_copyRow 278 1 (nI a) (nI b) M3) (fun _ M5 =>
      hr_bd (f_X11_copyRow 279 1 (nI a) (nI b) M5) (fun _ M7 =>
      hr_bd (f_X11_copyRow 280 5 (nI a) (nI b) M7) (fun _ M9 =>
      hr_bd (f_X11_copyRow 281 140 (nI a) (nI b) M9) (fun _ M11 =>
      hr_bd (f_X11_copyRow 282 40 (nI a) (nI b) M11) (fun _ M13 =>
      hr_bd (f_X11_copyRow 283 242 (nI a) (nI b) M13) (fun _ M15 =>
      hr_bd (f_X11_copyRow 284 74 (nI a) (nI b) M15) (fun _ M17 =>
      hr_bd (f_X11_copyRow 285 18 (nI a) (nI b) M17) (fun _ M19 =>
      (some ((), M19) : Option (Unit × PM)))))))))))) = some ((), M') ∧ rng 277 285 M M' ∧ cpA M M' a b := by
  obtain ⟨⟨k1, k2, k3⟩, ⟨l1, l2, l3⟩, ⟨m1, m2, m3⟩, ⟨n1, n2, n3⟩, ⟨o1, o2, o3⟩, ⟨p1, p2, p3⟩, ⟨q1, q2, q3⟩, ⟨r1, r2, r3⟩, s1, s2, s3⟩ := im_cells
  obtain ⟨M1, a1, a2, a3⟩ := s_copyRow (M := M) k1 k2 k3 (by omega) ha hb hab
  obtain ⟨M2, b1, b2, b3⟩ := s_copyRow (M := M1) l1 l2 l3 (by omega) ha hb hab
  obtain ⟨M3, c1, c2, c3⟩ := s_copyRow (M := M2) m1 m2 m3 (by omega) ha hb hab
  obtain ⟨M4, d1, d2, d3⟩ := s_copyRow (M := M3) n1 n2 n3 (by omega) ha hb hab
  obtain ⟨M5, e1, e2, e3⟩ := s_copyRow (M := M4) o1 o2 o3 (by omega) ha hb hab
  obtain ⟨M6, f1, f2, f3⟩ := s_copyRow (M := M5) p1 p2 p3 (by omega) ha hb hab
  obtain ⟨M7, g1, g2, g3⟩ := s_copyRow (M := M6) q1 q2 q3 (by omega) ha hb hab
  obtain ⟨M8, h1, h2, h3⟩ := s_copyRow (M := M7) r1 r2 r3 (by omega) ha hb hab
  obtain ⟨M9, i1, i2, i3⟩ := s_copyRow (M := M8) s1 s2 s3 (by omega) ha hb hab
  refine ⟨M9, ?_, ?_, ⟨?_, ?_, ?_⟩, ⟨?_, ?_, ?_⟩, ?_, ?_, ?_⟩
  · rw [show f_X11_copyRow 277 1 (nI a) (nI b) M = some ((), M1) from a1, q_bd_some, show f_X11_copyRow 278 1 (nI a) (nI b) M1 = some ((), M2) from b1, q_bd_some, show f_X11_copyRow 279 1 (nI a) (nI b) M2 = some ((), M3) from c1, q_bd_some, show f_X11_copyRow 280 5 (nI a) (nI b) M3 = some ((), M4) from d1, q_bd_some, show f_X11_copyRow 281 140 (nI a) (nI b) M4 = some ((), M5) from e1, q_bd_some, show f_X11_copyRow 282 40 (nI a) (nI b) M5 = some ((), M6) from f1, q_bd_some, show f_X11_copyRow 283 242 (nI a) (nI b) M6 = some ((), M7) from g1, q_bd_some, show f_X11_copyRow 284 74 (nI a) (nI b) M7 = some ((), M8) from h1, q_bd_some, show f_X11_copyRow 285 18 (nI a) (nI b) M8 = some ((), M9) from i1, q_bd_some]
  · exact ((((((((a2.up (by omega) (by omega)).tr (b2.up (by omega) (by omega))).tr (c2.up (by omega) (by omega))).tr (d2.up (by omega) (by omega))).tr (e2.up (by omega) (by omega))).tr (f2.up (by omega) (by omega))).tr (g2.up (by omega) (by omega))).tr (h2.up (by omega) (by omega))).tr (i2.up (by omega) (by omega))
  · exact a3.eq rfl (by rw [i2.1 _ (by omega), h2.1 _ (by omega), g2.1 _ (by omega), f2.1 _ (by omega), e2.1 _ (by omega), d2.1 _ (by omega), c2.1 _ (by omega), b2.1 _ (by omega)])
  · exact b3.eq (by rw [a2.1 _ (by omega)]) (by rw [i2.1 _ (by omega), h2.1 _ (by omega), g2.1 _ (by omega), f2.1 _ (by omega), e2.1 _ (by omega), d2.1 _ (by omega), c2.1 _ (by omega)])
  · exact c3.eq (by rw [b2.1 _ (by omega), a2.1 _ (by omega)]) (by rw [i2.1 _ (by omega), h2.1 _ (by omega), g2.1 _ (by omega), f2.1 _ (by omega), e2.1 _ (by omega), d2.1 _ (by omega)])
  · exact d3.eq (by rw [c2.1 _ (by omega), b2.1 _ (by omega), a2.1 _ (by omega)]) (by rw [i2.1 _ (by omega), h2.1 _ (by omega), g2.1 _ (by omega), f2.1 _ (by omega), e2.1 _ (by omega)])
  · exact e3.eq (by rw [d2.1 _ (by omega), c2.1 _ (by omega), b2.1 _ (by omega), a2.1 _ (by omega)]) (by rw [i2.1 _ (by omega), h2.1 _ (by omega), g2.1 _ (by omega), f2.1 _ (by omega)])
  · exact f3.eq (by rw [e2.1 _ (by omega), d2.1 _ (by omega), c2.1 _ (by omega), b2.1 _ (by omega), a2.1 _ (by omega)]) (by rw [i2.1 _ (by omega), h2.1 _ (by omega), g2.1 _ (by omega)])
  · exact g3.eq (by rw [f2.1 _ (by omega), e2.1 _ (by omega), d2.1 _ (by omega), c2.1 _ (by omega), b2.1 _ (by omega), a2.1 _ (by omega)]) (by rw [i2.1 _ (by omega), h2.1 _ (by omega)])
  · exact h3.eq (by rw [g2.1 _ (by omega), f2.1 _ (by omega), e2.1 _ (by omega), d2.1 _ (by omega), c2.1 _ (by omega), b2.1 _ (by omega), a2.1 _ (by omega)]) (by rw [i2.1 _ (by omega)])
  · exact i3.eq (by rw [h2.1 _ (by omega), g2.1 _ (by omega), f2.1 _ (by omega), e2.1 _ (by omega), d2.1 _ (by omega), c2.1 _ (by omega), b2.1 _ (by omega), a2.1 _ (by omega)]) rfl
/-- what is told is so in the image b now, if it was so in a -/
theorem mT_cp {M M' : PM} {a b m : Nat} {T : Tol} (h : cpA M M' a b) (hb : ∀ i, i < 600 → M'.1 276 (600 * m + i) = tT T i) (ok : tOK T) (hT : mT M (if m = b then a else m) T) : mT M' m T := by
  obtain ⟨⟨h1, h2, h3⟩, ⟨h4, h5, h6⟩, h7, h8, h9⟩ := h
  generalize hd : (if m = b then a else m) = d at hT
  have e1 : ∀ t, t < 1 → M'.1 277 (1 * m + t) = M.1 277 (1 * d + t) := fun t ht => by rw [← hd]; exact h1 m t ht
  have e2 : ∀ t, t < 1 → M'.1 278 (1 * m + t) = M.1 278 (1 * d + t) := fun t ht => by rw [← hd]; exact h2 m t ht
  have e3 : ∀ t, t < 1 → M'.1 279 (1 * m + t) = M.1 279 (1 * d + t) := fun t ht => by rw [← hd]; exact h3 m t ht
  have e4 : ∀ t, t < 5 → M'.1 280 (5 * m + t) = M.1 280 (5 * d + t) := fun t ht => by rw [← hd]; exact h4 m t ht
  have e5 : ∀ t, t < 140 → M'.1 281 (140 * m + t) = M.1 281 (140 * d + t) := fun t ht => by rw [← hd]; exact h5 m t ht
  have e6 : ∀ t, t < 40 → M'.1 282 (40 * m + t) = M.1 282 (40 * d + t) := fun t ht => by rw [← hd]; exact h6 m t ht
  have e7 : ∀ t, t < 242 → M'.1 283 (242 * m + t) = M.1 283 (242 * d + t) := fun t ht => by rw [← hd]; exact h7 m t ht
  have e8 : ∀ t, t < 74 → M'.1 284 (74 * m + t) = M.1 284 (74 * d + t) := fun t ht => by rw [← hd]; exact h8 m t ht
  have e9 : ∀ t, t < 18 → M'.1 285 (18 * m + t) = M.1 285 (18 * d + t) := fun t ht => by rw [← hd]; exact h9 m t ht
  obtain ⟨⟨a1, a2, a3⟩, a4, a5, a6, a7, a8, a9, a10⟩ := hT
  have one : ∀ n : Nat, 1 * n + 0 = n := fun n => by omega
  refine ⟨⟨?_, ?_, ?_⟩, hb, fun s hs => (e4 s hs).trans (a5 s hs), fun k hk => ?_, fun k hk => ?_, fun k hk => ?_, fun k hk => ?_, fun k hk => ?_⟩
  · have := e1 0 (by omega); rw [one, one] at this; exact this.trans a1
  · have := e2 0 (by omega); rw [one, one] at this; exact this.trans a2
  · have := e3 0 (by omega); rw [one, one] at this; exact this.trans a3
  · obtain ⟨⟨c1, c2⟩, c3, c4, c5⟩ := a6 k hk
    obtain ⟨o1, o2, -⟩ := ok.2.2.2.1 k hk
    refine ⟨⟨(e5 (70 * k) (by omega)).trans c1, ?_⟩, fun i hi => ?_, fun i hi => ?_, fun i hi => ?_⟩
    · have := e5 (70 * k + 1) (by omega); rw [← Nat.add_assoc, ← Nat.add_assoc] at this; exact this.trans c2
    · have := e5 (70 * k + 2 + i) (by omega); rw [← Nat.add_assoc, ← Nat.add_assoc, ← Nat.add_assoc, ← Nat.add_assoc] at this; exact this.trans (c3 i hi)
    · have := e5 (70 * k + 32 + i) (by omega); rw [← Nat.add_assoc, ← Nat.add_assoc, ← Nat.add_assoc, ← Nat.add_assoc] at this; exact this.trans (c4 i hi)
    · have := e5 (70 * k + 50 + i) (by omega); rw [← Nat.add_assoc, ← Nat.add_assoc, ← Nat.add_assoc, ← Nat.add_assoc] at this; exact this.trans (c5 i hi)
  · obtain ⟨⟨c1, c2⟩, c3⟩ := a7 k hk
    have k2 : k < 2 := Nat.lt_of_lt_of_le hk (ok.2.2.1 1 (by omega))
    have oR : oOK 1 (tR T 1 k) := ok.2.2.2.2 1 k (by omega) (by omega) hk
    have o9 : oN (tR T 1 k) ≤ 9 := oR.1
    refine ⟨⟨(e6 (20 * k) (by omega)).trans c1, ?_⟩, fun i hi => ⟨?_, ?_⟩⟩
    · have := e6 (20 * k + 1) (by omega); rw [← Nat.add_assoc, ← Nat.add_assoc] at this; exact this.trans c2
    · have := e6 (20 * k + 2 + 2 * i) (by omega); rw [← Nat.add_assoc, ← Nat.add_assoc, ← Nat.add_assoc, ← Nat.add_assoc] at this; exact this.trans (c3 i hi).1
    · have := e6 (20 * k + 3 + 2 * i) (by omega); rw [← Nat.add_assoc, ← Nat.add_assoc, ← Nat.add_assoc, ← Nat.add_assoc] at this; exact this.trans (c3 i hi).2
  · obtain ⟨c1, c3⟩ := a8 k hk
    have k2 : k < 2 := Nat.lt_of_lt_of_le hk (ok.2.2.1 2 (by omega))
    have oR : oOK 2 (tR T 2 k) := ok.2.2.2.2 2 k (by omega) (by omega) hk
    have o9 : oN (tR T 2 k) ≤ 40 := oR.1
    refine ⟨(e7 (121 * k) (by omega)).trans c1, fun i hi => ?_⟩
    have w : ∀ t, t < 3 → M'.1 283 (242 * m + 121 * k + 1 + 3 * i + t) = M.1 283 (242 * d + 121 * k + 1 + 3 * i + t) := fun t ht => by
      have := e7 (121 * k + 1 + 3 * i + t) (by omega)
      rw [show 242 * m + (121 * k + 1 + 3 * i + t) = 242 * m + 121 * k + 1 + 3 * i + t by omega, show 242 * d + (121 * k + 1 + 3 * i + t) = 242 * d + 121 * k + 1 + 3 * i + t by omega] at this
      exact this
    exact ⟨(w 0 (by omega)).trans (c3 i hi).1, (w 1 (by omega)).trans (c3 i hi).2.1, (w 2 (by omega)).trans (c3 i hi).2.2⟩
  · obtain ⟨c1, c3⟩ := a9 k hk
    have k2 : k < 2 := Nat.lt_of_lt_of_le hk (ok.2.2.1 3 (by omega))
    have oR : oOK 3 (tR T 3 k) := ok.2.2.2.2 3 k (by omega) (by omega) hk
    have o9 : oN (tR T 3 k) ≤ 12 := oR.1
    refine ⟨(e8 (37 * k) (by omega)).trans c1, fun i hi => ?_⟩
    have w : ∀ t, t < 3 → M'.1 284 (74 * m + 37 * k + 1 + 3 * i + t) = M.1 284 (74 * d + 37 * k + 1 + 3 * i + t) := fun t ht => by
      have := e8 (37 * k + 1 + 3 * i + t) (by omega)
      rw [show 74 * m + (37 * k + 1 + 3 * i + t) = 74 * m + 37 * k + 1 + 3 * i + t by omega, show 74 * d + (37 * k + 1 + 3 * i + t) = 74 * d + 37 * k + 1 + 3 * i + t by omega] at this
      exact this
    exact ⟨(w 0 (by omega)).trans (c3 i hi).1, (w 1 (by omega)).trans (c3 i hi).2.1, (w 2 (by omega)).trans (c3 i hi).2.2⟩
  · obtain ⟨c1, c3⟩ := a10 k hk
    have k2 : k < 2 := Nat.lt_of_lt_of_le hk (ok.2.2.1 4 (by omega))
    have oR : oOK 4 (tR T 4 k) := ok.2.2.2.2 4 k (by omega) (by omega) hk
    have o9 : oN (tR T 4 k) ≤ 8 := oR.1
    refine ⟨(e9 (9 * k) (by omega)).trans c1, fun i hi => ?_⟩
    have := e9 (9 * k + 1 + i) (by omega)
    rw [show 18 * m + (9 * k + 1 + i) = 18 * m + 9 * k + 1 + i by omega, show 18 * d + (9 * k + 1 + i) = 18 * d + 9 * k + 1 + i by omega] at this
    exact this.trans (c3 i hi)
