/-! TEXT, by the model: what is read is stored -/
theorem s_store {M : PM} {c w k n : Nat} (hK : hr_K c = 12) (hc : c < hr_n) (hN : hr_N c = n) (hw : w ≤ 121) (hfit : w * k + w ≤ n) (hn : n ≤ 4000) (h86 : c ≠ 286) : ∃ M', f_X11_store c (nI w) (nI k) M = some ((), M') ∧ rng c c M M' ∧ ∀ j, M'.1 c j = if w * k ≤ j ∧ j < w * k + w then M.1 286 (j - w * k) else M.1 c j := by
  unfold f_X11_store
  rw [if_pos ⟨hK, hc⟩, show (0 : Int32) = nI 0 from rfl]
  refine hr_for (σ := PM) (fun f i N => f_X11_store_3 c (nI w) (nI k) f (nI i) N) w (fun i N => rng c c M N ∧ ∀ j, N.1 c j = if w * k ≤ j ∧ j < w * k + i then M.1 286 (j - w * k) else M.1 c j) (fun r => ∃ M', r = some ((), M') ∧ rng c c M M' ∧ ∀ j, M'.1 c j = if w * k ≤ j ∧ j < w * k + w then M.1 286 (j - w * k) else M.1 c j) ?_ ?_ FU 0 M (Nat.zero_le _) (FU_ok (by omega)) ⟨rng.rf _ _ _, fun j => by rw [if_neg (by omega)]⟩
  · rintro f i N hi ⟨i1, i2⟩
    right
    show ∃ s', f_X11_store_3 c (nI w) (nI k) (f + 1) (nI i) N = f_X11_store_3 c (nI w) (nI k) f (nI (i + 1)) s' ∧ _
    rw [f_X11_store_3.eq_2, if_neg (fun y => by have := (q_le (by omega) (by omega)).mp y; omega), if_pos (q_in (by omega) (by omega)), q_mul, q_add, hN, if_pos (q_in (by omega) (by omega)), q_cl (by omega), q_cl (by omega), q_lit 1, gO 1, q_add]
    refine ⟨_, rfl, i1.si (Nat.le_refl _) (Nat.le_refl _) _ _, fun j => ?_⟩
    rw [si_same, i1.1 286 (by omega)]
    by_cases y : j = w * k + i
    · rw [if_pos y, if_pos (by omega), show j - w * k = i by omega]
    · rw [if_neg y, i2 j]
      by_cases v : w * k ≤ j ∧ j < w * k + i
      · rw [if_pos v, if_pos (by omega)]
      · rw [if_neg v, if_neg (by omega)]
  · rintro f N ⟨i1, i2⟩
    show ∃ M', f_X11_store_3 c (nI w) (nI k) (f + 1) (nI w) N = _ ∧ _
    rw [f_X11_store_3.eq_2, if_pos (Int32.le_refl _)]
    exact ⟨N, rfl, i1, i2⟩
theorem st_cells : (hr_K 281 = 12 ∧ 281 < hr_n ∧ 140 ≤ hr_N 281 ∧ hr_N 281 ≤ 4000) ∧ (hr_K 282 = 12 ∧ 282 < hr_n ∧ 40 ≤ hr_N 282 ∧ hr_N 282 ≤ 4000) ∧ (hr_K 283 = 12 ∧ 283 < hr_n ∧ 242 ≤ hr_N 283 ∧ hr_N 283 ≤ 4000) ∧ (hr_K 284 = 12 ∧ 284 < hr_n ∧ 74 ≤ hr_N 284 ∧ hr_N 284 ≤ 4000) ∧ hr_K 285 = 12 ∧ 285 < hr_n ∧ 18 ≤ hr_N 285 ∧ hr_N 285 ≤ 4000 := by decide +kernel
/-- other images are as they were -/
theorem mT.oth2 {M M' : PM} {m : Nat} {T : Tol} (h : mT M m T) (hm : 1 ≤ m) (h6 : ∀ i, 600 ≤ i → M'.1 276 i = M.1 276 i) (h7 : ∀ i, 1 ≤ i → M'.1 277 i = M.1 277 i ∧ M'.1 278 i = M.1 278 i ∧ M'.1 279 i = M.1 279 i) (h8 : ∀ i, 5 ≤ i → M'.1 280 i = M.1 280 i) (h1 : ∀ i, 140 ≤ i → M'.1 281 i = M.1 281 i) (h2 : ∀ i, 40 ≤ i → M'.1 282 i = M.1 282 i) (h3 : ∀ i, 242 ≤ i → M'.1 283 i = M.1 283 i) (h4 : ∀ i, 74 ≤ i → M'.1 284 i = M.1 284 i) (h5 : ∀ i, 18 ≤ i → M'.1 285 i = M.1 285 i) : mT M' m T := by
  obtain ⟨⟨a1, a2, a3⟩, a4, a5, a6, a7, a8, a9, a10⟩ := h
  obtain ⟨b1, b2, b3⟩ := h7 m hm
  refine ⟨⟨b1.trans a1, b2.trans a2, b3.trans a3⟩, fun i hi => (h6 _ (by omega)).trans (a4 i hi), fun s hs => (h8 _ (by omega)).trans (a5 s hs), fun k hk => ?_, fun k hk => ?_, fun k hk => ?_, fun k hk => ?_, fun k hk => ?_⟩
  · obtain ⟨⟨c1, c2⟩, c3, c4, c5⟩ := a6 k hk
    exact ⟨⟨(h1 _ (by omega)).trans c1, (h1 _ (by omega)).trans c2⟩, fun i hi => (h1 _ (by omega)).trans (c3 i hi), fun i hi => (h1 _ (by omega)).trans (c4 i hi), fun i hi => (h1 _ (by omega)).trans (c5 i hi)⟩
  · obtain ⟨⟨c1, c2⟩, c3⟩ := a7 k hk
    exact ⟨⟨(h2 _ (by omega)).trans c1, (h2 _ (by omega)).trans c2⟩, fun i hi => ⟨(h2 _ (by omega)).trans (c3 i hi).1, (h2 _ (by omega)).trans (c3 i hi).2⟩⟩
  · obtain ⟨c1, c3⟩ := a8 k hk
    exact ⟨(h3 _ (by omega)).trans c1, fun i hi => ⟨(h3 _ (by omega)).trans (c3 i hi).1, (h3 _ (by omega)).trans (c3 i hi).2.1, (h3 _ (by omega)).trans (c3 i hi).2.2⟩⟩
  · obtain ⟨c1, c3⟩ := a9 k hk
    exact ⟨(h4 _ (by omega)).trans c1, fun i hi => ⟨(h4 _ (by omega)).trans (c3 i hi).1, (h4 _ (by omega)).trans (c3 i hi).2.1, (h4 _ (by omega)).trans (c3 i hi).2.2⟩⟩
  · obtain ⟨c1, c3⟩ := a10 k hk
    exact ⟨(h5 _ (by omega)).trans c1, fun i hi => (h5 _ (by omega)).trans (c3 i hi)⟩
theorem kp_z {T : Tol} {s k s' : Nat} {X : Txt} (h : s' ≠ s) : tz (kpT T s k X) s' = tz T s' := if_neg (fun w => h w.1)
theorem kp_R {T : Tol} {s k s' k' : Nat} {X : Txt} (h : s' ≠ s) : tR (kpT T s k X) s' k' = tR T s' k' := if_neg (fun w => h w.1)
theorem kp_R2 {T : Tol} {s k k' : Nat} {X : Txt} (h : k' ≠ k) : tR (kpT T s k X) s k' = tR T s k' := if_neg (fun w => h w.2)
theorem kp_Rn {T : Tol} {s k : Nat} {X : Txt} : tR (kpT T s k X) s k = xR X := if_pos ⟨rfl, rfl⟩
theorem kp_P {T : Tol} {s k k' : Nat} {X : Txt} (h : s ≠ 0 ∨ k' ≠ k) : tP (kpT T s k X) k' = tP T k' := if_neg (fun w => by omega)
theorem kp_Pn {T : Tol} {k : Nat} {X : Txt} : tP (kpT T 0 k X) k = xP X := if_pos ⟨rfl, rfl⟩
theorem kp_l {T : Tol} {s k k' : Nat} {X : Txt} (h : k' < tz (kpT T s k X) s) (hn : k' ≠ k) : k' < tz T s := by
  have e : tz (kpT T s k X) s = if s = s ∧ k = tz T s then k + 1 else tz T s := rfl
  rw [e] at h
  by_cases z : s = s ∧ k = tz T s
  · rw [if_pos z] at h; omega
  · rw [if_neg z] at h; exact h
section MST
variable {N N0 : PM} {T : Tol} {k : Nat} {X : Txt}
/-- what storing leaves of the images -/
def imgK (N M' : PM) : Prop := (∀ c, (c < 281 ∨ 285 < c) → M'.1 c = N.1 c) ∧ M'.2 = N.2 ∧ (∀ i, 140 ≤ i → M'.1 281 i = N.1 281 i) ∧ (∀ i, 40 ≤ i → M'.1 282 i = N.1 282 i) ∧ (∀ i, 242 ≤ i → M'.1 283 i = N.1 283 i) ∧ (∀ i, 74 ≤ i → M'.1 284 i = N.1 284 i) ∧ ∀ i, 18 ≤ i → M'.1 285 i = N.1 285 i
theorem imgK_of {c w : Nat} {M' : PM} (hc : c = 281 ∧ w = 70 ∨ c = 282 ∧ w = 20 ∨ c = 283 ∧ w = 121 ∨ c = 284 ∧ w = 37 ∨ c = 285 ∧ w = 9) (hk : k < 2) (hr : rng c c N M') (hg : ∀ j, M'.1 c j = if w * k ≤ j ∧ j < w * k + w then N.1 286 (j - w * k) else N.1 c j) : imgK N M' := by
  have oth : ∀ d, d ≠ c → ∀ i, M'.1 d i = N.1 d i := fun d hd i => by rw [hr.1 d (by omega)]
  have k01 : k = 0 ∨ k = 1 := by omega
  have own : ∀ i, 2 * w ≤ i → M'.1 c i = N.1 c i := fun i hi => by
    rw [hg, if_neg]
    rcases k01 with rfl | rfl
    · omega
    · omega
  refine ⟨fun d hd => hr.1 d (by omega), hr.2, fun i hi => ?_, fun i hi => ?_, fun i hi => ?_, fun i hi => ?_, fun i hi => ?_⟩
  all_goals
    rcases hc with ⟨rfl, rfl⟩ | ⟨rfl, rfl⟩ | ⟨rfl, rfl⟩ | ⟨rfl, rfl⟩ | ⟨rfl, rfl⟩ <;> first | exact oth _ (by omega) i | exact own i (by omega)
theorem m_storeT {s : Nat} (hT : mT N0 0 T) (hrow : ∀ c, c ≠ 280 → N.1 c = N0.1 c) (ok : tOK T) (okX : xOK s X) (hs : s < 5) (hk : k < 2) (hX : mX s N X) (h0 : xF X = 0) (hz : ∀ s', s' < 5 → N.1 280 s' = nI (tz (kpT T s k X) s')) : ∃ M', f_X11_storeAll (nI s) (nI k) N = some ((), M') ∧ mT M' 0 (kpT T s k X) ∧ imgK N M' := by
  obtain ⟨c1, c2, c3, c4, c5⟩ := st_cells
  obtain ⟨a1, a4, a5, a6, a7, a8, a9, a10⟩ := hT
  have ss : s = 0 ∨ s = 1 ∨ s = 2 ∨ s = 3 ∨ s = 4 := by omega
  -- the rows that are not this sort's
  have P : ∀ {M' : PM}, s ≠ 0 → M'.1 281 = N.1 281 → ∀ k', k' < 2 → (M'.1 281 (140 * 0 + 70 * k') = nI (pH (tP (kpT T s k X) k')) ∧ M'.1 281 (140 * 0 + 70 * k' + 1) = nI (pR (tP (kpT T s k X) k'))) ∧ (∀ i, i < 3 * pH (tP (kpT T s k X) k') → M'.1 281 (140 * 0 + 70 * k' + 2 + i) = nI (pP (tP (kpT T s k X) k') i)) ∧ (∀ i, i < 3 * pR (tP (kpT T s k X) k') → M'.1 281 (140 * 0 + 70 * k' + 32 + i) = zI (pU (tP (kpT T s k X) k') i)) ∧ ∀ i, i < 20 → M'.1 281 (140 * 0 + 70 * k' + 50 + i) = nI (pL (tP (kpT T s k X) k') i) := by
    intro M' h1 h2 k' hk'
    rw [kp_P (Or.inl h1), h2, hrow 281 (by omega)]
    exact a6 k' hk'
  have R1 : ∀ {M' : PM}, 1 ≠ s → M'.1 282 = N.1 282 → ∀ k', k' < tz (kpT T s k X) 1 → (M'.1 282 (40 * 0 + 20 * k') = nI (oN (tR (kpT T s k X) 1 k')) ∧ M'.1 282 (40 * 0 + 20 * k' + 1) = nI (oL (tR (kpT T s k X) 1 k'))) ∧ ∀ i, i < oN (tR (kpT T s k X) 1 k') → M'.1 282 (40 * 0 + 20 * k' + 2 + 2 * i) = zI (oA (tR (kpT T s k X) 1 k') i) ∧ M'.1 282 (40 * 0 + 20 * k' + 3 + 2 * i) = zI (oB (tR (kpT T s k X) 1 k') i) := by
    intro M' h1 h2 k' hk'
    rw [kp_z h1] at hk'
    rw [kp_R h1, h2, hrow 282 (by omega)]
    exact a7 k' hk'
  have R2 : ∀ {M' : PM}, 2 ≠ s → M'.1 283 = N.1 283 → ∀ k', k' < tz (kpT T s k X) 2 → M'.1 283 (242 * 0 + 121 * k') = nI (oN (tR (kpT T s k X) 2 k')) ∧ ∀ i, i < oN (tR (kpT T s k X) 2 k') → M'.1 283 (242 * 0 + 121 * k' + 1 + 3 * i) = zI (oC (tR (kpT T s k X) 2 k') i) ∧ M'.1 283 (242 * 0 + 121 * k' + 1 + 3 * i + 1) = zI (oA (tR (kpT T s k X) 2 k') i) ∧ M'.1 283 (242 * 0 + 121 * k' + 1 + 3 * i + 2) = zI (oB (tR (kpT T s k X) 2 k') i) := by
    intro M' h1 h2 k' hk'
    rw [kp_z h1] at hk'
    rw [kp_R h1, h2, hrow 283 (by omega)]
    exact a8 k' hk'
  have R3 : ∀ {M' : PM}, 3 ≠ s → M'.1 284 = N.1 284 → ∀ k', k' < tz (kpT T s k X) 3 → M'.1 284 (74 * 0 + 37 * k') = nI (oN (tR (kpT T s k X) 3 k')) ∧ ∀ i, i < oN (tR (kpT T s k X) 3 k') → M'.1 284 (74 * 0 + 37 * k' + 1 + 3 * i) = zI (oC (tR (kpT T s k X) 3 k') i) ∧ M'.1 284 (74 * 0 + 37 * k' + 1 + 3 * i + 1) = zI (oA (tR (kpT T s k X) 3 k') i) ∧ M'.1 284 (74 * 0 + 37 * k' + 1 + 3 * i + 2) = zI (oB (tR (kpT T s k X) 3 k') i) := by
    intro M' h1 h2 k' hk'
    rw [kp_z h1] at hk'
    rw [kp_R h1, h2, hrow 284 (by omega)]
    exact a9 k' hk'
  have R4 : ∀ {M' : PM}, 4 ≠ s → M'.1 285 = N.1 285 → ∀ k', k' < tz (kpT T s k X) 4 → M'.1 285 (18 * 0 + 9 * k') = nI (oN (tR (kpT T s k X) 4 k')) ∧ ∀ i, i < oN (tR (kpT T s k X) 4 k') → M'.1 285 (18 * 0 + 9 * k' + 1 + i) = zI (oA (tR (kpT T s k X) 4 k') i) := by
    intro M' h1 h2 k' hk'
    rw [kp_z h1] at hk'
    rw [kp_R h1, h2, hrow 285 (by omega)]
    exact a10 k' hk'
  have hd : ∀ {M' : PM} {c : Nat}, 281 ≤ c → rng c c N M' → (M'.1 277 0 = nI (tN (kpT T s k X)) ∧ M'.1 278 0 = nI (tF (kpT T s k X)) ∧ M'.1 279 0 = zI (tQ (kpT T s k X))) ∧ (∀ i, i < 600 → M'.1 276 (600 * 0 + i) = tT (kpT T s k X) i) ∧ ∀ s', s' < 5 → M'.1 280 (5 * 0 + s') = nI (tz (kpT T s k X) s') := by
    intro M' c hc hr
    refine ⟨?_, fun i hi => ?_, fun s' hs' => ?_⟩
    · rw [hr.1 277 (by omega), hr.1 278 (by omega), hr.1 279 (by omega), hrow 277 (by omega), hrow 278 (by omega), hrow 279 (by omega)]; exact a1
    · rw [hr.1 276 (by omega), hrow 276 (by omega)]; exact a4 i hi
    · rw [hr.1 280 (by omega), Nat.mul_zero, Nat.zero_add]; exact hz s' hs'
  have zk : ∀ s', s' < 5 → tz (kpT T s k X) s' ≤ 2 := (kpT_ok ok hs hk okX).2.2.1
  unfold f_X11_storeAll
  rcases ss with rfl | rfl | rfl | rfl | rfl
  · obtain ⟨d1, d2, d3, d4⟩ := c1
    obtain ⟨M', g1, g2, g3⟩ := s_store (M := N) (c := 281) (w := 70) (k := k) d1 d2 rfl (by omega) (by omega) d4 (by omega)
    obtain ⟨q1, q2, q3⟩ := hd (by omega) g2
    rw [if_pos (show nI 0 = 0 from rfl), show (70 : Int32) = nI 70 from rfl, g1, q_bd_some]
    refine ⟨M', rfl, ⟨q1, q2, q3, fun k' hk' => ?_, R1 (by omega) (g2.1 282 (by omega)), R2 (by omega) (g2.1 283 (by omega)), R3 (by omega) (g2.1 284 (by omega)), R4 (by omega) (g2.1 285 (by omega))⟩, imgK_of (Or.inl ⟨rfl, rfl⟩) hk g2 g3⟩
    have w : ∀ t, t < 70 → M'.1 281 (140 * 0 + 70 * k' + t) = if k' = k then N.1 286 t else N.1 281 (140 * 0 + 70 * k' + t) := fun t ht => by
      rw [g3]
      by_cases y : k' = k
      · rw [if_pos (show 70 * k ≤ 140 * 0 + 70 * k' + t ∧ 140 * 0 + 70 * k' + t < 70 * k + 70 by omega), if_pos y, show 140 * 0 + 70 * k' + t - 70 * k = t by omega]
      · rw [if_neg (show ¬ (70 * k ≤ 140 * 0 + 70 * k' + t ∧ 140 * 0 + 70 * k' + t < 70 * k + 70) by omega), if_neg y]
    have w0 := w 0 (by omega)
    rw [Nat.add_zero] at w0
    have okP := (kpT_ok ok hs hk okX).2.2.2.1 k' hk'
    obtain ⟨o1, o2, -⟩ := okP
    by_cases y : k' = k
    · subst y
      rw [kp_Pn] at o1 o2 ⊢
      have hE : mE0 N X := hX.2 h0
      obtain ⟨⟨E1, E2⟩, ⟨E3, E4, E5⟩, -⟩ := hE
      refine ⟨⟨?_, ?_⟩, fun i hi => ?_, fun i hi => ?_, fun i hi => ?_⟩
      · rw [w0, if_pos rfl]; exact E1
      · rw [w 1 (by omega), if_pos rfl]; exact E2
      · rw [Nat.add_assoc, w (2 + i) (by omega), if_pos rfl]; exact E3 i hi
      · rw [Nat.add_assoc, w (32 + i) (by omega), if_pos rfl]; exact E4 i hi
      · rw [Nat.add_assoc, w (50 + i) (by omega), if_pos rfl]; exact E5 i hi
    · rw [kp_P (Or.inr y)] at o1 o2 ⊢
      obtain ⟨⟨E1, E2⟩, E3, E4, E5⟩ := a6 k' hk'
      rw [hrow 281 (by omega)] at w w0
      refine ⟨⟨?_, ?_⟩, fun i hi => ?_, fun i hi => ?_, fun i hi => ?_⟩
      · rw [w0, if_neg y]; exact E1
      · rw [w 1 (by omega), if_neg y]; exact E2
      · rw [Nat.add_assoc, w (2 + i) (by omega), if_neg y, ← Nat.add_assoc]; exact E3 i hi
      · rw [Nat.add_assoc, w (32 + i) (by omega), if_neg y, ← Nat.add_assoc]; exact E4 i hi
      · rw [Nat.add_assoc, w (50 + i) (by omega), if_neg y, ← Nat.add_assoc]; exact E5 i hi
  · obtain ⟨d1, d2, d3, d4⟩ := c2
    obtain ⟨M', g1, g2, g3⟩ := s_store (M := N) (c := 282) (w := 20) (k := k) d1 d2 rfl (by omega) (by omega) d4 (by omega)
    obtain ⟨q1, q2, q3⟩ := hd (by omega) g2
    rw [if_neg (show ¬ nI 1 = 0 by decide), if_pos (show nI 1 = 1 from rfl), show (20 : Int32) = nI 20 from rfl, g1, q_bd_some]
    refine ⟨M', rfl, ⟨q1, q2, q3, P (by omega) (g2.1 281 (by omega)), fun k' hk' => ?_, R2 (by omega) (g2.1 283 (by omega)), R3 (by omega) (g2.1 284 (by omega)), R4 (by omega) (g2.1 285 (by omega))⟩, imgK_of (Or.inr (Or.inl ⟨rfl, rfl⟩)) hk g2 g3⟩
    have k2 : k' < 2 := Nat.lt_of_lt_of_le hk' (zk 1 (by omega))
    have w : ∀ t, t < 20 → M'.1 282 (40 * 0 + 20 * k' + t) = if k' = k then N.1 286 t else N.1 282 (40 * 0 + 20 * k' + t) := fun t ht => by
      rw [g3]
      by_cases y : k' = k
      · rw [if_pos (show 20 * k ≤ 40 * 0 + 20 * k' + t ∧ 40 * 0 + 20 * k' + t < 20 * k + 20 by omega), if_pos y, show 40 * 0 + 20 * k' + t - 20 * k = t by omega]
      · rw [if_neg (show ¬ (20 * k ≤ 40 * 0 + 20 * k' + t ∧ 40 * 0 + 20 * k' + t < 20 * k + 20) by omega), if_neg y]
    have w0 := w 0 (by omega)
    rw [Nat.add_zero] at w0
    have oR : oOK 1 (tR (kpT T 1 k X) 1 k') := (kpT_ok ok hs hk okX).2.2.2.2 1 k' (by omega) (by omega) hk'
    have o9 : oN (tR (kpT T 1 k X) 1 k') ≤ 9 := oR.1
    by_cases y : k' = k
    · subst y
      rw [kp_Rn] at o9 ⊢
      have hE : mE1 N X := hX.2 h0
      obtain ⟨⟨E1, E2⟩, E3⟩ := hE
      refine ⟨⟨?_, ?_⟩, fun i hi => ⟨?_, ?_⟩⟩
      · rw [w0, if_pos rfl]; exact E1
      · rw [w 1 (by omega), if_pos rfl]; exact E2
      · rw [Nat.add_assoc, w (2 + 2 * i) (by omega), if_pos rfl]; exact (E3 i hi).1
      · rw [Nat.add_assoc, w (3 + 2 * i) (by omega), if_pos rfl]; exact (E3 i hi).2
    · have hk1 := kp_l hk' y
      rw [kp_R2 y] at o9 ⊢
      obtain ⟨⟨E1, E2⟩, E3⟩ := a7 k' hk1
      rw [hrow 282 (by omega)] at w w0
      refine ⟨⟨?_, ?_⟩, fun i hi => ⟨?_, ?_⟩⟩
      · rw [w0, if_neg y]; exact E1
      · rw [w 1 (by omega), if_neg y]; exact E2
      · rw [Nat.add_assoc, w (2 + 2 * i) (by omega), if_neg y, ← Nat.add_assoc]; exact (E3 i hi).1
      · rw [Nat.add_assoc, w (3 + 2 * i) (by omega), if_neg y, ← Nat.add_assoc]; exact (E3 i hi).2
  · obtain ⟨d1, d2, d3, d4⟩ := c3
    obtain ⟨M', g1, g2, g3⟩ := s_store (M := N) (c := 283) (w := 121) (k := k) d1 d2 rfl (by omega) (by omega) d4 (by omega)
    obtain ⟨q1, q2, q3⟩ := hd (by omega) g2
    rw [if_neg (show ¬ nI 2 = 0 by decide), if_neg (show ¬ nI 2 = 1 by decide), if_pos (show nI 2 = 2 from rfl), show (121 : Int32) = nI 121 from rfl, g1, q_bd_some]
    refine ⟨M', rfl, ⟨q1, q2, q3, P (by omega) (g2.1 281 (by omega)), R1 (by omega) (g2.1 282 (by omega)), fun k' hk' => ?_, R3 (by omega) (g2.1 284 (by omega)), R4 (by omega) (g2.1 285 (by omega))⟩, imgK_of (Or.inr (Or.inr (Or.inl ⟨rfl, rfl⟩))) hk g2 g3⟩
    have k2 : k' < 2 := Nat.lt_of_lt_of_le hk' (zk 2 (by omega))
    have w : ∀ t, t < 121 → M'.1 283 (242 * 0 + 121 * k' + t) = if k' = k then N.1 286 t else N.1 283 (242 * 0 + 121 * k' + t) := fun t ht => by
      rw [g3]
      by_cases y : k' = k
      · rw [if_pos (show 121 * k ≤ 242 * 0 + 121 * k' + t ∧ 242 * 0 + 121 * k' + t < 121 * k + 121 by omega), if_pos y, show 242 * 0 + 121 * k' + t - 121 * k = t by omega]
      · rw [if_neg (show ¬ (121 * k ≤ 242 * 0 + 121 * k' + t ∧ 242 * 0 + 121 * k' + t < 121 * k + 121) by omega), if_neg y]
    have w0 := w 0 (by omega)
    rw [Nat.add_zero] at w0
    have oR : oOK 2 (tR (kpT T 2 k X) 2 k') := (kpT_ok ok hs hk okX).2.2.2.2 2 k' (by omega) (by omega) hk'
    have o9 : oN (tR (kpT T 2 k X) 2 k') ≤ 40 := oR.1
    by_cases y : k' = k
    · subst y
      rw [kp_Rn] at o9 ⊢
      have hE : mE2 N X := hX.2 h0
      obtain ⟨E1, E3⟩ := hE
      refine ⟨?_, fun i hi => ⟨?_, ?_, ?_⟩⟩
      · rw [w0, if_pos rfl]; exact E1
      · rw [Nat.add_assoc, w (1 + 3 * i) (by omega), if_pos rfl]; exact (E3 i hi).1
      · rw [show 242 * 0 + 121 * k' + 1 + 3 * i + 1 = 242 * 0 + 121 * k' + (1 + 3 * i + 1) by omega, w (1 + 3 * i + 1) (by omega), if_pos rfl]; exact (E3 i hi).2.1
      · rw [show 242 * 0 + 121 * k' + 1 + 3 * i + 2 = 242 * 0 + 121 * k' + (1 + 3 * i + 2) by omega, w (1 + 3 * i + 2) (by omega), if_pos rfl]; exact (E3 i hi).2.2
    · have hk1 := kp_l hk' y
      rw [kp_R2 y] at o9 ⊢
      obtain ⟨E1, E3⟩ := a8 k' hk1
      rw [hrow 283 (by omega)] at w w0
      refine ⟨?_, fun i hi => ⟨?_, ?_, ?_⟩⟩
      · rw [w0, if_neg y]; exact E1
      · rw [Nat.add_assoc, w (1 + 3 * i) (by omega), if_neg y, ← Nat.add_assoc]; exact (E3 i hi).1
      · have := w (1 + 3 * i + 1) (by omega)
        rw [if_neg y, show 242 * 0 + 121 * k' + (1 + 3 * i + 1) = 242 * 0 + 121 * k' + 1 + 3 * i + 1 by omega] at this
        rw [this]; exact (E3 i hi).2.1
      · have := w (1 + 3 * i + 2) (by omega)
        rw [if_neg y, show 242 * 0 + 121 * k' + (1 + 3 * i + 2) = 242 * 0 + 121 * k' + 1 + 3 * i + 2 by omega] at this
        rw [this]; exact (E3 i hi).2.2
  · obtain ⟨d1, d2, d3, d4⟩ := c4
    obtain ⟨M', g1, g2, g3⟩ := s_store (M := N) (c := 284) (w := 37) (k := k) d1 d2 rfl (by omega) (by omega) d4 (by omega)
    obtain ⟨q1, q2, q3⟩ := hd (by omega) g2
    rw [if_neg (show ¬ nI 3 = 0 by decide), if_neg (show ¬ nI 3 = 1 by decide), if_neg (show ¬ nI 3 = 2 by decide), if_pos (show nI 3 = 3 from rfl), show (37 : Int32) = nI 37 from rfl, g1, q_bd_some]
    refine ⟨M', rfl, ⟨q1, q2, q3, P (by omega) (g2.1 281 (by omega)), R1 (by omega) (g2.1 282 (by omega)), R2 (by omega) (g2.1 283 (by omega)), fun k' hk' => ?_, R4 (by omega) (g2.1 285 (by omega))⟩, imgK_of (Or.inr (Or.inr (Or.inr (Or.inl ⟨rfl, rfl⟩)))) hk g2 g3⟩
    have k2 : k' < 2 := Nat.lt_of_lt_of_le hk' (zk 3 (by omega))
    have w : ∀ t, t < 37 → M'.1 284 (74 * 0 + 37 * k' + t) = if k' = k then N.1 286 t else N.1 284 (74 * 0 + 37 * k' + t) := fun t ht => by
      rw [g3]
      by_cases y : k' = k
      · rw [if_pos (show 37 * k ≤ 74 * 0 + 37 * k' + t ∧ 74 * 0 + 37 * k' + t < 37 * k + 37 by omega), if_pos y, show 74 * 0 + 37 * k' + t - 37 * k = t by omega]
      · rw [if_neg (show ¬ (37 * k ≤ 74 * 0 + 37 * k' + t ∧ 74 * 0 + 37 * k' + t < 37 * k + 37) by omega), if_neg y]
    have w0 := w 0 (by omega)
    rw [Nat.add_zero] at w0
    have oR : oOK 3 (tR (kpT T 3 k X) 3 k') := (kpT_ok ok hs hk okX).2.2.2.2 3 k' (by omega) (by omega) hk'
    have o9 : oN (tR (kpT T 3 k X) 3 k') ≤ 12 := oR.1
    by_cases y : k' = k
    · subst y
      rw [kp_Rn] at o9 ⊢
      have hE : mE2 N X := hX.2 h0
      obtain ⟨E1, E3⟩ := hE
      refine ⟨?_, fun i hi => ⟨?_, ?_, ?_⟩⟩
      · rw [w0, if_pos rfl]; exact E1
      · rw [Nat.add_assoc, w (1 + 3 * i) (by omega), if_pos rfl]; exact (E3 i hi).1
      · rw [show 74 * 0 + 37 * k' + 1 + 3 * i + 1 = 74 * 0 + 37 * k' + (1 + 3 * i + 1) by omega, w (1 + 3 * i + 1) (by omega), if_pos rfl]; exact (E3 i hi).2.1
      · rw [show 74 * 0 + 37 * k' + 1 + 3 * i + 2 = 74 * 0 + 37 * k' + (1 + 3 * i + 2) by omega, w (1 + 3 * i + 2) (by omega), if_pos rfl]; exact (E3 i hi).2.2
    · have hk1 := kp_l hk' y
      rw [kp_R2 y] at o9 ⊢
      obtain ⟨E1, E3⟩ := a9 k' hk1
      rw [hrow 284 (by omega)] at w w0
      refine ⟨?_, fun i hi => ⟨?_, ?_, ?_⟩⟩
      · rw [w0, if_neg y]; exact E1
      · rw [Nat.add_assoc, w (1 + 3 * i) (by omega), if_neg y, ← Nat.add_assoc]; exact (E3 i hi).1
      · have := w (1 + 3 * i + 1) (by omega)
        rw [if_neg y, show 74 * 0 + 37 * k' + (1 + 3 * i + 1) = 74 * 0 + 37 * k' + 1 + 3 * i + 1 by omega] at this
        rw [this]; exact (E3 i hi).2.1
      · have := w (1 + 3 * i + 2) (by omega)
        rw [if_neg y, show 74 * 0 + 37 * k' + (1 + 3 * i + 2) = 74 * 0 + 37 * k' + 1 + 3 * i + 2 by omega] at this
        rw [this]; exact (E3 i hi).2.2
  · obtain ⟨d1, d2, d3, d4⟩ := c5
    obtain ⟨M', g1, g2, g3⟩ := s_store (M := N) (c := 285) (w := 9) (k := k) d1 d2 rfl (by omega) (by omega) d4 (by omega)
    obtain ⟨q1, q2, q3⟩ := hd (by omega) g2
    rw [if_neg (show ¬ nI 4 = 0 by decide), if_neg (show ¬ nI 4 = 1 by decide), if_neg (show ¬ nI 4 = 2 by decide), if_neg (show ¬ nI 4 = 3 by decide), show (9 : Int32) = nI 9 from rfl, g1, q_bd_some]
    refine ⟨M', rfl, ⟨q1, q2, q3, P (by omega) (g2.1 281 (by omega)), R1 (by omega) (g2.1 282 (by omega)), R2 (by omega) (g2.1 283 (by omega)), R3 (by omega) (g2.1 284 (by omega)), fun k' hk' => ?_⟩, imgK_of (Or.inr (Or.inr (Or.inr (Or.inr ⟨rfl, rfl⟩)))) hk g2 g3⟩
    have k2 : k' < 2 := Nat.lt_of_lt_of_le hk' (zk 4 (by omega))
    have w : ∀ t, t < 9 → M'.1 285 (18 * 0 + 9 * k' + t) = if k' = k then N.1 286 t else N.1 285 (18 * 0 + 9 * k' + t) := fun t ht => by
      rw [g3]
      by_cases y : k' = k
      · rw [if_pos (show 9 * k ≤ 18 * 0 + 9 * k' + t ∧ 18 * 0 + 9 * k' + t < 9 * k + 9 by omega), if_pos y, show 18 * 0 + 9 * k' + t - 9 * k = t by omega]
      · rw [if_neg (show ¬ (9 * k ≤ 18 * 0 + 9 * k' + t ∧ 18 * 0 + 9 * k' + t < 9 * k + 9) by omega), if_neg y]
    have w0 := w 0 (by omega)
    rw [Nat.add_zero] at w0
    have oR : oOK 4 (tR (kpT T 4 k X) 4 k') := (kpT_ok ok hs hk okX).2.2.2.2 4 k' (by omega) (by omega) hk'
    have o9 : oN (tR (kpT T 4 k X) 4 k') ≤ 8 := oR.1
    by_cases y : k' = k
    · subst y
      rw [kp_Rn] at o9 ⊢
      have hE : mE4 N X := hX.2 h0
      obtain ⟨E1, E3⟩ := hE
      refine ⟨?_, fun i hi => ?_⟩
      · rw [w0, if_pos rfl]; exact E1
      · rw [Nat.add_assoc, w (1 + i) (by omega), if_pos rfl]; exact E3 i hi
    · have hk1 := kp_l hk' y
      rw [kp_R2 y] at o9 ⊢
      obtain ⟨E1, E3⟩ := a10 k' hk1
      rw [hrow 285 (by omega)] at w w0
      refine ⟨?_, fun i hi => ?_⟩
      · rw [w0, if_neg y]; exact E1
      · rw [Nat.add_assoc, w (1 + i) (by omega), if_neg y, ← Nat.add_assoc]; exact E3 i hi
end MST
