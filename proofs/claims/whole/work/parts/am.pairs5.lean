/-! CALLS OF BOTH SIDES: images kept and told again; palettes -/
theorem Inv_275 {M : PM} {T : Tol} {I : Nat → Tol} {K : Nat → Bool} (h : InvM M T I K) (k : Nat) (v : Int32) : InvM (hr_si M 275 k v) T I K :=
  Inv_mod (W := [(275, 0)]) h (hr_fr.si (by unfold hr_in; rfl) (hr_fr.rf _ _)) rfl
/-- caches by the cells above -/
theorem caches_fd2 {M M' : PM} {T : Tol} (k : Lk M T ∧ Ck M T ∧ Gk M T) (e : ∀ c, (c ≤ 56 ∨ 223 ≤ c) → M'.1 c = M.1 c) : Lk M' T ∧ Ck M' T ∧ Gk M' T := by
  obtain ⟨k1, k2, k3⟩ := k
  have e240 := e 240 (by omega)
  refine ⟨Lk_at k1 (by rw [e240]) (by rw [e240]) (by rw [e240]) (e 245 (by omega)), Ck_at k2 (by rw [e240]) (by rw [e240]) (e 248 (by omega)), ?_⟩
  have e5 := e 265 (by omega)
  have e6 := e 266 (by omega)
  have e7 := e 267 (by omega)
  have e8 := e 268 (by omega)
  have e9 := e 269 (by omega)
  unfold Gk gval gAll gst at k3 ⊢
  rw [e5, e6, e7, e8, e9]
  exact k3
theorem p_image {M : PM} {T : Tol} {I : Nat → Tol} {K : Nat → Bool} (h : InvM M T I K) (a : Int32) : ∃ w M1 M2 T' I' K', f_X10_image a M = some (w, M1) ∧ f_X11_image a M1 = some (w, M2) ∧ InvM M2 T' I' K' := by
  cases ha : ix a 3 with
  | none => exact ⟨0, M, _, T, I, K, c_image_no ha, m_image_no ha, Inv_275 h 0 0⟩
  | some i =>
    obtain ⟨rfl, hi, -⟩ := ix_some ha
    obtain ⟨⟨o1, o2⟩, ⟨r1, r2⟩, ⟨m1, m2⟩, f, hk, st⟩ := h
    have eA := tdA_i i
    obtain ⟨M1, e1, g2, g3, g4, -⟩ := c_image r1 o1 hi
    have eg : ∀ c, (c ≤ 56 ∨ 223 ≤ c) → M1.1 c = M.1 c := fun c hc => g3 c (by omega) (by omega)
    obtain ⟨M2, e2, k2, k3⟩ := m_image (M := M1) hi
    have f2 := fr_X11_image (nI i) M1 _ e2
    have eu : ∀ c, (c < 275 ∨ 304 < c) → M2.1 c = M1.1 c := fun c hc => f2.row c (fun k => by
      unfold hW_X11_image
      simp only [hr_in, beqF (show (275 : Nat) ≠ c by omega), beqF (show (276 : Nat) ≠ c by omega), beqF (show (277 : Nat) ≠ c by omega), beqF (show (278 : Nat) ≠ c by omega), beqF (show (279 : Nat) ≠ c by omega), beqF (show (280 : Nat) ≠ c by omega), beqF (show (281 : Nat) ≠ c by omega), beqF (show (282 : Nat) ≠ c by omega), beqF (show (283 : Nat) ≠ c by omega), beqF (show (284 : Nat) ≠ c by omega), beqF (show (285 : Nat) ≠ c by omega), beqF (show (304 : Nat) ≠ c by omega), Bool.false_and, Bool.or_false])
    have hm1 : ∀ m T, mT M m T → mT M1 m T := fun m T hm => hm.at (fun c c1 c2 => eg c (by omega))
    refine ⟨1, M1, M2, T, fun j => if j = i then T else I j, fun j => if j = i then true else K j, e1, e2, ⟨o1, fun j hj => ?_⟩, ⟨rT_at r1 o1 (fun c c1 c2 => (eu c (by omega)).trans (eg c (by omega))), fun j hj => ?_⟩, ⟨k2 0 T o1 ?_, fun j hj => ?_⟩, fun j hj => ?_, caches_up (caches_fd2 hk eg) (fun c hc => eu c (by omega)), fun c hc => ?_⟩
    · show tOK (if j = i then T else I j)
      by_cases e : j = i
      · rw [if_pos e]; exact o1
      · rw [if_neg e]; exact o2 j hj
    · show rT M2 (tdA (j + 1)) (if j = i then T else I j)
      have eB := tdA_i j
      by_cases e : j = i
      · subst e
        rw [if_pos rfl]
        exact rT_at g2 o1 (fun c c1 c2 => eu c (by omega))
      · rw [if_neg e]
        exact rT_at (r2 j hj) (o2 j hj) (fun c c1 c2 => (eu c (by omega)).trans (g3 c (by omega) (by omega)))
    · rw [if_neg (by omega)]; exact hm1 0 T m1
    · show mI M2 j (if j = i then T else I j) (if j = i then true else K j)
      by_cases e : j = i
      · subst e
        rw [if_pos rfl, if_pos rfl]
        exact ⟨T, fun _ => rfl, o1, k2 (j + 1) T o1 (by rw [if_pos rfl]; exact hm1 0 T m1)⟩
      · rw [if_neg e, if_neg e]
        exact (m2 j hj).to (fun J oJ hJ => k2 (j + 1) J oJ (by rw [if_neg (by omega)]; exact hm1 (j + 1) J hJ))
    · show M2.1 222 j = bI (if j = i then true else K j) ∧ M2.1 304 j = bI (if j = i then true else K j)
      rw [eu 222 (by omega), g4 j, k3 j, eg 304 (by omega)]
      by_cases e : j = i
      · rw [if_pos e, if_pos e, if_pos e]; exact ⟨rfl, rfl⟩
      · rw [if_neg e, if_neg e, if_neg e]; exact f j hj
    · have e305 : hr_n = 305 := rfl
      rw [eu c (by omega), eg c (by omega)]; exact st c hc
theorem p_again {M : PM} {T : Tol} {I : Nat → Tol} {K : Nat → Bool} (h : InvM M T I K) (a : Int32) : ∃ w M1 M2 T' I' K', f_X10_again a M = some (w, M1) ∧ f_X11_again a M1 = some (w, M2) ∧ InvM M2 T' I' K' := by
  cases ha : ix a 3 with
  | none => exact ⟨0, M, _, T, I, K, c_again_no ha, m_again_no ha, Inv_275 h 0 0⟩
  | some i =>
    obtain ⟨rfl, hi, -⟩ := ix_some ha
    have hf := h.2.2.2.1 i hi
    cases hK : K i with
    | false =>
      rw [hK] at hf
      exact ⟨0, M, _, T, I, K, c_again0 hi hf.1, m_again0 hi hf.2, Inv_275 h 0 0⟩
    | true =>
      rw [hK] at hf
      have eA := tdA_i i
      obtain ⟨M1, e1, g2, g3, g4⟩ := c_again hi hf.1 (h.2.1.2 i hi) (h.1.2 i hi)
      have el : ∀ c, ((56 ≤ c ∧ c ≤ 222) ∨ 275 ≤ c) → M1.1 c = M.1 c := fun c hc => g3.row c (hr_lq_in (by decide +kernel) hc)
      obtain ⟨M2, e2, k2, k3⟩ := m_again (M := M1) hi (by rw [el 304 (by omega)]; exact hf.2)
      have f2 := fr_X11_again (nI i) M1 _ e2
      have hm1 : ∀ m T, mT M m T → mT M1 m T := fun m T hm => hm.at (fun c c1 c2 => el c (by omega))
      refine ⟨1, M1, M2, I i, I, K, e1, e2, ⟨h.1.2 i hi, h.1.2⟩, ⟨rT_at g2 (h.1.2 i hi) (fun c c1 c2 => f2.row c (hr_uq_in rfl (by omega))), fun j hj => ?_⟩, ⟨k2 0 (I i) (h.1.2 i hi) ?_, fun j hj => ?_⟩, fun j hj => ?_, caches_up ⟨Lk_0 g4, Ck_0 g4, Gk_0 g4⟩ (fun c hc => f2.row c (hr_uq_in rfl (by omega))), fun c hc => ?_⟩
      · have eB := tdA_i j
        exact rT_at (h.2.1.2 j hj) (h.1.2 j hj) (fun c c1 c2 => (f2.row c (hr_uq_in rfl (by omega))).trans (el c (by omega)))
      · obtain ⟨J, hJ, -, hJ3⟩ := h.2.2.1.2 i hi
        have eJ := hJ hK
        subst eJ
        rw [if_pos rfl]; exact hm1 (i + 1) _ hJ3
      · exact (h.2.2.1.2 j hj).to (fun J oJ hJ => k2 (j + 1) J oJ (by rw [if_neg (by omega)]; exact hm1 (j + 1) J hJ))
      · show M2.1 222 j = bI (K j) ∧ M2.1 304 j = bI (K j)
        rw [(f2.row 222 (hr_uq_in rfl (by omega))).trans (el 222 (by omega)), k3, el 304 (by omega)]
        exact h.2.2.2.1 j hj
      · have e305 : hr_n = 305 := rfl
        rw [f2.row c (hr_uq_in rfl (by omega)), el c (by omega)]; exact h.2.2.2.2.2 c hc
/-- caches by their own cells -/
theorem caches_39 {M M' : PM} {T : Tol} (k : Lk M T ∧ Ck M T ∧ Gk M T) (e : ∀ c, (223 ≤ c) → M'.1 c = M.1 c) : Lk M' T ∧ Ck M' T ∧ Gk M' T := by
  obtain ⟨k1, k2, k3⟩ := k
  have e240 := e 240 (by omega)
  refine ⟨Lk_at k1 (by rw [e240]) (by rw [e240]) (by rw [e240]) (e 245 (by omega)), Ck_at k2 (by rw [e240]) (by rw [e240]) (e 248 (by omega)), ?_⟩
  have e5 := e 265 (by omega)
  have e6 := e 266 (by omega)
  have e7 := e 267 (by omega)
  have e8 := e 268 (by omega)
  have e9 := e 269 (by omega)
  unfold Gk gval gAll gst at k3 ⊢
  rw [e5, e6, e7, e8, e9]
  exact k3
theorem rP_dot {M : PM} {a b : Nat} {P : Pal} (h : rP M a P) (hb : b = a ∨ b < a ∨ a + 9 ≤ b) (v : Int32) (hv : b = a → v = zI (dotS P 1000)) : rP (hr_si M b 10 v) a P := by
  obtain ⟨hK, ⟨h1, h2⟩, ⟨h3, h4, h5⟩, ⟨h6, h7⟩, ⟨h8, h9, ha⟩, hd⟩ := h
  have e : ∀ c, c ≠ b → (hr_si M b 10 v).1 c = M.1 c := fun c hc => si_ne _ _ _ hc
  have e0 : ∀ j, j ≠ 10 → (hr_si M b 10 v).1 a j = M.1 a j := fun j hj => by
    rw [q_si1]
    by_cases ab : a = b
    · rw [if_pos ab, if_neg hj]
    · rw [if_neg ab]
  refine ⟨hK, ⟨by rw [e0 0 (by omega)]; exact h1, by rw [e0 1 (by omega)]; exact h2⟩, ⟨by rw [e (a + 1) (by omega)]; exact h3, by rw [e (a + 2) (by omega)]; exact h4, by rw [e (a + 3) (by omega)]; exact h5⟩, ⟨by rw [e (a + 4) (by omega)]; exact h6, by rw [e (a + 5) (by omega)]; exact h7⟩, ⟨by rw [e (a + 6) (by omega)]; exact h8, by rw [e (a + 7) (by omega)]; exact h9, by rw [e (a + 8) (by omega)]; exact ha⟩, ?_⟩
  rw [q_si1]
  by_cases ab : a = b
  · rw [if_pos ab, if_pos rfl]; exact Or.inr (hv ab.symm)
  · rw [if_neg ab]; exact hd
theorem p_palette {M : PM} {T : Tol} {I : Nat → Tol} {K : Nat → Bool} (h : InvM M T I K) (p w : Int32) : same (f_X10_palette p w) (f_X11_palette p w) M T I K := by
  obtain ⟨v, M1, e1, rfl, hd⟩ := c_palette h.2.1.1 (h.1.1.2.2.1 0 (by omega)) p w
  have h1 : InvM M1 T I K := by
    rcases hd with rfl | ⟨k, hk, rfl⟩
    · exact h
    · obtain ⟨⟨o1, o2⟩, ⟨r1, r2⟩, ⟨m1, m2⟩, f, hc, st⟩ := h
      have hk2 : k < 2 := Nat.lt_of_lt_of_le hk (o1.2.2.1 0 (by omega))
      have e : ∀ c, c ≠ 6 + 9 * k → (hr_si M (6 + 9 * k) 10 (zI (dotS (tP T k) 1000))).1 c = M.1 c := fun c hc => si_ne _ _ _ hc
      refine ⟨⟨o1, o2⟩, ⟨?_, fun i hi => rT_at (r2 i hi) (o2 i hi) (fun c c1 c2 => e c (by have := tdA_i i; omega))⟩, ⟨m1.at (fun c c1 c2 => e c (by omega)), fun i hi => (m2 i hi).to (fun J _ hJ => hJ.at (fun c c1 c2 => e c (by omega)))⟩, fun i hi => by rw [e 222 (by omega), e 304 (by omega)]; exact f i hi, caches_39 hc (fun c hc => e c (by omega)), fun c hc => ?_⟩
      · obtain ⟨t1, t2, t3, t4, t5⟩ := r1
        refine ⟨by rw [e 1 (by omega)]; exact t1, fun i hi => by rw [e (1 + 1) (by omega)]; exact t2 i hi, fun s hs => by rw [e (1 + 2) (by omega)]; exact t3 s hs, fun k' hk' => ?_, fun s k' s1 s5 hk' => ?_⟩
        · refine rP_dot (t4 k' hk') (by omega) _ (fun ee => ?_)
          rw [show k' = k by omega]
        · have : k' < 2 := Nat.lt_of_lt_of_le hk' (o1.2.2.1 s s5)
          exact rR_eq (t5 s k' s1 s5 hk') (fun j hj => e _ (by omega))
      · have e305 : hr_n = 305 := rfl
        rw [e c (by omega)]; exact st c hc
  obtain ⟨v', M2, e2, h2⟩ := m_palette h1.2.2.1.1 h.1.1 p w
  have f2 := fr_X11_palette p w M1 _ e2
  subst h2
  exact ⟨_, M1, M2, e1, e2, Inv_mod h1 f2 rfl⟩
