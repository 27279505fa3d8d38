/-! CALLS OF BOTH SIDES that change what is told -/
/-- cells of what the class is told now, and of its helpers -/
def hr_lq (W : List (Nat × Nat)) : Bool := W.all (fun q => Nat.ble q.1 55 || (Nat.ble 223 q.1 && Nat.ble q.1 274))
/-- cells of the model but its kept flags -/
def hr_uq (W : List (Nat × Nat)) : Bool := W.all (fun q => Nat.ble 275 q.1 && Nat.ble q.1 303)
theorem hr_lq_in {W : List (Nat × Nat)} (h : hr_lq W = true) {a : Nat} (ha : (56 ≤ a ∧ a ≤ 222) ∨ 275 ≤ a) (k : Nat) : hr_in W a k = false := by
  induction W with
  | nil => rfl
  | cons q W ih =>
    unfold hr_lq at h
    rw [List.all_cons, Bool.and_eq_true, Bool.or_eq_true, Bool.and_eq_true] at h
    have hq : q.1 ≠ a := by
      rcases h.1 with h1 | ⟨h1, h2⟩
      · have := Nat.le_of_ble_eq_true h1; omega
      · have h1 := Nat.le_of_ble_eq_true h1
        have h2 := Nat.le_of_ble_eq_true h2
        omega
    unfold hr_in
    rw [beqF hq, ih h.2]
    rfl
theorem hr_uq_in {W : List (Nat × Nat)} (h : hr_uq W = true) {a : Nat} (ha : a < 275 ∨ 303 < a) (k : Nat) : hr_in W a k = false := by
  induction W with
  | nil => rfl
  | cons q W ih =>
    unfold hr_uq at h
    rw [List.all_cons, Bool.and_eq_true, Bool.and_eq_true] at h
    have h1 := Nat.le_of_ble_eq_true h.1.1
    have h2 := Nat.le_of_ble_eq_true h.1.2
    unfold hr_in
    rw [beqF (show q.1 ≠ a by omega), ih h.2]
    rfl
/-- caches by the cells of the class -/
theorem caches_up {M M' : PM} {T : Tol} (k : Lk M T ∧ Ck M T ∧ Gk M T) (e : ∀ c, c < 275 → M'.1 c = M.1 c) : Lk M' T ∧ Ck M' T ∧ Gk M' T := by
  obtain ⟨k1, k2, k3⟩ := k
  have e240 := e 240 (by omega)
  refine ⟨Lk_at k1 (by rw [e240]) (by rw [e240]) (by rw [e240]) (e 245 (by omega)), Ck_at k2 (by rw [e240]) (by rw [e240]) (e 248 (by omega)), ?_⟩
  have e5 := e 265 (by omega)
  have e6 := e 266 (by omega)
  have e7 := e 267 (by omega)
  have e8 := e 268 (by omega)
  have e9 := e 269 (by omega)
  unfold Gk gval gAll gst at k3 ⊢
  rw [e5, e6, e7, e8, e9]
  exact k3
/-- something else is told now -/
theorem Inv_tell {M M1 M2 : PM} {T T' : Tol} {I : Nat → Tol} {K : Nat → Bool} (h : InvM M T I K) (ok : tOK T') (r1 : rT M1 1 T') (e1 : ∀ c, (56 ≤ c ∧ c ≤ 222) ∨ 275 ≤ c → M1.1 c = M.1 c) (k1 : Lk M1 T' ∧ Ck M1 T' ∧ Gk M1 T') (r2 : mT M2 0 T') (hk : keepM M1 M2) (e2 : ∀ c, (c < 275 ∨ 303 < c) → M2.1 c = M1.1 c) : InvM M2 T' I K := by
  obtain ⟨⟨o1, o2⟩, ⟨a1, a2⟩, ⟨m1, m2⟩, f, -, st⟩ := h
  refine ⟨⟨ok, o2⟩, ⟨rT_at r1 ok (fun c c1 c2 => e2 c (by omega)), fun i hi => rT_at (a2 i hi) (o2 i hi) (fun c c1 c2 => ?_)⟩, ⟨r2, fun i hi => (m2 i hi).to (fun J _ hJ => hk (i + 1) J (by omega) (hJ.at (fun c c1 c2 => e1 c (by omega))))⟩, fun i hi => ?_, caches_up k1 (fun c hc => e2 c (by omega)), fun c hc => ?_⟩
  · have := tdA_i i
    rw [e2 c (by omega), e1 c (by omega)]
  · rw [e2 222 (by omega), e2 304 (by omega), e1 222 (by omega), e1 304 (by omega)]; exact f i hi
  · have e305 : hr_n = 305 := rfl
    rw [e2 c (by omega), e1 c (by omega)]; exact st c hc
theorem caches_T {M : PM} {T T' : Tol} (k : Lk M T ∧ Ck M T ∧ Gk M T) (e : T'.2.2.2.2 = T.2.2.2.2) : Lk M T' ∧ Ck M T' ∧ Gk M T' := ⟨Lk_T k.1 e, Ck_T k.2.1 e, Gk_T k.2.2 e⟩
theorem sp_feed_ok {T : Tol} (ok : tOK T) (a b c d e : Int32) : tOK (sp_feed T a b c d e).2 ∧ (sp_feed T a b c d e).2.2.2.2.2 = T.2.2.2.2 := by
  unfold sp_feed
  by_cases z : tN T + 20 ≤ 600
  · rw [if_pos z]; exact ⟨fd_ok ok a b c d e z, rfl⟩
  · rw [if_neg z]; exact ⟨ok, rfl⟩
theorem sp_end_ok {T : Tol} (ok : tOK T) (n : Int32) : tOK (sp_end T n).2 ∧ (sp_end T n).2.2.2.2.2 = T.2.2.2.2 := by
  unfold sp_end
  have hn := ok.1.1
  cases hx : ix n (tN T + 1) with
  | none => exact ⟨ok, rfl⟩
  | some k =>
    obtain ⟨-, lk, -⟩ := ix_some hx
    exact ⟨en_ok ok (by omega), rfl⟩
theorem fd_low {M M' : PM} (hf : hr_fr [(1, 2), (2, 0)] M M') : ∀ c, 3 ≤ c → M'.1 c = M.1 c := fun c hc => hf.row c (fun k => by
  unfold hr_in hr_in hr_in
  rw [beqF (show (1, 2).1 ≠ c by show 1 ≠ c; omega), beqF (show (2, 0).1 ≠ c by show 2 ≠ c; omega)]
  rfl)
theorem caches_fd {M M' : PM} {T : Tol} (k : Lk M T ∧ Ck M T ∧ Gk M T) (e : ∀ c, 3 ≤ c → M'.1 c = M.1 c) : Lk M' T ∧ Ck M' T ∧ Gk M' T := by
  obtain ⟨k1, k2, k3⟩ := k
  have e240 := e 240 (by omega)
  refine ⟨Lk_at k1 (by rw [e240]) (by rw [e240]) (by rw [e240]) (e 245 (by omega)), Ck_at k2 (by rw [e240]) (by rw [e240]) (e 248 (by omega)), ?_⟩
  have e5 := e 265 (by omega)
  have e6 := e 266 (by omega)
  have e7 := e 267 (by omega)
  have e8 := e 268 (by omega)
  have e9 := e 269 (by omega)
  unfold Gk gval gAll gst at k3 ⊢
  rw [e5, e6, e7, e8, e9]
  exact k3
theorem p_feed {M : PM} {T : Tol} {I : Nat → Tol} {K : Nat → Bool} (h : InvM M T I K) (a b c d e : Int32) : ∃ w M1 M2, f_X10_feed a b c d e M = some (w, M1) ∧ f_X11_feed a b c d e M1 = some (w, M2) ∧ InvM M2 (sp_feed T a b c d e).2 I K := by
  obtain ⟨v, M1, e1, rfl, hr, hf⟩ := c_feed h.2.1.1 h.1.1 a b c d e
  have el := fd_low hf
  obtain ⟨v', M2, e2, hv, hm, hk⟩ := m_feed (h.2.2.1.1.at (fun c c1 c2 => el c (by omega))) h.1.1 a b c d e
  have f2 := fr_X11_feed a b c d e M1 _ e2
  have hs := sp_feed_ok h.1.1 a b c d e
  subst hv
  exact ⟨_, M1, M2, e1, e2, Inv_tell h hs.1 hr (fun c hc => el c (by omega)) (caches_T (caches_fd h.2.2.2.2.1 el) hs.2) hm hk (fun c hc => f2.row c (hr_uq_in rfl hc))⟩
theorem p_end {M : PM} {T : Tol} {I : Nat → Tol} {K : Nat → Bool} (h : InvM M T I K) (n : Int32) : ∃ w M1 M2, f_X10_end n M = some (w, M1) ∧ f_X11_end n M1 = some (w, M2) ∧ InvM M2 (sp_end T n).2 I K := by
  obtain ⟨v, M1, e1, rfl, hr, hf⟩ := c_end h.2.1.1 h.1.1 n
  have el := fd_low hf
  obtain ⟨v', M2, e2, hv, hm, hk⟩ := m_end (h.2.2.1.1.at (fun c c1 c2 => el c (by omega))) h.1.1 n
  have f2 := fr_X11_end n M1 _ e2
  have hs := sp_end_ok h.1.1 n
  subst hv
  exact ⟨_, M1, M2, e1, e2, Inv_tell h hs.1 hr (fun c hc => el c (by omega)) (caches_T (caches_fd h.2.2.2.2.1 el) hs.2) hm hk (fun c hc => f2.row c (hr_uq_in rfl hc))⟩
theorem p_text {M : PM} {T : Tol} {I : Nat → Tol} {K : Nat → Bool} (h : InvM M T I K) (a b : Int32) : ∃ w M1 M2, f_X10_text a b M = some (w, M1) ∧ f_X11_text a b M1 = some (w, M2) ∧ InvM M2 (sp_text T a b).2 I K := by
  obtain ⟨M1, e1, hr, ok, ⟨t, -, hf⟩, hc⟩ := c_text h.2.2.2.2.2 h.2.1.1 h.1.1 a b
  have el : ∀ c, ((56 ≤ c ∧ c ≤ 222) ∨ 275 ≤ c) → M1.1 c = M.1 c := fun c hc => (hf.row c (hr_lq_in (by decide +kernel) hc)).trans rfl
  have hk1 : Lk M1 (sp_text T a b).2 ∧ Ck M1 (sp_text T a b).2 ∧ Gk M1 (sp_text T a b).2 := by
    rcases hc with hc | ⟨c1, c2, c3⟩
    · exact ⟨Lk_0 hc, Ck_0 hc, Gk_0 hc⟩
    · refine caches_T (T := T) ?_ c1
      obtain ⟨k1, k2, k3⟩ := h.2.2.2.2.1
      have w : ∀ c, (c = 245 ∨ c = 248 ∨ c = 266 ∨ c = 267 ∨ c = 268 ∨ c = 269) → M1.1 c = M.1 c := fun c hc => (hf.row c (fun k => by rcases hc with rfl | rfl | rfl | rfl | rfl | rfl <;> rfl)).trans rfl
      refine ⟨Lk_at k1 (by rw [c2]) (by rw [c2]) (by rw [c2]) (w 245 (by omega)), Ck_at k2 (by rw [c2]) (by rw [c2]) (w 248 (by omega)), ?_⟩
      have e6 := w 266 (by omega)
      have e7 := w 267 (by omega)
      have e8 := w 268 (by omega)
      have e9 := w 269 (by omega)
      unfold Gk gval gAll gst at k3 ⊢
      rw [c3, e6, e7, e8, e9]
      exact k3
  obtain ⟨v', M2, e2, hv, hm, hk⟩ := m_text (h.2.2.1.1.at (fun c c1 c2 => el c (by omega))) h.1.1 a b
  have f2 := fr_X11_text a b M1 _ e2
  subst hv
  exact ⟨_, M1, M2, e1, e2, Inv_tell h ok hr el hk1 hm hk (fun c hc => f2.row c (hr_uq_in rfl hc))⟩
