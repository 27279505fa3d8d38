/-! WHAT HOLDS BETWEEN CALLS -/
theorem rT_at {M M' : PM} {b : Nat} {T : Tol} (h : rT M b T) (ok : tOK T) (e : ∀ c, b ≤ c → c ≤ b + 54 → M'.1 c = M.1 c) : rT M' b T := by
  obtain ⟨t1, t2, t3, t4, t5⟩ := h
  refine ⟨by rw [e b (by omega) (by omega)]; exact t1, fun i hi => by rw [e (b + 1) (by omega) (by omega)]; exact t2 i hi, fun s hs => by rw [e (b + 2) (by omega) (by omega)]; exact t3 s hs, fun k hk => (t4 k hk).agr (fun c c1 c2 => e c (by omega) (by omega)), fun s k s1 s5 hk => ?_⟩
  have k2 : k < 2 := Nat.lt_of_lt_of_le hk (ok.2.2.1 s s5)
  exact rR_eq (t5 s k s1 s5 hk) (fun j hj => e _ (by omega) (by omega))
theorem Lk_at {M M' : PM} {T : Tol} (h : Lk M T) (e6 : M'.1 240 6 = M.1 240 6) (e7 : M'.1 240 7 = M.1 240 7) (e8 : M'.1 240 8 = M.1 240 8) (e5 : M'.1 245 = M.1 245) : Lk M' T := by
  unfold Lk ldn at h ⊢
  rw [e6, e7, e8, e5]
  exact h
theorem Ck_at {M M' : PM} {T : Tol} (h : Ck M T) (e1 : M'.1 240 11 = M.1 240 11) (e3 : M'.1 240 13 = M.1 240 13) (e8 : M'.1 248 = M.1 248) : Ck M' T := by
  unfold Ck cpl at h ⊢
  rw [e1, e3, e8]
  exact h
/-- the caches tell of palettes and rolls only -/
theorem Lk_T {M : PM} {T T' : Tol} (h : Lk M T) (e : T'.2.2.2.2 = T.2.2.2.2) : Lk M T' := by
  have e1 : tz T' = tz T := by unfold tz; rw [e]
  have e2 : tP T' = tP T := by unfold tP; rw [e]
  have e3 : tR T' = tR T := by unfold tR; rw [e]
  unfold Lk at h ⊢
  rw [e1, e2, e3]
  exact h
theorem Ck_T {M : PM} {T T' : Tol} (h : Ck M T) (e : T'.2.2.2.2 = T.2.2.2.2) : Ck M T' := by
  have e1 : tz T' = tz T := by unfold tz; rw [e]
  have e2 : tP T' = tP T := by unfold tP; rw [e]
  unfold Ck at h ⊢
  rw [e1, e2]
  exact h
theorem Gk_T {M : PM} {T T' : Tol} (h : Gk M T) (e : T'.2.2.2.2 = T.2.2.2.2) : Gk M T' := by
  have e1 : tz T' = tz T := by unfold tz; rw [e]
  have e2 : tP T' = tP T := by unfold tP; rw [e]
  have e3 : tR T' = tR T := by unfold tR; rw [e]
  unfold Gk at h ⊢
  rw [e1, e2, e3]
  exact h
theorem Lk_0 {M : PM} {T : Tol} (h : forg M) : Lk M T := Or.inl h.1
theorem Ck_0 {M : PM} {T : Tol} (h : forg M) : Ck M T := Or.inl h.2.1
theorem Gk_0 {M : PM} {T : Tol} (h : forg M) : Gk M T := fun p s hp hs => Or.inl (h.2.2 (2 * p + s) (by omega))
/-- the model's image, once it is kept -/
def mI (M : PM) (i : Nat) (T : Tol) (k : Bool) : Prop := ∃ J, (k = true → J = T) ∧ tOK J ∧ mT M (i + 1) J
theorem mI.to {M M' : PM} {i : Nat} {T : Tol} {k : Bool} (h : mI M i T k) (f : ∀ J, tOK J → mT M (i + 1) J → mT M' (i + 1) J) : mI M' i T k := by
  obtain ⟨J, h1, h2, h3⟩ := h
  exact ⟨J, h1, h2, f J h2 h3⟩
/-- what is told, on both sides; the images; the caches; what never changes -/
def InvM (M : PM) (T : Tol) (I : Nat → Tol) (K : Nat → Bool) : Prop := (tOK T ∧ ∀ i, i < 3 → tOK (I i)) ∧ (rT M 1 T ∧ ∀ i, i < 3 → rT M (tdA (i + 1)) (I i)) ∧ (mT M 0 T ∧ ∀ i, i < 3 → mI M i (I i) (K i)) ∧ (∀ i, i < 3 → M.1 222 i = bI (K i) ∧ M.1 304 i = bI (K i)) ∧ (Lk M T ∧ Ck M T ∧ Gk M T) ∧ hr_MS M
/-- cells of the class's helpers only -/
def hr_cq (W : List (Nat × Nat)) : Bool := W.all (fun q => Nat.ble 223 q.1 && Nat.ble q.1 274)
/-- cells of the model's helpers only -/
def hr_mq (W : List (Nat × Nat)) : Bool := W.all (fun q => Nat.beq q.1 275 || (Nat.ble 286 q.1 && Nat.ble q.1 303))
theorem hr_cq_in {W : List (Nat × Nat)} (h : hr_cq W = true) {a : Nat} (ha : a < 223 ∨ 274 < a) (k : Nat) : hr_in W a k = false := by
  induction W with
  | nil => rfl
  | cons q W ih =>
    unfold hr_cq at h
    rw [List.all_cons, Bool.and_eq_true, Bool.and_eq_true] at h
    have h1 := Nat.le_of_ble_eq_true h.1.1
    have h2 := Nat.le_of_ble_eq_true h.1.2
    unfold hr_in
    rw [beqF (show q.1 ≠ a by omega), ih h.2]
    rfl
theorem hr_mq_in {W : List (Nat × Nat)} (h : hr_mq W = true) {a : Nat} (ha : a < 275 ∨ (276 ≤ a ∧ a ≤ 285) ∨ 303 < a) (k : Nat) : hr_in W a k = false := by
  induction W with
  | nil => rfl
  | cons q W ih =>
    unfold hr_mq at h
    rw [List.all_cons, Bool.and_eq_true, Bool.or_eq_true, Bool.and_eq_true] at h
    have hq : q.1 ≠ a := by
      rcases h.1 with h1 | ⟨h1, h2⟩
      · have := Nat.eq_of_beq_eq_true h1; omega
      · have h1 := Nat.le_of_ble_eq_true h1
        have h2 := Nat.le_of_ble_eq_true h2
        omega
    unfold hr_in
    rw [beqF hq, ih h.2]
    rfl
/-- after a call of the class that tells nothing new -/
theorem Inv_cls {M M' : PM} {T : Tol} {I : Nat → Tol} {K : Nat → Bool} {W : List (Nat × Nat)} (h : InvM M T I K) (hf : hr_fr W M M') (hW : hr_cq W = true) (hk : Lk M' T ∧ Ck M' T ∧ Gk M' T) : InvM M' T I K := by
  obtain ⟨⟨o1, o2⟩, ⟨r1, r2⟩, ⟨m1, m2⟩, f, -, st⟩ := h
  have e : ∀ c, (c < 223 ∨ 274 < c) → M'.1 c = M.1 c := fun c hc => hf.row c (hr_cq_in hW hc)
  refine ⟨⟨o1, o2⟩, ⟨rT_at r1 o1 (fun c c1 c2 => e c (by omega)), fun i hi => rT_at (r2 i hi) (o2 i hi) (fun c c1 c2 => e c (by have := tdA_i i; omega))⟩, ⟨m1.at (fun c c1 c2 => e c (by omega)), fun i hi => (m2 i hi).to (fun J _ hJ => hJ.at (fun c c1 c2 => e c (by omega)))⟩, fun i hi => by rw [e 222 (by omega), e 304 (by omega)]; exact f i hi, hk, fun c hc => ?_⟩
  have e305 : hr_n = 305 := rfl
  rw [e c (by omega)]; exact st c hc
/-- after a call of the model that tells nothing new -/
theorem Inv_mod {M M' : PM} {T : Tol} {I : Nat → Tol} {K : Nat → Bool} {W : List (Nat × Nat)} (h : InvM M T I K) (hf : hr_fr W M M') (hW : hr_mq W = true) : InvM M' T I K := by
  obtain ⟨⟨o1, o2⟩, ⟨r1, r2⟩, ⟨m1, m2⟩, f, ⟨k1, k2, k3⟩, st⟩ := h
  have e : ∀ c, (c < 275 ∨ (276 ≤ c ∧ c ≤ 285) ∨ 303 < c) → M'.1 c = M.1 c := fun c hc => hf.row c (hr_mq_in hW hc)
  have e240 := e 240 (by omega)
  refine ⟨⟨o1, o2⟩, ⟨rT_at r1 o1 (fun c c1 c2 => e c (by omega)), fun i hi => rT_at (r2 i hi) (o2 i hi) (fun c c1 c2 => e c (by have := tdA_i i; omega))⟩, ⟨m1.at (fun c c1 c2 => e c (by omega)), fun i hi => (m2 i hi).to (fun J _ hJ => hJ.at (fun c c1 c2 => e c (by omega)))⟩, fun i hi => by rw [e 222 (by omega), e 304 (by omega)]; exact f i hi, ⟨Lk_at k1 (by rw [e240]) (by rw [e240]) (by rw [e240]) (e 245 (by omega)), Ck_at k2 (by rw [e240]) (by rw [e240]) (e 248 (by omega)), ?_⟩, fun c hc => ?_⟩
  · have e5 := e 265 (by omega)
    have e6 := e 266 (by omega)
    have e7 := e 267 (by omega)
    have e8 := e 268 (by omega)
    have e9 := e 269 (by omega)
    unfold Gk gval gAll gst at k3 ⊢
    rw [e5, e6, e7, e8, e9]
    exact k3
  · have e305 : hr_n = 305 := rfl
    rw [e c (by omega)]; exact st c hc
