/-! CALLS OF BOTH SIDES that tell nothing new -/
/-- both answer the same, and what held holds -/
def same {α : Type} (f g : PM → Option (α × PM)) (M : PM) (T : Tol) (I : Nat → Tol) (K : Nat → Bool) : Prop := ∃ w M1 M2, f M = some (w, M1) ∧ g M1 = some (w, M2) ∧ InvM M2 T I K
theorem same_q {α : Type} {f g : PM → Option (α × PM)} {M : PM} {T : Tol} {I : Nat → Tol} {K : Nat → Bool} {w : α} {W V : List (Nat × Nat)} (h : InvM M T I K) (hc : hw (f M) (fun v _ => v = w)) (fc : ∀ M r, f M = some r → hr_fr W M r.2) (hW : hr_cq W = true) (keep : ∀ M', hr_fr W M M' → Lk M' T ∧ Ck M' T ∧ Gk M' T) (hm : ∀ M', mT M' 0 T → hw (g M') (fun v _ => v = w)) (fm : ∀ M r, g M = some r → hr_fr V M r.2) (hV : hr_mq V = true) : same f g M T I K := by
  obtain ⟨v, M1, e1, rfl⟩ := hc
  have f1 := fc M _ e1
  have h1 : InvM M1 T I K := Inv_cls h f1 hW (keep M1 f1)
  obtain ⟨v', M2, e2, h2⟩ := hm M1 h1.2.2.1.1
  have f2 := fm M1 _ e2
  subst h2
  exact ⟨_, M1, M2, e1, e2, Inv_mod h1 f2 hV⟩
/-- caches that a call doesn't touch -/
theorem keep_q {M : PM} {T : Tol} {I : Nat → Tol} {K : Nat → Bool} {W : List (Nat × Nat)} (h : InvM M T I K) (h6 : hr_in W 240 6 = false) (h7 : hr_in W 240 7 = false) (h8 : hr_in W 240 8 = false) (h11 : hr_in W 240 11 = false) (h13 : hr_in W 240 13 = false) (h5 : ∀ k, hr_in W 245 k = false) (h9 : ∀ k, hr_in W 248 k = false) (hg : ∀ c, 265 ≤ c → c ≤ 269 → ∀ k, hr_in W c k = false) : ∀ M', hr_fr W M M' → Lk M' T ∧ Ck M' T ∧ Gk M' T := by
  intro M' hf
  obtain ⟨-, -, -, -, ⟨k1, k2, k3⟩, -⟩ := h
  refine ⟨Lk_at k1 (hf.at 240 6 h6) (hf.at 240 7 h7) (hf.at 240 8 h8) (hf.row 245 h5), Ck_at k2 (hf.at 240 11 h11) (hf.at 240 13 h13) (hf.row 248 h9), ?_⟩
  have e5 := hf.row 265 (hg 265 (by omega) (by omega))
  have e6 := hf.row 266 (hg 266 (by omega) (by omega))
  have e7 := hf.row 267 (hg 267 (by omega) (by omega))
  have e8 := hf.row 268 (hg 268 (by omega) (by omega))
  have e9 := hf.row 269 (hg 269 (by omega) (by omega))
  unfold Gk gval gAll gst at k3 ⊢
  rw [e5, e6, e7, e8, e9]
  exact k3
theorem p_ways {M : PM} {T : Tol} {I : Nat → Tol} {K : Nat → Bool} (h : InvM M T I K) (p g : Int32) : same (f_X10_ways p g) (f_X11_ways p g) M T I K :=
  same_q (W := hW_X10_ways) (V := hW_X11_ways) h (c_ways h.2.1.1 h.1.1 p g) (fun M r e => fr_X10_ways p g M r e) rfl (keep_q h rfl rfl rfl rfl rfl (fun _ => rfl) (fun _ => rfl) (fun c c1 c2 k => by
    have cc : c = 265 ∨ c = 266 ∨ c = 267 ∨ c = 268 ∨ c = 269 := by omega
    rcases cc with rfl | rfl | rfl | rfl | rfl <;> rfl)) (fun M' hT => m_ways hT h.1.1 p g) (fun M r e => fr_X11_ways p g M r e) rfl
theorem p_stop {M : PM} {T : Tol} {I : Nat → Tol} {K : Nat → Bool} (h : InvM M T I K) (p g d : Int32) : same (f_X10_stop p g d) (f_X11_stop p g d) M T I K :=
  same_q (W := hW_X10_stop) (V := hW_X11_stop) h (c_stop h.2.1.1 h.1.1 p g d) (fun M r e => fr_X10_stop p g d M r e) rfl (keep_q h rfl rfl rfl rfl rfl (fun _ => rfl) (fun _ => rfl) (fun c c1 c2 k => by
    have cc : c = 265 ∨ c = 266 ∨ c = 267 ∨ c = 268 ∨ c = 269 := by omega
    rcases cc with rfl | rfl | rfl | rfl | rfl <;> rfl)) (fun M' hT => m_stop hT h.1.1 p g d) (fun M r e => fr_X11_stop p g d M r e) rfl
theorem p_count {M : PM} {T : Tol} {I : Nat → Tol} {K : Nat → Bool} (h : InvM M T I K) (s : Int32) : same (f_X10_count s) (f_X11_count s) M T I K :=
  same_q (W := hW_X10_count) (V := hW_X11_count) h ⟨_, M, c_count h.2.1.1 s, rfl⟩ (fun M r e => fr_X10_count s M r e) rfl (keep_q h rfl rfl rfl rfl rfl (fun _ => rfl) (fun _ => rfl) (fun c c1 c2 k => rfl)) (fun M' hT => m_count hT s) (fun M r e => fr_X11_count s M r e) rfl
