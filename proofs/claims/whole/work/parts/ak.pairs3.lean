/-! CALLS OF BOTH SIDES that hold a cache -/
theorem same_k {α : Type} {f g : PM → Option (α × PM)} {M : PM} {T : Tol} {I : Nat → Tol} {K : Nat → Bool} {w : α} {P : PM → Prop} {W V : List (Nat × Nat)} (h : InvM M T I K) (hc : hw (f M) (fun v M' => v = w ∧ P M')) (fc : ∀ M r, f M = some r → hr_fr W M r.2) (hW : hr_cq W = true) (keep : ∀ M', hr_fr W M M' → P M' → Lk M' T ∧ Ck M' T ∧ Gk M' T) (hm : ∀ M', mT M' 0 T → hw (g M') (fun v _ => v = w)) (fm : ∀ M r, g M = some r → hr_fr V M r.2) (hV : hr_mq V = true) : same f g M T I K := by
  obtain ⟨v, M1, e1, rfl, hP⟩ := hc
  have f1 := fc M _ e1
  have h1 : InvM M1 T I K := Inv_cls h f1 hW (keep M1 f1 hP)
  obtain ⟨v', M2, e2, h2⟩ := hm M1 h1.2.2.1.1
  have f2 := fm M1 _ e2
  subst h2
  exact ⟨_, M1, M2, e1, e2, Inv_mod h1 f2 hV⟩
theorem Gk_fr {M M' : PM} {T : Tol} {W : List (Nat × Nat)} (k3 : Gk M T) (hf : hr_fr W M M') (hg : ∀ c, 265 ≤ c → c ≤ 269 → ∀ k, hr_in W c k = false) : Gk M' T := by
  have e5 := hf.row 265 (hg 265 (by omega) (by omega))
  have e6 := hf.row 266 (hg 266 (by omega) (by omega))
  have e7 := hf.row 267 (hg 267 (by omega) (by omega))
  have e8 := hf.row 268 (hg 268 (by omega) (by omega))
  have e9 := hf.row 269 (hg 269 (by omega) (by omega))
  unfold Gk gval gAll gst at k3 ⊢
  rw [e5, e6, e7, e8, e9]
  exact k3
theorem p_rows {M : PM} {T : Tol} {I : Nat → Tol} {K : Nat → Bool} (h : InvM M T I K) (p g : Int32) : same (f_X10_rows p g) (f_X11_rows p g) M T I K :=
  same_k (P := fun M' => Lk M' T) (W := hW_X10_rows) (V := hW_X11_rows) h (c_rows h.2.1.1 h.1.1 h.2.2.2.2.1.1 p g) (fun M z e => fr_X10_rows p g M z e) rfl (fun M' hf hP => ⟨hP, Ck_at h.2.2.2.2.1.2.1 (hf.at 240 11 rfl) (hf.at 240 13 rfl) (hf.row 248 (fun _ => rfl)), Gk_fr h.2.2.2.2.1.2.2 hf (fun c c1 c2 k => by
    have cc : c = 265 ∨ c = 266 ∨ c = 267 ∨ c = 268 ∨ c = 269 := by omega
    rcases cc with rfl | rfl | rfl | rfl | rfl <;> rfl)⟩) (fun M' hT => m_rows hT h.1.1 p g) (fun M z e => fr_X11_rows p g M z e) rfl
theorem p_row {M : PM} {T : Tol} {I : Nat → Tol} {K : Nat → Bool} (h : InvM M T I K) (p g k : Int32) : same (f_X10_row p g k) (f_X11_row p g k) M T I K :=
  same_k (P := fun M' => Lk M' T) (W := hW_X10_row) (V := hW_X11_row) h (c_row h.2.1.1 h.1.1 h.2.2.2.2.1.1 p g k) (fun M z e => fr_X10_row p g k M z e) rfl (fun M' hf hP => ⟨hP, Ck_at h.2.2.2.2.1.2.1 (hf.at 240 11 rfl) (hf.at 240 13 rfl) (hf.row 248 (fun _ => rfl)), Gk_fr h.2.2.2.2.1.2.2 hf (fun c c1 c2 k => by
    have cc : c = 265 ∨ c = 266 ∨ c = 267 ∨ c = 268 ∨ c = 269 := by omega
    rcases cc with rfl | rfl | rfl | rfl | rfl <;> rfl)⟩) (fun M' hT => m_row hT h.1.1 p g k) (fun M z e => fr_X11_row p g k M z e) rfl
theorem p_loom {M : PM} {T : Tol} {I : Nat → Tol} {K : Nat → Bool} (h : InvM M T I K) (p s : Int32) : same (f_X10_loom p s) (f_X11_loom p s) M T I K :=
  same_k (P := fun M' => Lk M' T) (W := hW_X10_loom) (V := hW_X11_loom) h (c_loom h.2.1.1 h.1.1 h.2.2.2.2.1.1 p s) (fun M z e => fr_X10_loom p s M z e) rfl (fun M' hf hP => ⟨hP, Ck_at h.2.2.2.2.1.2.1 (hf.at 240 11 rfl) (hf.at 240 13 rfl) (hf.row 248 (fun _ => rfl)), Gk_fr h.2.2.2.2.1.2.2 hf (fun c c1 c2 k => by
    have cc : c = 265 ∨ c = 266 ∨ c = 267 ∨ c = 268 ∨ c = 269 := by omega
    rcases cc with rfl | rfl | rfl | rfl | rfl <;> rfl)⟩) (fun M' hT => m_loom hT h.1.1 p s) (fun M z e => fr_X11_loom p s M z e) rfl
theorem p_thread {M : PM} {T : Tol} {I : Nat → Tol} {K : Nat → Bool} (h : InvM M T I K) (p s k : Int32) : same (f_X10_thread p s k) (f_X11_thread p s k) M T I K :=
  same_k (P := fun M' => Lk M' T) (W := hW_X10_thread) (V := hW_X11_thread) h (c_thread h.2.1.1 h.1.1 h.2.2.2.2.1.1 p s k) (fun M z e => fr_X10_thread p s k M z e) rfl (fun M' hf hP => ⟨hP, Ck_at h.2.2.2.2.1.2.1 (hf.at 240 11 rfl) (hf.at 240 13 rfl) (hf.row 248 (fun _ => rfl)), Gk_fr h.2.2.2.2.1.2.2 hf (fun c c1 c2 k => by
    have cc : c = 265 ∨ c = 266 ∨ c = 267 ∨ c = 268 ∨ c = 269 := by omega
    rcases cc with rfl | rfl | rfl | rfl | rfl <;> rfl)⟩) (fun M' hT => m_thread hT h.1.1 p s k) (fun M z e => fr_X11_thread p s k M z e) rfl
theorem p_flags {M : PM} {T : Tol} {I : Nat → Tol} {K : Nat → Bool} (h : InvM M T I K) (p x : Int32) : same (f_X10_flags p x) (f_X11_flags p x) M T I K :=
  same_k (P := fun M' => Ck M' T) (W := hW_X10_flags) (V := hW_X11_flags) h (c_flags h.2.1.1 h.1.1 h.2.2.2.2.1.2.1 p x) (fun M z e => fr_X10_flags p x M z e) rfl (fun M' hf hP => ⟨Lk_at h.2.2.2.2.1.1 (hf.at 240 6 rfl) (hf.at 240 7 rfl) (hf.at 240 8 rfl) (hf.row 245 (fun _ => rfl)), hP, Gk_fr h.2.2.2.2.1.2.2 hf (fun c c1 c2 k => by
    have cc : c = 265 ∨ c = 266 ∨ c = 267 ∨ c = 268 ∨ c = 269 := by omega
    rcases cc with rfl | rfl | rfl | rfl | rfl <;> rfl)⟩) (fun M' hT => m_flags hT h.1.1 p x) (fun M z e => fr_X11_flags p x M z e) rfl
theorem p_fits {M : PM} {T : Tol} {I : Nat → Tol} {K : Nat → Bool} (h : InvM M T I K) (p s x w : Int32) : same (f_X10_fits p s x w) (f_X11_fits p s x w) M T I K :=
  same_k (P := fun M' => Gk M' T) (W := hW_X10_fits) (V := hW_X11_fits) h (c_fits h.2.1.1 h.1.1 h.2.2.2.2.1.2.2 p s x w) (fun M z e => fr_X10_fits p s x w M z e) rfl (fun M' hf hP => ⟨Lk_at h.2.2.2.2.1.1 (hf.at 240 6 rfl) (hf.at 240 7 rfl) (hf.at 240 8 rfl) (hf.row 245 (fun _ => rfl)), Ck_at h.2.2.2.2.1.2.1 (hf.at 240 11 rfl) (hf.at 240 13 rfl) (hf.row 248 (fun _ => rfl)), hP⟩) (fun M' hT => m_fits hT h.1.1 p s x w) (fun M z e => fr_X11_fits p s x w M z e) rfl
