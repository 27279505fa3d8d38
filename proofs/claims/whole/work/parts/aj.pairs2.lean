/-! CALLS OF BOTH SIDES, one by one -/
theorem p_strength {M : PM} {T : Tol} {I : Nat → Tol} {K : Nat → Bool} (h : InvM M T I K) (p x y : Int32) : same (f_X10_strength p x y) (f_X11_strength p x y) M T I K :=
  same_q (W := hW_X10_strength) (V := hW_X11_strength) h ⟨_, M, c_strength h.2.1.1 (h.1.1.2.2.1 0 (by omega)) p x y, rfl⟩ (fun M z e => fr_X10_strength p x y M z e) rfl (keep_q h rfl rfl rfl rfl rfl (fun _ => rfl) (fun _ => rfl) (fun c c1 c2 k => rfl)) (fun M' hT => m_strength hT h.1.1 p x y) (fun M z e => fr_X11_strength p x y M z e) rfl
theorem p_minds {M : PM} {T : Tol} {I : Nat → Tol} {K : Nat → Bool} (h : InvM M T I K) (p x r y b : Int32) : same (f_X10_minds p x r y b) (f_X11_minds p x r y b) M T I K :=
  same_q (W := hW_X10_minds) (V := hW_X11_minds) h ⟨_, M, c_minds h.2.1.1 (h.1.1.2.2.1 0 (by omega)) p x r y b, rfl⟩ (fun M z e => fr_X10_minds p x r y b M z e) rfl (keep_q h rfl rfl rfl rfl rfl (fun _ => rfl) (fun _ => rfl) (fun c c1 c2 k => rfl)) (fun M' hT => m_minds hT h.1.1 p x r y b) (fun M z e => fr_X11_minds p x r y b M z e) rfl
theorem p_rule {M : PM} {T : Tol} {I : Nat → Tol} {K : Nat → Bool} (h : InvM M T I K) (p j w : Int32) : same (f_X10_rule p j w) (f_X11_rule p j w) M T I K :=
  same_q (W := hW_X10_rule) (V := hW_X11_rule) h ⟨_, M, c_rule h.2.1.1 (h.1.1.2.2.1 0 (by omega)) p j w, rfl⟩ (fun M z e => fr_X10_rule p j w M z e) rfl (keep_q h rfl rfl rfl rfl rfl (fun _ => rfl) (fun _ => rfl) (fun c c1 c2 k => rfl)) (fun M' hT => m_rule hT h.1.1 p j w) (fun M z e => fr_X11_rule p j w M z e) rfl
theorem p_gain {M : PM} {T : Tol} {I : Nat → Tol} {K : Nat → Bool} (h : InvM M T I K) (p w c : Int32) : same (f_X10_gain p w c) (f_X11_gain p w c) M T I K :=
  same_q (W := hW_X10_gain) (V := hW_X11_gain) h ⟨_, M, c_gain h.2.1.1 (h.1.1.2.2.1 0 (by omega)) p w c, rfl⟩ (fun M z e => fr_X10_gain p w c M z e) rfl (keep_q h rfl rfl rfl rfl rfl (fun _ => rfl) (fun _ => rfl) (fun c c1 c2 k => rfl)) (fun M' hT => m_gain hT h.1.1 p w c) (fun M z e => fr_X11_gain p w c M z e) rfl
theorem p_rest {M : PM} {T : Tol} {I : Nat → Tol} {K : Nat → Bool} (h : InvM M T I K) (p k : Int32) : same (f_X10_rest p k) (f_X11_rest p k) M T I K :=
  same_q (W := hW_X10_rest) (V := hW_X11_rest) h ⟨_, M, c_rest h.2.1.1 (h.1.1.2.2.1 0 (by omega)) p k, rfl⟩ (fun M z e => fr_X10_rest p k M z e) rfl (keep_q h rfl rfl rfl rfl rfl (fun _ => rfl) (fun _ => rfl) (fun c c1 c2 k => rfl)) (fun M' hT => m_rest hT h.1.1 p k) (fun M z e => fr_X11_rest p k M z e) rfl
theorem p_spread {M : PM} {T : Tol} {I : Nat → Tol} {K : Nat → Bool} (h : InvM M T I K) (p x r : Int32) : same (f_X10_spread p x r) (f_X11_spread p x r) M T I K :=
  same_q (W := hW_X10_spread) (V := hW_X11_spread) h ⟨_, M, c_spread h.2.1.1 (h.1.1.2.2.1 0 (by omega)) p x r, rfl⟩ (fun M z e => fr_X10_spread p x r M z e) rfl (keep_q h rfl rfl rfl rfl rfl (fun _ => rfl) (fun _ => rfl) (fun c c1 c2 k => rfl)) (fun M' hT => m_spread hT h.1.1 p x r) (fun M z e => fr_X11_spread p x r M z e) rfl
theorem p_deed {M : PM} {T : Tol} {I : Nat → Tol} {K : Nat → Bool} (h : InvM M T I K) (d j w : Int32) : same (f_X10_deed d j w) (f_X11_deed d j w) M T I K :=
  same_q (W := hW_X10_deed) (V := hW_X11_deed) h ⟨_, M, c_deed h.2.1.1 (h.1.1.2.2.1 2 (by omega)) (fun k hk => oOK_40 (h.1.1.2.2.2.2 2 k (by omega) (by omega) hk) (by omega) (by omega)) d j w, rfl⟩ (fun M z e => fr_X10_deed d j w M z e) rfl (keep_q h rfl rfl rfl rfl rfl (fun _ => rfl) (fun _ => rfl) (fun c c1 c2 k => rfl)) (fun M' hT => m_deed hT h.1.1 d j w) (fun M z e => fr_X11_deed d j w M z e) rfl
theorem p_sneeze {M : PM} {T : Tol} {I : Nat → Tol} {K : Nat → Bool} (h : InvM M T I K) (d j w : Int32) : same (f_X10_sneeze d j w) (f_X11_sneeze d j w) M T I K :=
  same_q (W := hW_X10_sneeze) (V := hW_X11_sneeze) h ⟨_, M, c_sneeze h.2.1.1 (h.1.1.2.2.1 3 (by omega)) (fun k hk => oOK_40 (h.1.1.2.2.2.2 3 k (by omega) (by omega) hk) (by omega) (by omega)) d j w, rfl⟩ (fun M z e => fr_X10_sneeze d j w M z e) rfl (keep_q h rfl rfl rfl rfl rfl (fun _ => rfl) (fun _ => rfl) (fun c c1 c2 k => rfl)) (fun M' hT => m_sneeze hT h.1.1 d j w) (fun M z e => fr_X11_sneeze d j w M z e) rfl
theorem p_guest {M : PM} {T : Tol} {I : Nat → Tol} {K : Nat → Bool} (h : InvM M T I K) (d j : Int32) : same (f_X10_guest d j) (f_X11_guest d j) M T I K :=
  same_q (W := hW_X10_guest) (V := hW_X11_guest) h ⟨_, M, c_guest h.2.1.1 (h.1.1.2.2.1 4 (by omega)) (fun k hk => oOK_40 (h.1.1.2.2.2.2 4 k (by omega) (by omega) hk) (by omega) (by omega)) d j, rfl⟩ (fun M z e => fr_X10_guest d j M z e) rfl (keep_q h rfl rfl rfl rfl rfl (fun _ => rfl) (fun _ => rfl) (fun c c1 c2 k => rfl)) (fun M' hT => m_guest hT h.1.1 d j) (fun M z e => fr_X11_guest d j M z e) rfl
theorem p_gallery {M : PM} {T : Tol} {I : Nat → Tol} {K : Nat → Bool} (h : InvM M T I K) (d w : Int32) : same (f_X10_gallery d w) (f_X11_gallery d w) M T I K :=
  same_q (W := hW_X10_gallery) (V := hW_X11_gallery) h ⟨_, M, c_gallery h.2.1.1 (h.1.1.2.2.1 1 (by omega)) (fun k hk => (show oOK 1 (tR T 1 k) from h.1.1.2.2.2.2 1 k (by omega) (by omega) hk).1) d w, rfl⟩ (fun M z e => fr_X10_gallery d w M z e) rfl (keep_q h rfl rfl rfl rfl rfl (fun _ => rfl) (fun _ => rfl) (fun c c1 c2 k => rfl)) (fun M' hT => m_gallery hT h.1.1 d w) (fun M z e => fr_X11_gallery d w M z e) rfl
theorem p_fault {M : PM} {T : Tol} {I : Nat → Tol} {K : Nat → Bool} (h : InvM M T I K) (w : Int32) : same (f_X10_fault w) (f_X11_fault w) M T I K :=
  same_q (W := hW_X10_fault) (V := hW_X11_fault) h ⟨_, M, c_fault h.2.1.1 w, rfl⟩ (fun M z e => fr_X10_fault w M z e) rfl (keep_q h rfl rfl rfl rfl rfl (fun _ => rfl) (fun _ => rfl) (fun c c1 c2 k => rfl)) (fun M' hT => m_fault hT w) (fun M z e => fr_X11_fault w M z e) rfl
theorem p_state {M : PM} {T : Tol} {I : Nat → Tol} {K : Nat → Bool} (h : InvM M T I K) (p g d n w : Int32) : same (f_X10_state p g d n w) (f_X11_state p g d n w) M T I K :=
  same_q (W := hW_X10_state) (V := hW_X11_state) h (c_state h.2.1.1 h.1.1 p g d n w) (fun M z e => fr_X10_state p g d n w M z e) rfl (keep_q h rfl rfl rfl rfl rfl (fun _ => rfl) (fun _ => rfl) (fun c c1 c2 k => by
    have cc : c = 265 ∨ c = 266 ∨ c = 267 ∨ c = 268 ∨ c = 269 := by omega
    rcases cc with rfl | rfl | rfl | rfl | rfl <;> rfl)) (fun M' hT => m_state hT h.1.1 p g d n w) (fun M z e => fr_X11_state p g d n w M z e) rfl
theorem p_hung {M : PM} {T : Tol} {I : Nat → Tol} {K : Nat → Bool} (h : InvM M T I K) (p g w : Int32) : same (f_X10_hung p g w) (f_X11_hung p g w) M T I K :=
  same_q (W := hW_X10_hung) (V := hW_X11_hung) h (c_hung h.2.1.1 h.1.1 p g w) (fun M z e => fr_X10_hung p g w M z e) rfl (keep_q h rfl rfl rfl rfl rfl (fun _ => rfl) (fun _ => rfl) (fun c c1 c2 k => by
    have cc : c = 265 ∨ c = 266 ∨ c = 267 ∨ c = 268 ∨ c = 269 := by omega
    rcases cc with rfl | rfl | rfl | rfl | rfl <;> rfl)) (fun M' hT => m_hung hT h.1.1 p g w) (fun M z e => fr_X11_hung p g w M z e) rfl
theorem p_repainted {M : PM} {T : Tol} {I : Nat → Tol} {K : Nat → Bool} (h : InvM M T I K) (p g w : Int32) : same (f_X10_repainted p g w) (f_X11_repainted p g w) M T I K :=
  same_q (W := hW_X10_repainted) (V := hW_X11_repainted) h (c_repainted h.2.1.1 h.1.1 p g w) (fun M z e => fr_X10_repainted p g w M z e) rfl (keep_q h rfl rfl rfl rfl rfl (fun _ => rfl) (fun _ => rfl) (fun c c1 c2 k => by
    have cc : c = 265 ∨ c = 266 ∨ c = 267 ∨ c = 268 ∨ c = 269 := by omega
    rcases cc with rfl | rfl | rfl | rfl | rfl <;> rfl)) (fun M' hT => m_repainted hT h.1.1 p g w) (fun M z e => fr_X11_repainted p g w M z e) rfl
theorem p_mix {M : PM} {T : Tol} {I : Nat → Tol} {K : Nat → Bool} (h : InvM M T I K) (p x s w : Int32) : same (f_X10_mix p x s w) (f_X11_mix p x s w) M T I K :=
  same_q (W := hW_X10_mix) (V := hW_X11_mix) h (c_mix h.2.1.1 h.1.1 p x s w) (fun M z e => fr_X10_mix p x s w M z e) rfl (keep_q h rfl rfl rfl rfl rfl (fun _ => rfl) (fun _ => rfl) (fun c c1 c2 k => by
    have cc : c = 265 ∨ c = 266 ∨ c = 267 ∨ c = 268 ∨ c = 269 := by omega
    rcases cc with rfl | rfl | rfl | rfl | rfl <;> rfl)) (fun M' hT => m_mix hT h.1.1 p x s w) (fun M z e => fr_X11_mix p x s w M z e) rfl
theorem p_dinner {M : PM} {T : Tol} {I : Nat → Tol} {K : Nat → Bool} (h : InvM M T I K) (p g w : Int32) : same (f_X10_dinner p g w) (f_X11_dinner p g w) M T I K :=
  same_q (W := hW_X10_dinner) (V := hW_X11_dinner) h (c_dinner h.2.1.1 h.1.1 p g w) (fun M z e => fr_X10_dinner p g w M z e) rfl (keep_q h rfl rfl rfl rfl rfl (fun _ => rfl) (fun _ => rfl) (fun c c1 c2 k => by
    have cc : c = 265 ∨ c = 266 ∨ c = 267 ∨ c = 268 ∨ c = 269 := by omega
    rcases cc with rfl | rfl | rfl | rfl | rfl <;> rfl)) (fun M' hT => m_dinner hT h.1.1 p g w) (fun M z e => fr_X11_dinner p g w M z e) rfl
theorem p_drawn {M : PM} {T : Tol} {I : Nat → Tol} {K : Nat → Bool} (h : InvM M T I K) (p g x n w : Int32) : same (f_X10_drawn p g x n w) (f_X11_drawn p g x n w) M T I K :=
  same_q (W := hW_X10_drawn) (V := hW_X11_drawn) h (c_drawn h.2.1.1 h.1.1 p g x n w) (fun M z e => fr_X10_drawn p g x n w M z e) rfl (keep_q h rfl rfl rfl rfl rfl (fun _ => rfl) (fun _ => rfl) (fun c c1 c2 k => by
    have cc : c = 265 ∨ c = 266 ∨ c = 267 ∨ c = 268 ∨ c = 269 := by omega
    rcases cc with rfl | rfl | rfl | rfl | rfl <;> rfl)) (fun M' hT => m_drawn hT h.1.1 p g x n w) (fun M z e => fr_X11_drawn p g x n w M z e) rfl
