/-! printed by wip/whole/gen/gen40.py: what the functions may write -/
def hW_X10_holdsBit : List (Nat × Nat) := []
theorem fr_X10_holdsBit (a0 : Int32) (a1 : Int32) : ∀ (M : PM) (r : Int32 × PM), f_X10_holdsBit a0 a1 M = some r → hr_fr hW_X10_holdsBit M r.2 := by
  intro M r h
  unfold f_X10_holdsBit at h
  refine hr_Fi h (fun _ h => ?_) (fun _ h => ?_)
  · cases h
    exact (hr_fr.rf _ M)
  · cases h
    exact (hr_fr.rf _ M)
def hW_X0_hueOfCost : List (Nat × Nat) := []
theorem fr_X0_hueOfCost_3 (a1 : Nat) (a2 : Int32) (a3 : Int32) (a4 : Int32) : ∀ (f : Nat) (x5 : Int32) (M : PM) (r : Int32 × PM), f_X0_hueOfCost_3 a1 a2 a3 a4 f x5 M = some r → hr_fr hW_X0_hueOfCost M r.2 := by
  intro f
  induction f with
  | zero => intro x5 M r h; cases h
  | succ f ih =>
    intro x5 M r h
    rw [f_X0_hueOfCost_3.eq_2] at h
    refine hr_Fi h (fun _ h => ?_) (fun _ h => ?_)
    · cases h
      exact (hr_fr.rf _ M)
    · refine hr_Fb h (fun v4 M4 e h => ?_)
      have FM4 : hr_fr hW_X0_hueOfCost M M4 := hr_fr.tr (hr_fr.rf _ M) (hr_fr.mono (W := hW_X10_holdsBit) rfl (fr_X10_holdsBit a3 x5 _ _ e))
      refine hr_Fi h (fun _ h => ?_) (fun _ h => ?_)
      · refine hr_Fg h (fun _ h => ?_)
        refine hr_Fi h (fun _ h => ?_) (fun _ h => ?_)
        · cases h
          exact FM4
        · exact hr_fr.tr FM4 (ih (x5 + 1) _ _ h)
      · exact hr_fr.tr FM4 (ih (x5 + 1) _ _ h)
theorem fr_X0_hueOfCost (a1 : Nat) (a2 : Int32) (a3 : Int32) (a4 : Int32) : ∀ (M : PM) (r : Int32 × PM), f_X0_hueOfCost a1 a2 a3 a4 M = some r → hr_fr hW_X0_hueOfCost M r.2 := by
  intro M r h
  unfold f_X0_hueOfCost at h
  refine hr_Fg h (fun _ h => ?_)
  exact hr_fr.tr (hr_fr.rf _ M) (fr_X0_hueOfCost_3 a1 a2 a3 a4 FU 0 _ _ h)
def hW_X4_part : List (Nat × Nat) := []
theorem fr_X4_part (a0 : Nat) (a1 : Int32) (a2 : Int32) : ∀ (M : PM) (r : Int32 × PM), f_X4_part a0 a1 a2 M = some r → hr_fr hW_X4_part M r.2 := by
  intro M r h
  unfold f_X4_part at h
  refine hr_Fg h (fun _ h => ?_)
  refine hr_Fg h (fun _ h => ?_)
  cases h
  exact (hr_fr.rf _ M)
def hW_X0_costOf : List (Nat × Nat) := []
theorem fr_X0_costOf_14 (a0 : Nat) (a1 : Nat) (a2 : Int32) (a3 : Int32) : ∀ (f : Nat) (x4 : Int32) (x5 : Int32) (x6 : Int32) (M : PM) (r : Int32 × PM), f_X0_costOf_14 a0 a1 a2 a3 f x4 x5 x6 M = some r → hr_fr hW_X0_costOf M r.2 := by
  intro f
  induction f with
  | zero => intro x4 x5 x6 M r h; cases h
  | succ f ih =>
    intro x4 x5 x6 M r h
    rw [f_X0_costOf_14.eq_2] at h
    refine hr_Fi h (fun _ h => ?_) (fun _ h => ?_)
    · refine hr_Fg h (fun _ h => ?_)
      cases h
      exact (hr_fr.rf _ M)
    · refine hr_Fb h (fun v4 M4 e h => ?_)
      have FM4 : hr_fr hW_X0_costOf M M4 := hr_fr.tr (hr_fr.rf _ M) (hr_fr.mono (W := hW_X4_part) rfl (fr_X4_part a0 a3 x6 _ _ e))
      refine hr_Fb h (fun v6 M6 e h => ?_)
      have FM6 : hr_fr hW_X0_costOf M M6 := hr_fr.tr FM4 (hr_fr.mono (W := hW_X4_part) rfl (fr_X4_part a0 x4 x6 _ _ e))
      exact hr_fr.tr FM6 (ih x4 (x5 + (ja (v4 - v6))) (x6 + 1) _ _ h)
theorem fr_X0_costOf (a0 : Nat) (a1 : Nat) (a2 : Int32) (a3 : Int32) : ∀ (M : PM) (r : Int32 × PM), f_X0_costOf a0 a1 a2 a3 M = some r → hr_fr hW_X0_costOf M r.2 := by
  intro M r h
  unfold f_X0_costOf at h
  refine hr_Fg h (fun _ h => ?_)
  refine hr_Fg h (fun _ h => ?_)
  refine hr_Fg h (fun _ h => ?_)
  exact hr_fr.tr (hr_fr.rf _ M) (fr_X0_costOf_14 a0 a1 a2 a3 FU (M.1 (a1 + 2) a2.toNatClampNeg) 0 0 _ _ h)
def hW_X4_foesOf : List (Nat × Nat) := []
theorem fr_X4_foesOf (a0 : Nat) (a1 : Int32) : ∀ (M : PM) (r : Int32 × PM), f_X4_foesOf a0 a1 M = some r → hr_fr hW_X4_foesOf M r.2 := by
  intro M r h
  unfold f_X4_foesOf at h
  refine hr_Fg h (fun _ h => ?_)
  refine hr_Fg h (fun _ h => ?_)
  cases h
  exact (hr_fr.rf _ M)
def hW_X0_leastCost : List (Nat × Nat) := []
theorem fr_X0_leastCost_6 (a1 : Nat) (a2 : Int32) (a3 : Int32) : ∀ (f : Nat) (x4 : Int32) (x5 : Int32) (M : PM) (r : Int32 × PM), f_X0_leastCost_6 a1 a2 a3 f x4 x5 M = some r → hr_fr hW_X0_leastCost M r.2 := by
  intro f
  induction f with
  | zero => intro x4 x5 M r h; cases h
  | succ f ih =>
    intro x4 x5 M r h
    rw [f_X0_leastCost_6.eq_2] at h
    refine hr_Fi h (fun _ h => ?_) (fun _ h => ?_)
    · cases h
      exact (hr_fr.rf _ M)
    · refine hr_Fg h (fun _ h => ?_)
      refine hr_Fb h (fun v4 M4 e h => ?_)
      have FM4 : hr_fr hW_X0_leastCost M M4 := hr_fr.tr (hr_fr.rf _ M) (hr_fr.mono (W := hW_X10_holdsBit) rfl (fr_X10_holdsBit a3 x5 _ _ e))
      refine hr_Fi h (fun _ h => ?_) (fun _ h => ?_)
      · refine hr_Fi h (fun _ h => ?_) (fun _ h => ?_)
        · exact hr_fr.tr FM4 (ih x4 (x5 + 1) _ _ h)
        · refine hr_Fi h (fun _ h => ?_) (fun _ h => ?_)
          · exact hr_fr.tr FM4 (ih (M.1 258 ((10 * a2) + x5).toNatClampNeg) (x5 + 1) _ _ h)
          · refine hr_Fi h (fun _ h => ?_) (fun _ h => ?_)
            · exact hr_fr.tr FM4 (ih x4 (x5 + 1) _ _ h)
            · exact hr_fr.tr FM4 (ih (M.1 258 ((10 * a2) + x5).toNatClampNeg) (x5 + 1) _ _ h)
      · exact hr_fr.tr FM4 (ih x4 (x5 + 1) _ _ h)
theorem fr_X0_leastCost (a1 : Nat) (a2 : Int32) (a3 : Int32) : ∀ (M : PM) (r : Int32 × PM), f_X0_leastCost a1 a2 a3 M = some r → hr_fr hW_X0_leastCost M r.2 := by
  intro M r h
  unfold f_X0_leastCost at h
  refine hr_Fg h (fun _ h => ?_)
  exact hr_fr.tr (hr_fr.rf _ M) (fr_X0_leastCost_6 a1 a2 a3 FU (-1) 0 _ _ h)
def hW_X0_repaint : List (Nat × Nat) := [(258, 0), (259, 0)]
theorem fr_X0_repaint_130 (a1 : Nat) (a2 : Nat) : ∀ (f : Nat) (x3 : Int32) (x4 : Int32) (x5 : Int32) (x6 : Int32) (M : PM) (r : Int32 × PM), f_X0_repaint_130 a1 a2 f x3 x4 x5 x6 M = some r → hr_fr hW_X0_repaint M r.2 := by
  intro f
  induction f with
  | zero => intro x3 x4 x5 x6 M r h; cases h
  | succ f ih =>
    intro x3 x4 x5 x6 M r h
    rw [f_X0_repaint_130.eq_2] at h
    refine hr_Fi h (fun _ h => ?_) (fun _ h => ?_)
    · cases h
      exact (hr_fr.rf _ M)
    · refine hr_Fi h (fun _ h => ?_) (fun _ h => ?_)
      · cases h
        exact (hr_fr.rf _ M)
      · refine hr_Fb h (fun v6 M6 e h => ?_)
        have FM6 : hr_fr hW_X0_repaint M M6 := hr_fr.tr (hr_fr.rf _ M) (hr_fr.mono (W := hW_X0_hueOfCost) rfl (fr_X0_hueOfCost a1 x6 x5 x4 _ _ e))
        refine hr_Fg h (fun _ h => ?_)
        refine hr_Fg h (fun _ h => ?_)
        refine hr_Fi h (fun _ h => ?_) (fun _ h => ?_)
        · cases h
          exact (hr_fr.si rfl FM6)
        · refine hr_Fg h (fun _ h => ?_)
          refine hr_Fb h (fun v10 M10 e h => ?_)
          have FM10 : hr_fr hW_X0_repaint M M10 := hr_fr.tr (hr_fr.si rfl FM6) (hr_fr.mono (W := hW_X0_costOf) rfl (fr_X0_costOf a1 a2 x6 ((hr_si M6 259 x6.toNatClampNeg v6).1 259 x6.toNatClampNeg) _ _ e))
          refine hr_Fg h (fun _ h => ?_)
          refine hr_Fb h (fun v12 M12 e h => ?_)
          have FM12 : hr_fr hW_X0_repaint M M12 := hr_fr.tr FM10 (hr_fr.mono (W := hW_X4_foesOf) rfl (fr_X4_foesOf a1 (M10.1 259 x6.toNatClampNeg) _ _ e))
          exact hr_fr.tr FM12 (ih x3 (x4 - v10) v12 (x6 + 1) _ _ h)
theorem fr_X0_repaint_51 (a1 : Nat) (a2 : Nat) (k7 : Int32 → PM → Option (Int32 × PM)) (k14 : Int32 → Int32 → PM → Option (Int32 × PM)) (x3 : Int32) (x4 : Int32) (s0 : Int32) (hk7 : ∀ (y0 : Int32) (M : PM) (r : Int32 × PM), k7 y0 M = some r → hr_fr hW_X0_repaint M r.2) (hk14 : ∀ (y0 : Int32) (y1 : Int32) (M : PM) (r : Int32 × PM), k14 y0 y1 M = some r → hr_fr hW_X0_repaint M r.2) : ∀ (M : PM) (r : Int32 × PM), f_X0_repaint_51 a1 a2 k7 k14 x3 x4 s0 M = some r → hr_fr hW_X0_repaint M r.2 := by
  intro M r h
  unfold f_X0_repaint_51 at h
  refine hr_Fb h (fun v2 M2 e h => ?_)
  have FM2 : hr_fr hW_X0_repaint M M2 := hr_fr.tr (hr_fr.rf _ M) (hr_fr.mono (W := hW_X0_costOf) rfl (fr_X0_costOf a1 a2 x3 x4 _ _ e))
  refine hr_Fi h (fun _ h => ?_) (fun _ h => ?_)
  · refine hr_Fg h (fun _ h => ?_)
    exact hr_fr.tr (hr_fr.si rfl FM2) (hk14 x3 (x4 + 1) _ _ h)
  · refine hr_Fg h (fun _ h => ?_)
    exact hr_fr.tr (hr_fr.si rfl FM2) (hk14 x3 (x4 + 1) _ _ h)
theorem fr_X0_repaint_14 (a1 : Nat) (a2 : Nat) (k7 : Int32 → PM → Option (Int32 × PM)) (hk7 : ∀ (y0 : Int32) (M : PM) (r : Int32 × PM), k7 y0 M = some r → hr_fr hW_X0_repaint M r.2) : ∀ (f : Nat) (x3 : Int32) (x4 : Int32) (M : PM) (r : Int32 × PM), f_X0_repaint_14 a1 a2 k7 f x3 x4 M = some r → hr_fr hW_X0_repaint M r.2 := by
  intro f
  induction f with
  | zero => intro x3 x4 M r h; cases h
  | succ f ih =>
    intro x3 x4 M r h
    rw [f_X0_repaint_14.eq_2] at h
    refine hr_Fi h (fun _ h => ?_) (fun _ h => ?_)
    · exact hr_fr.tr (hr_fr.rf _ M) (hk7 (x3 + (-1)) _ _ h)
    · refine hr_Fi h (fun _ h => ?_) (fun _ h => ?_)
      · exact hr_fr.tr (hr_fr.rf _ M) (fr_X0_repaint_51 a1 a2 k7 (fun x3 x4 M => f_X0_repaint_14 a1 a2 k7 f x3 x4 M) x3 x4 0 hk7 (fun x3 x4 M r h => ih x3 x4 M r h) _ _ h)
      · refine hr_Fb h (fun v6 M6 e h => ?_)
        have FM6 : hr_fr hW_X0_repaint M M6 := hr_fr.tr (hr_fr.rf _ M) (hr_fr.mono (W := hW_X4_foesOf) rfl (fr_X4_foesOf a1 x4 _ _ e))
        refine hr_Fb h (fun v7 M7 e h => ?_)
        have FM7 : hr_fr hW_X0_repaint M M7 := hr_fr.tr FM6 (hr_fr.mono (W := hW_X0_leastCost) rfl (fr_X0_leastCost a1 (x3 + 1) v6 _ _ e))
        exact hr_fr.tr FM7 (fr_X0_repaint_51 a1 a2 k7 (fun x3 x4 M => f_X0_repaint_14 a1 a2 k7 f x3 x4 M) x3 x4 v7 hk7 (fun x3 x4 M r h => ih x3 x4 M r h) _ _ h)
theorem fr_X0_repaint_7 (a1 : Nat) (a2 : Nat) : ∀ (f : Nat) (x3 : Int32) (M : PM) (r : Int32 × PM), f_X0_repaint_7 a1 a2 f x3 M = some r → hr_fr hW_X0_repaint M r.2 := by
  intro f
  induction f with
  | zero => intro x3 M r h; cases h
  | succ f ih =>
    intro x3 M r h
    rw [f_X0_repaint_7.eq_2] at h
    refine hr_Fi h (fun _ h => ?_) (fun _ h => ?_)
    · refine hr_Fi h (fun _ h => ?_) (fun _ h => ?_)
      · exact hr_fr.tr (hr_fr.rf _ M) (fr_X0_repaint_130 a1 a2 FU 0 0 0 0 _ _ h)
      · refine hr_Fb h (fun v6 M6 e h => ?_)
        have FM6 : hr_fr hW_X0_repaint M M6 := hr_fr.tr (hr_fr.rf _ M) (hr_fr.mono (W := hW_X0_leastCost) rfl (fr_X0_leastCost a1 0 0 _ _ e))
        exact hr_fr.tr FM6 (fr_X0_repaint_130 a1 a2 FU v6 v6 0 0 _ _ h)
    · exact hr_fr.tr (hr_fr.rf _ M) (fr_X0_repaint_14 a1 a2 (fun x3 M => f_X0_repaint_7 a1 a2 f x3 M) (fun x3 M r h => ih x3 M r h) FU x3 0 _ _ h)
theorem fr_X0_repaint (a1 : Nat) (a2 : Nat) : ∀ (M : PM) (r : Int32 × PM), f_X0_repaint a1 a2 M = some r → hr_fr hW_X0_repaint M r.2 := by
  intro M r h
  unfold f_X0_repaint at h
  refine hr_Fg h (fun _ h => ?_)
  refine hr_Fg h (fun _ h => ?_)
  exact hr_fr.tr (hr_fr.rf _ M) (fr_X0_repaint_7 a1 a2 FU ((M.1 a2 0) - 1) _ _ h)
def hW_X0_enqueue : List (Nat × Nat) := [(257, 7), (261, 0), (262, 0), (263, 0)]
theorem fr_X0_enqueue (a1 : Int32) (a2 : Int32) (a3 : Int32) : ∀ (M : PM) (r : Unit × PM), f_X0_enqueue a1 a2 a3 M = some r → hr_fr hW_X0_enqueue M r.2 := by
  intro M r h
  unfold f_X0_enqueue at h
  refine hr_Fi h (fun _ h => ?_) (fun _ h => ?_)
  · cases h
    exact (hr_fr.rf _ M)
  · refine hr_Fg h (fun _ h => ?_)
    refine hr_Fg h (fun _ h => ?_)
    refine hr_Fg h (fun _ h => ?_)
    cases h
    exact (hr_fr.si rfl (hr_fr.si rfl (hr_fr.si rfl (hr_fr.si rfl (hr_fr.rf _ M)))))
def hW_X4_foesOfColour : List (Nat × Nat) := []
theorem fr_X4_foesOfColour (a0 : Nat) (a1 : Int32) (a2 : Int32) (a3 : Int32) : ∀ (M : PM) (r : Int32 × PM), f_X4_foesOfColour a0 a1 a2 a3 M = some r → hr_fr hW_X4_foesOfColour M r.2 := by
  intro M r h
  unfold f_X4_foesOfColour at h
  refine hr_Fg h (fun _ h => ?_)
  refine hr_Fg h (fun _ h => ?_)
  refine hr_Fg h (fun _ h => ?_)
  refine hr_Fg h (fun _ h => ?_)
  refine hr_Fg h (fun _ h => ?_)
  refine hr_Fg h (fun _ h => ?_)
  refine hr_Fg h (fun _ h => ?_)
  refine hr_Fg h (fun _ h => ?_)
  cases h
  exact (hr_fr.rf _ M)
def hW_X0_pour : List (Nat × Nat) := [(257, 10), (257, 7), (257, 8), (257, 9), (260, 0), (261, 0), (262, 0), (263, 0)]
theorem fr_X0_pour_115 (a1 : Nat) (a2 : Int32) (a3 : Int32) (a4 : Int32) (x5 : Int32) (x6 : Int32) (x7 : Int32) (x8 : Int32) (s0 : Int32) : ∀ (M : PM) (r : Int32 × PM), f_X0_pour_115 a1 a2 a3 a4 x5 x6 x7 x8 s0 M = some r → hr_fr hW_X0_pour M r.2 := by
  intro M r h
  unfold f_X0_pour_115 at h
  refine hr_Fg h (fun _ h => ?_)
  refine hr_Fb h (fun v2 M2 e h => ?_)
  have FM2 : hr_fr hW_X0_pour M M2 := hr_fr.tr (hr_fr.rf _ M) (hr_fr.mono (W := hW_X0_enqueue) rfl (fr_X0_enqueue x8 ((M.1 262 a2.toNatClampNeg) + 1) s0 _ _ e))
  refine hr_Fb h (fun v4 M4 e h => ?_)
  have FM4 : hr_fr hW_X0_pour M M4 := hr_fr.tr FM2 (hr_fr.mono (W := hW_X4_foesOfColour) rfl (fr_X4_foesOfColour a1 x5 x6 x7 _ _ e))
  refine hr_Fi h (fun _ h => ?_) (fun _ h => ?_)
  · refine hr_Fg h (fun _ h => ?_)
    cases h
    exact (hr_fr.si rfl (hr_fr.si rfl (hr_fr.si rfl FM4)))
  · cases h
    exact FM4
theorem fr_X0_pour (a1 : Nat) (a2 : Int32) (a3 : Int32) (a4 : Int32) : ∀ (M : PM) (r : Int32 × PM), f_X0_pour a1 a2 a3 a4 M = some r → hr_fr hW_X0_pour M r.2 := by
  intro M r h
  unfold f_X0_pour at h
  refine hr_Fg h (fun _ h => ?_)
  refine hr_Fg h (fun _ h => ?_)
  refine hr_Fb h (fun v2 M2 e h => ?_)
  have FM2 : hr_fr hW_X0_pour M M2 := hr_fr.tr (hr_fr.rf _ M) (hr_fr.mono (W := hW_X4_part) rfl (fr_X4_part a1 a3 0 _ _ e))
  refine hr_Fg h (fun _ h => ?_)
  refine hr_Fb h (fun v4 M4 e h => ?_)
  have FM4 : hr_fr hW_X0_pour M M4 := hr_fr.tr FM2 (hr_fr.mono (W := hW_X4_part) rfl (fr_X4_part a1 a3 1 _ _ e))
  refine hr_Fg h (fun _ h => ?_)
  refine hr_Fb h (fun v6 M6 e h => ?_)
  have FM6 : hr_fr hW_X0_pour M M6 := hr_fr.tr FM4 (hr_fr.mono (W := hW_X4_part) rfl (fr_X4_part a1 a3 2 _ _ e))
  refine hr_Fg h (fun _ h => ?_)
  refine hr_Fi h (fun _ h => ?_) (fun _ h => ?_)
  · refine hr_Fg h (fun _ h => ?_)
    refine hr_Fg h (fun _ h => ?_)
    refine hr_Fi h (fun _ h => ?_) (fun _ h => ?_)
    · exact hr_fr.tr (hr_fr.si rfl FM6) (fr_X0_pour_115 a1 a2 a3 a4 (jr (((M.1 261 a2.toNatClampNeg) / 100) + v2) 10) (jr (((M2.1 261 a2.toNatClampNeg) / 10) + v4) 10) (jr ((M4.1 261 a2.toNatClampNeg) + v6) 10) (((100 * (jr (((M.1 261 a2.toNatClampNeg) / 100) + v2) 10)) + (10 * (jr (((M2.1 261 a2.toNatClampNeg) / 10) + v4) 10))) + (jr ((M4.1 261 a2.toNatClampNeg) + v6) 10)) a3 _ _ h)
    · refine hr_Fg h (fun _ h => ?_)
      exact hr_fr.tr (hr_fr.si rfl FM6) (fr_X0_pour_115 a1 a2 a3 a4 (jr (((M.1 261 a2.toNatClampNeg) / 100) + v2) 10) (jr (((M2.1 261 a2.toNatClampNeg) / 10) + v4) 10) (jr ((M4.1 261 a2.toNatClampNeg) + v6) 10) (((100 * (jr (((M.1 261 a2.toNatClampNeg) / 100) + v2) 10)) + (10 * (jr (((M2.1 261 a2.toNatClampNeg) / 10) + v4) 10))) + (jr ((M4.1 261 a2.toNatClampNeg) + v6) 10)) ((hr_si M6 260 (((100 * (jr (((M.1 261 a2.toNatClampNeg) / 100) + v2) 10)) + (10 * (jr (((M2.1 261 a2.toNatClampNeg) / 10) + v4) 10))) + (jr ((M4.1 261 a2.toNatClampNeg) + v6) 10)).toNatClampNeg (vp_nar .boolean 1)).1 263 a2.toNatClampNeg) _ _ h)
  · cases h
    exact FM6
def hW_X0_blend : List (Nat × Nat) := [(257, 10), (257, 7), (257, 8), (257, 9), (260, 0), (261, 0), (262, 0), (263, 0)]
theorem fr_X0_blend_115 (a1 : Nat) (a2 : Int32) (a3 : Int32) (k95 : Int32 → PM → Option (Int32 × PM)) (hk95 : ∀ (y0 : Int32) (M : PM) (r : Int32 × PM), k95 y0 M = some r → hr_fr hW_X0_blend M r.2) : ∀ (f : Nat) (x4 : Int32) (x5 : Int32) (M : PM) (r : Int32 × PM), f_X0_blend_115 a1 a2 a3 k95 f x4 x5 M = some r → hr_fr hW_X0_blend M r.2 := by
  intro f
  induction f with
  | zero => intro x4 x5 M r h; cases h
  | succ f ih =>
    intro x4 x5 M r h
    rw [f_X0_blend_115.eq_2] at h
    refine hr_Fi h (fun _ h => ?_) (fun _ h => ?_)
    · exact hr_fr.tr (hr_fr.rf _ M) (hk95 (x4 + 1) _ _ h)
    · refine hr_Fb h (fun v4 M4 e h => ?_)
      have FM4 : hr_fr hW_X0_blend M M4 := hr_fr.tr (hr_fr.rf _ M) (hr_fr.mono (W := hW_X0_pour) rfl (fr_X0_pour a1 x4 x5 a3 _ _ e))
      refine hr_Fi h (fun _ h => ?_) (fun _ h => ?_)
      · exact hr_fr.tr FM4 (ih x4 (x5 + 1) _ _ h)
      · cases h
        exact FM4
theorem fr_X0_blend_95 (a1 : Nat) (a2 : Int32) (a3 : Int32) : ∀ (f : Nat) (x4 : Int32) (M : PM) (r : Int32 × PM), f_X0_blend_95 a1 a2 a3 f x4 M = some r → hr_fr hW_X0_blend M r.2 := by
  intro f
  induction f with
  | zero => intro x4 M r h; cases h
  | succ f ih =>
    intro x4 M r h
    rw [f_X0_blend_95.eq_2] at h
    refine hr_Fi h (fun _ h => ?_) (fun _ h => ?_)
    · cases h
      exact (hr_fr.rf _ M)
    · refine hr_Fi h (fun _ h => ?_) (fun _ h => ?_)
      · cases h
        exact (hr_fr.rf _ M)
      · exact hr_fr.tr (hr_fr.rf _ M) (fr_X0_blend_115 a1 a2 a3 (fun x4 M => f_X0_blend_95 a1 a2 a3 f x4 M) (fun x4 M r h => ih x4 M r h) FU x4 0 _ _ h)
theorem fr_X0_blend_55 (a1 : Nat) (a2 : Int32) (a3 : Int32) : ∀ (f : Nat) (x4 : Int32) (M : PM) (r : Int32 × PM), f_X0_blend_55 a1 a2 a3 f x4 M = some r → hr_fr hW_X0_blend M r.2 := by
  intro f
  induction f with
  | zero => intro x4 M r h; cases h
  | succ f ih =>
    intro x4 M r h
    rw [f_X0_blend_55.eq_2] at h
    refine hr_Fi h (fun _ h => ?_) (fun _ h => ?_)
    · refine hr_Fb h (fun v3 M3 e h => ?_)
      have FM3 : hr_fr hW_X0_blend M M3 := hr_fr.tr (hr_fr.si rfl (hr_fr.rf _ M)) (hr_fr.mono (W := hW_X0_enqueue) rfl (fr_X0_enqueue ((hr_si M 257 6 0).1 257 9) 0 (-1) _ _ e))
      exact hr_fr.tr FM3 (fr_X0_blend_95 a1 a2 a3 FU 0 _ _ h)
    · refine hr_Fg h (fun _ h => ?_)
      exact hr_fr.tr (hr_fr.si rfl (hr_fr.rf _ M)) (ih (x4 + 1) _ _ h)
theorem fr_X0_blend (a1 : Nat) (a2 : Int32) (a3 : Int32) : ∀ (M : PM) (r : Int32 × PM), f_X0_blend a1 a2 a3 M = some r → hr_fr hW_X0_blend M r.2 := by
  intro M r h
  unfold f_X0_blend at h
  refine hr_Fg h (fun _ h => ?_)
  refine hr_Fb h (fun v2 M2 e h => ?_)
  have FM2 : hr_fr hW_X0_blend M M2 := hr_fr.tr (hr_fr.rf _ M) (hr_fr.mono (W := hW_X4_part) rfl (fr_X4_part a1 a2 0 _ _ e))
  refine hr_Fb h (fun v4 M4 e h => ?_)
  have FM4 : hr_fr hW_X0_blend M M4 := hr_fr.tr FM2 (hr_fr.mono (W := hW_X4_part) rfl (fr_X4_part a1 a2 1 _ _ e))
  refine hr_Fb h (fun v6 M6 e h => ?_)
  have FM6 : hr_fr hW_X0_blend M M6 := hr_fr.tr FM4 (hr_fr.mono (W := hW_X4_part) rfl (fr_X4_part a1 a2 2 _ _ e))
  refine hr_Fb h (fun v8 M8 e h => ?_)
  have FM8 : hr_fr hW_X0_blend M M8 := hr_fr.tr (hr_fr.si rfl (hr_fr.si rfl (hr_fr.si rfl FM6))) (hr_fr.mono (W := hW_X4_foesOf) rfl (fr_X4_foesOf a1 a2 _ _ e))
  refine hr_Fi h (fun _ h => ?_) (fun _ h => ?_)
  · cases h
    exact FM8
  · exact hr_fr.tr FM8 (fr_X0_blend_55 a1 a2 a3 FU 0 _ _ h)
def hW_X1_forget : List (Nat × Nat) := [(240, 14), (240, 9)]
theorem fr_X1_forget  : ∀ (M : PM) (r : Unit × PM), f_X1_forget M = some r → hr_fr hW_X1_forget M r.2 := by
  intro M r h
  unfold f_X1_forget at h
  cases h
  exact (hr_fr.si rfl (hr_fr.si rfl (hr_fr.rf _ M)))
def hW_X4_strengthOf : List (Nat × Nat) := []
theorem fr_X4_strengthOf (a0 : Nat) (a1 : Int32) (a2 : Int32) : ∀ (M : PM) (r : Int32 × PM), f_X4_strengthOf a0 a1 a2 M = some r → hr_fr hW_X4_strengthOf M r.2 := by
  intro M r h
  unfold f_X4_strengthOf at h
  refine hr_Fg h (fun _ h => ?_)
  refine hr_Fg h (fun _ h => ?_)
  cases h
  exact (hr_fr.rf _ M)
def hW_X1_findFoes : List (Nat × Nat) := [(243, 0)]
theorem fr_X1_findFoes_19 (a1 : Nat) (k2 : Int32 → PM → Option (Unit × PM)) (hk2 : ∀ (y0 : Int32) (M : PM) (r : Unit × PM), k2 y0 M = some r → hr_fr hW_X1_findFoes M r.2) : ∀ (f : Nat) (x2 : Int32) (x3 : Int32) (M : PM) (r : Unit × PM), f_X1_findFoes_19 a1 k2 f x2 x3 M = some r → hr_fr hW_X1_findFoes M r.2 := by
  intro f
  induction f with
  | zero => intro x2 x3 M r h; cases h
  | succ f ih =>
    intro x2 x3 M r h
    rw [f_X1_findFoes_19.eq_2] at h
    refine hr_Fi h (fun _ h => ?_) (fun _ h => ?_)
    · exact hr_fr.tr (hr_fr.rf _ M) (hk2 (x2 + 1) _ _ h)
    · refine hr_Fg h (fun _ h => ?_)
      refine hr_Fg h (fun _ h => ?_)
      refine hr_Fb h (fun v4 M4 e h => ?_)
      have FM4 : hr_fr hW_X1_findFoes M M4 := hr_fr.tr (hr_fr.rf _ M) (hr_fr.mono (W := hW_X4_strengthOf) rfl (fr_X4_strengthOf a1 (M.1 241 x2.toNatClampNeg) (M.1 241 x3.toNatClampNeg) _ _ e))
      refine hr_Fi h (fun _ h => ?_) (fun _ h => ?_)
      · exact hr_fr.tr FM4 (ih x2 (x3 + 1) _ _ h)
      · refine hr_Fg h (fun _ h => ?_)
        refine hr_Fg h (fun _ h => ?_)
        exact hr_fr.tr (hr_fr.si rfl FM4) (ih x2 (x3 + 1) _ _ h)
theorem fr_X1_findFoes_2 (a1 : Nat) : ∀ (f : Nat) (x2 : Int32) (M : PM) (r : Unit × PM), f_X1_findFoes_2 a1 f x2 M = some r → hr_fr hW_X1_findFoes M r.2 := by
  intro f
  induction f with
  | zero => intro x2 M r h; cases h
  | succ f ih =>
    intro x2 M r h
    rw [f_X1_findFoes_2.eq_2] at h
    refine hr_Fi h (fun _ h => ?_) (fun _ h => ?_)
    · cases h
      exact (hr_fr.rf _ M)
    · refine hr_Fg h (fun _ h => ?_)
      exact hr_fr.tr (hr_fr.si rfl (hr_fr.rf _ M)) (fr_X1_findFoes_19 a1 (fun x2 M => f_X1_findFoes_2 a1 f x2 M) (fun x2 M r h => ih x2 M r h) FU x2 0 _ _ h)
theorem fr_X1_findFoes (a1 : Nat) : ∀ (M : PM) (r : Unit × PM), f_X1_findFoes a1 M = some r → hr_fr hW_X1_findFoes M r.2 := by
  intro M r h
  unfold f_X1_findFoes at h
  refine hr_Fg h (fun _ h => ?_)
  exact hr_fr.tr (hr_fr.rf _ M) (fr_X1_findFoes_2 a1 FU 0 _ _ h)
def hW_X1_join : List (Nat × Nat) := [(240, 1), (241, 0), (242, 0)]
theorem fr_X1_join (a1 : Int32) (a2 : Int32) : ∀ (M : PM) (r : Unit × PM), f_X1_join a1 a2 M = some r → hr_fr hW_X1_join M r.2 := by
  intro M r h
  unfold f_X1_join at h
  refine hr_Fi h (fun _ h => ?_) (fun _ h => ?_)
  · cases h
    exact (hr_fr.rf _ M)
  · refine hr_Fg h (fun _ h => ?_)
    refine hr_Fg h (fun _ h => ?_)
    cases h
    exact (hr_fr.si rfl (hr_fr.si rfl (hr_fr.si rfl (hr_fr.rf _ M))))
def hW_X1_gatherHues : List (Nat × Nat) := [(240, 1), (241, 0), (242, 0), (243, 0)]
theorem fr_X1_gatherHues_7 (a1 : Nat) (a2 : Int32) : ∀ (f : Nat) (x3 : Int32) (M : PM) (r : Unit × PM), f_X1_gatherHues_7 a1 a2 f x3 M = some r → hr_fr hW_X1_gatherHues M r.2 := by
  intro f
  induction f with
  | zero => intro x3 M r h; cases h
  | succ f ih =>
    intro x3 M r h
    rw [f_X1_gatherHues_7.eq_2] at h
    refine hr_Fi h (fun _ h => ?_) (fun _ h => ?_)
    · refine hr_Fb h (fun v3 M3 e h => ?_)
      have FM3 : hr_fr hW_X1_gatherHues M M3 := hr_fr.tr (hr_fr.rf _ M) (hr_fr.mono (W := hW_X1_findFoes) rfl (fr_X1_findFoes a1 _ _ e))
      cases h
      exact FM3
    · refine hr_Fb h (fun v5 M5 e h => ?_)
      have FM5 : hr_fr hW_X1_gatherHues M M5 := hr_fr.tr (hr_fr.rf _ M) (hr_fr.mono (W := hW_X10_holdsBit) rfl (fr_X10_holdsBit a2 x3 _ _ e))
      refine hr_Fi h (fun _ h => ?_) (fun _ h => ?_)
      · exact hr_fr.tr FM5 (ih (x3 + 1) _ _ h)
      · refine hr_Fb h (fun v9 M9 e h => ?_)
        have FM9 : hr_fr hW_X1_gatherHues M M9 := hr_fr.tr FM5 (hr_fr.mono (W := hW_X1_join) rfl (fr_X1_join x3 x3 _ _ e))
        exact hr_fr.tr FM9 (ih (x3 + 1) _ _ h)
theorem fr_X1_gatherHues (a1 : Nat) (a2 : Int32) : ∀ (M : PM) (r : Unit × PM), f_X1_gatherHues a1 a2 M = some r → hr_fr hW_X1_gatherHues M r.2 := by
  intro M r h
  unfold f_X1_gatherHues at h
  refine hr_Fg h (fun _ h => ?_)
  exact hr_fr.tr (hr_fr.si rfl (hr_fr.rf _ M)) (fr_X1_gatherHues_7 a1 a2 FU 0 _ _ h)
def hW_X1_gatherPictures : List (Nat × Nat) := [(240, 1), (241, 0), (242, 0), (243, 0)]
theorem fr_X1_gatherPictures_7 (a1 : Nat) (a2 : Nat) : ∀ (f : Nat) (x3 : Int32) (M : PM) (r : Unit × PM), f_X1_gatherPictures_7 a1 a2 f x3 M = some r → hr_fr hW_X1_gatherPictures M r.2 := by
  intro f
  induction f with
  | zero => intro x3 M r h; cases h
  | succ f ih =>
    intro x3 M r h
    rw [f_X1_gatherPictures_7.eq_2] at h
    refine hr_Fi h (fun _ h => ?_) (fun _ h => ?_)
    · refine hr_Fb h (fun v3 M3 e h => ?_)
      have FM3 : hr_fr hW_X1_gatherPictures M M3 := hr_fr.tr (hr_fr.rf _ M) (hr_fr.mono (W := hW_X1_findFoes) rfl (fr_X1_findFoes a1 _ _ e))
      cases h
      exact FM3
    · refine hr_Fg h (fun _ h => ?_)
      refine hr_Fb h (fun v5 M5 e h => ?_)
      have FM5 : hr_fr hW_X1_gatherPictures M M5 := hr_fr.tr (hr_fr.rf _ M) (hr_fr.mono (W := hW_X1_join) rfl (fr_X1_join x3 (M.1 (a2 + 2) x3.toNatClampNeg) _ _ e))
      exact hr_fr.tr FM5 (ih (x3 + 1) _ _ h)
theorem fr_X1_gatherPictures (a1 : Nat) (a2 : Nat) : ∀ (M : PM) (r : Unit × PM), f_X1_gatherPictures a1 a2 M = some r → hr_fr hW_X1_gatherPictures M r.2 := by
  intro M r h
  unfold f_X1_gatherPictures at h
  refine hr_Fg h (fun _ h => ?_)
  refine hr_Fg h (fun _ h => ?_)
  exact hr_fr.tr (hr_fr.si rfl (hr_fr.rf _ M)) (fr_X1_gatherPictures_7 a1 a2 FU 0 _ _ h)
def hW_X1_everyone : List (Nat × Nat) := []
theorem fr_X1_everyone  : ∀ (M : PM) (r : Int32 × PM), f_X1_everyone M = some r → hr_fr hW_X1_everyone M r.2 := by
  intro M r h
  unfold f_X1_everyone at h
  cases h
  exact (hr_fr.rf _ M)
def hW_X1_leastBeginner : List (Nat × Nat) := []
theorem fr_X1_leastBeginner_2 (a1 : Int32) (a2 : Int32) : ∀ (f : Nat) (x3 : Int32) (M : PM) (r : Int32 × PM), f_X1_leastBeginner_2 a1 a2 f x3 M = some r → hr_fr hW_X1_leastBeginner M r.2 := by
  intro f
  induction f with
  | zero => intro x3 M r h; cases h
  | succ f ih =>
    intro x3 M r h
    rw [f_X1_leastBeginner_2.eq_2] at h
    refine hr_Fi h (fun _ h => ?_) (fun _ h => ?_)
    · cases h
      exact (hr_fr.rf _ M)
    · refine hr_Fb h (fun v4 M4 e h => ?_)
      have FM4 : hr_fr hW_X1_leastBeginner M M4 := hr_fr.tr (hr_fr.rf _ M) (hr_fr.mono (W := hW_X10_holdsBit) rfl (fr_X10_holdsBit a2 x3 _ _ e))
      refine hr_Fi h (fun _ h => ?_) (fun _ h => ?_)
      · exact hr_fr.tr FM4 (ih (x3 + 1) _ _ h)
      · refine hr_Fg h (fun _ h => ?_)
        refine hr_Fi h (fun _ h => ?_) (fun _ h => ?_)
        · exact hr_fr.tr FM4 (ih (x3 + 1) _ _ h)
        · cases h
          exact FM4
theorem fr_X1_leastBeginner (a1 : Int32) (a2 : Int32) : ∀ (M : PM) (r : Int32 × PM), f_X1_leastBeginner a1 a2 M = some r → hr_fr hW_X1_leastBeginner M r.2 := by
  intro M r h
  unfold f_X1_leastBeginner at h
  exact hr_fr.tr (hr_fr.rf _ M) (fr_X1_leastBeginner_2 a1 a2 FU 0 _ _ h)
def hW_X1_findFirstOrder : List (Nat × Nat) := [(240, 7), (245, 0)]
theorem fr_X1_findFirstOrder_14  : ∀ (f : Nat) (x1 : Int32) (x2 : Int32) (x3 : Int32) (M : PM) (r : Unit × PM), f_X1_findFirstOrder_14 f x1 x2 x3 M = some r → hr_fr hW_X1_findFirstOrder M r.2 := by
  intro f
  induction f with
  | zero => intro x1 x2 x3 M r h; cases h
  | succ f ih =>
    intro x1 x2 x3 M r h
    rw [f_X1_findFirstOrder_14.eq_2] at h
    refine hr_Fi h (fun _ h => ?_) (fun _ h => ?_)
    · cases h
      exact (hr_fr.rf _ M)
    · refine hr_Fi h (fun _ h => ?_) (fun _ h => ?_)
      · cases h
        exact (hr_fr.rf _ M)
      · refine hr_Fb h (fun v4 M4 e h => ?_)
        have FM4 : hr_fr hW_X1_findFirstOrder M M4 := hr_fr.tr (hr_fr.rf _ M) (hr_fr.mono (W := hW_X1_leastBeginner) rfl (fr_X1_leastBeginner x1 x2 _ _ e))
        refine hr_Fi h (fun _ h => ?_) (fun _ h => ?_)
        · cases h
          exact FM4
        · refine hr_Fg h (fun _ h => ?_)
          refine hr_Fg h (fun _ h => ?_)
          refine hr_Fg h (fun _ h => ?_)
          exact hr_fr.tr (hr_fr.si rfl (hr_fr.si rfl FM4)) (ih (x1 &&& ((jl 1 v4) ^^^ (-1))) ((x1 &&& ((jl 1 v4) ^^^ (-1))) &&& (((hr_si (hr_si M4 245 (M4.1 240 6).toNatClampNeg (M4.1 242 v4.toNatClampNeg)) 240 6 (((hr_si M4 245 (M4.1 240 6).toNatClampNeg (M4.1 242 v4.toNatClampNeg)).1 240 6) + 1)).1 243 v4.toNatClampNeg) ^^^ (-1))) (x3 + 1) _ _ h)
theorem fr_X1_findFirstOrder  : ∀ (M : PM) (r : Unit × PM), f_X1_findFirstOrder M = some r → hr_fr hW_X1_findFirstOrder M r.2 := by
  intro M r h
  unfold f_X1_findFirstOrder at h
  refine hr_Fb h (fun v2 M2 e h => ?_)
  have FM2 : hr_fr hW_X1_findFirstOrder M M2 := hr_fr.tr (hr_fr.si rfl (hr_fr.rf _ M)) (hr_fr.mono (W := hW_X1_everyone) rfl (fr_X1_everyone  _ _ e))
  exact hr_fr.tr FM2 (fr_X1_findFirstOrder_14 FU v2 v2 0 _ _ h)
def hW_X1_ordersBegunBy : List (Nat × Nat) := []
theorem fr_X1_ordersBegunBy_32 (a1 : Int32) (a2 : Int32) : ∀ (f : Nat) (x3 : Int32) (x4 : Int32) (x5 : Int32) (x6 : Int32) (M : PM) (r : Int32 × PM), f_X1_ordersBegunBy_32 a1 a2 f x3 x4 x5 x6 M = some r → hr_fr hW_X1_ordersBegunBy M r.2 := by
  intro f
  induction f with
  | zero => intro x3 x4 x5 x6 M r h; cases h
  | succ f ih =>
    intro x3 x4 x5 x6 M r h
    rw [f_X1_ordersBegunBy_32.eq_2] at h
    refine hr_Fi h (fun _ h => ?_) (fun _ h => ?_)
    · cases h
      exact (hr_fr.rf _ M)
    · refine hr_Fb h (fun v4 M4 e h => ?_)
      have FM4 : hr_fr hW_X1_ordersBegunBy M M4 := hr_fr.tr (hr_fr.rf _ M) (hr_fr.mono (W := hW_X10_holdsBit) rfl (fr_X10_holdsBit x4 x6 _ _ e))
      refine hr_Fi h (fun _ h => ?_) (fun _ h => ?_)
      · exact hr_fr.tr FM4 (ih x3 x4 x5 (x6 + 1) _ _ h)
      · refine hr_Fg h (fun _ h => ?_)
        exact hr_fr.tr FM4 (ih x3 x4 (x5 + (M4.1 244 ((10 * x3) + x6).toNatClampNeg)) (x6 + 1) _ _ h)
theorem fr_X1_ordersBegunBy (a1 : Int32) (a2 : Int32) : ∀ (M : PM) (r : Int32 × PM), f_X1_ordersBegunBy a1 a2 M = some r → hr_fr hW_X1_ordersBegunBy M r.2 := by
  intro M r h
  unfold f_X1_ordersBegunBy at h
  refine hr_Fi h (fun _ h => ?_) (fun _ h => ?_)
  · cases h
    exact (hr_fr.rf _ M)
  · refine hr_Fg h (fun _ h => ?_)
    exact hr_fr.tr (hr_fr.rf _ M) (fr_X1_ordersBegunBy_32 a1 a2 FU (a1 &&& ((jl 1 a2) ^^^ (-1))) ((a1 &&& ((jl 1 a2) ^^^ (-1))) &&& ((M.1 243 a2.toNatClampNeg) ^^^ (-1))) 0 0 _ _ h)
def hW_X1_lineUp : List (Nat × Nat) := [(240, 7), (240, 8), (244, 0), (245, 0)]
theorem fr_X1_lineUp_75  : ∀ (f : Nat) (x1 : Int32) (M : PM) (r : Unit × PM), f_X1_lineUp_75 f x1 M = some r → hr_fr hW_X1_lineUp M r.2 := by
  intro f
  induction f with
  | zero => intro x1 M r h; cases h
  | succ f ih =>
    intro x1 M r h
    rw [f_X1_lineUp_75.eq_2] at h
    refine hr_Fi h (fun _ h => ?_) (fun _ h => ?_)
    · refine hr_Fb h (fun v3 M3 e h => ?_)
      have FM3 : hr_fr hW_X1_lineUp M M3 := hr_fr.tr (hr_fr.rf _ M) (hr_fr.mono (W := hW_X1_findFirstOrder) rfl (fr_X1_findFirstOrder  _ _ e))
      cases h
      exact FM3
    · refine hr_Fb h (fun v5 M5 e h => ?_)
      have FM5 : hr_fr hW_X1_lineUp M M5 := hr_fr.tr (hr_fr.rf _ M) (hr_fr.mono (W := hW_X1_everyone) rfl (fr_X1_everyone  _ _ e))
      refine hr_Fg h (fun _ h => ?_)
      exact hr_fr.tr (hr_fr.si rfl FM5) (ih (x1 + 1) _ _ h)
theorem fr_X1_lineUp_12 (k2 : Int32 → PM → Option (Unit × PM)) (hk2 : ∀ (y0 : Int32) (M : PM) (r : Unit × PM), k2 y0 M = some r → hr_fr hW_X1_lineUp M r.2) : ∀ (f : Nat) (x1 : Int32) (x2 : Int32) (M : PM) (r : Unit × PM), f_X1_lineUp_12 k2 f x1 x2 M = some r → hr_fr hW_X1_lineUp M r.2 := by
  intro f
  induction f with
  | zero => intro x1 x2 M r h; cases h
  | succ f ih =>
    intro x1 x2 M r h
    rw [f_X1_lineUp_12.eq_2] at h
    refine hr_Fi h (fun _ h => ?_) (fun _ h => ?_)
    · exact hr_fr.tr (hr_fr.rf _ M) (hk2 (x1 + 1) _ _ h)
    · refine hr_Fb h (fun v4 M4 e h => ?_)
      have FM4 : hr_fr hW_X1_lineUp M M4 := hr_fr.tr (hr_fr.rf _ M) (hr_fr.mono (W := hW_X10_holdsBit) rfl (fr_X10_holdsBit x1 x2 _ _ e))
      refine hr_Fi h (fun _ h => ?_) (fun _ h => ?_)
      · exact hr_fr.tr FM4 (ih x1 (x2 + 1) _ _ h)
      · refine hr_Fb h (fun v8 M8 e h => ?_)
        have FM8 : hr_fr hW_X1_lineUp M M8 := hr_fr.tr FM4 (hr_fr.mono (W := hW_X1_ordersBegunBy) rfl (fr_X1_ordersBegunBy x1 x2 _ _ e))
        refine hr_Fg h (fun _ h => ?_)
        exact hr_fr.tr (hr_fr.si rfl FM8) (ih x1 (x2 + 1) _ _ h)
theorem fr_X1_lineUp_2  : ∀ (f : Nat) (x1 : Int32) (M : PM) (r : Unit × PM), f_X1_lineUp_2 f x1 M = some r → hr_fr hW_X1_lineUp M r.2 := by
  intro f
  induction f with
  | zero => intro x1 M r h; cases h
  | succ f ih =>
    intro x1 M r h
    rw [f_X1_lineUp_2.eq_2] at h
    refine hr_Fb h (fun v2 M2 e h => ?_)
    have FM2 : hr_fr hW_X1_lineUp M M2 := hr_fr.tr (hr_fr.rf _ M) (hr_fr.mono (W := hW_X1_everyone) rfl (fr_X1_everyone  _ _ e))
    refine hr_Fi h (fun _ h => ?_) (fun _ h => ?_)
    · refine hr_Fi h (fun _ h => ?_) (fun _ h => ?_)
      · exact hr_fr.tr (hr_fr.si rfl FM2) (fr_X1_lineUp_75 FU 0 _ _ h)
      · exact hr_fr.tr (hr_fr.si rfl FM2) (fr_X1_lineUp_75 FU 0 _ _ h)
    · exact hr_fr.tr FM2 (fr_X1_lineUp_12 (fun x1 M => f_X1_lineUp_2 f x1 M) (fun x1 M r h => ih x1 M r h) FU x1 0 _ _ h)
theorem fr_X1_lineUp  : ∀ (M : PM) (r : Unit × PM), f_X1_lineUp M = some r → hr_fr hW_X1_lineUp M r.2 := by
  intro M r h
  unfold f_X1_lineUp at h
  exact hr_fr.tr (hr_fr.rf _ M) (fr_X1_lineUp_2 FU 1 _ _ h)
def hW_X1_placed : List (Nat × Nat) := []
theorem fr_X1_placed (a1 : Int32) : ∀ (M : PM) (r : Int32 × PM), f_X1_placed a1 M = some r → hr_fr hW_X1_placed M r.2 := by
  intro M r h
  unfold f_X1_placed at h
  refine hr_Fi h (fun _ h => ?_) (fun _ h => ?_)
  · cases h
    exact (hr_fr.rf _ M)
  · refine hr_Fi h (fun _ h => ?_) (fun _ h => ?_)
    · cases h
      exact (hr_fr.rf _ M)
    · refine hr_Fg h (fun _ h => ?_)
      cases h
      exact (hr_fr.rf _ M)
def hW_X10_leastOf : List (Nat × Nat) := []
theorem fr_X10_leastOf_2 (a0 : Int32) : ∀ (f : Nat) (x1 : Int32) (M : PM) (r : Int32 × PM), f_X10_leastOf_2 a0 f x1 M = some r → hr_fr hW_X10_leastOf M r.2 := by
  intro f
  induction f with
  | zero => intro x1 M r h; cases h
  | succ f ih =>
    intro x1 M r h
    rw [f_X10_leastOf_2.eq_2] at h
    refine hr_Fi h (fun _ h => ?_) (fun _ h => ?_)
    · cases h
      exact (hr_fr.rf _ M)
    · refine hr_Fb h (fun v4 M4 e h => ?_)
      have FM4 : hr_fr hW_X10_leastOf M M4 := hr_fr.tr (hr_fr.rf _ M) (hr_fr.mono (W := hW_X10_holdsBit) rfl (fr_X10_holdsBit a0 x1 _ _ e))
      refine hr_Fi h (fun _ h => ?_) (fun _ h => ?_)
      · exact hr_fr.tr FM4 (ih (x1 + 1) _ _ h)
      · cases h
        exact FM4
theorem fr_X10_leastOf (a0 : Int32) : ∀ (M : PM) (r : Int32 × PM), f_X10_leastOf a0 M = some r → hr_fr hW_X10_leastOf M r.2 := by
  intro M r h
  unfold f_X10_leastOf at h
  exact hr_fr.tr (hr_fr.rf _ M) (fr_X10_leastOf_2 a0 FU 0 _ _ h)
def hW_X1_findQuiet : List (Nat × Nat) := [(247, 0)]
theorem fr_X1_findQuiet_9  : ∀ (f : Nat) (x1 : Int32) (M : PM) (r : Unit × PM), f_X1_findQuiet_9 f x1 M = some r → hr_fr hW_X1_findQuiet M r.2 := by
  intro f
  induction f with
  | zero => intro x1 M r h; cases h
  | succ f ih =>
    intro x1 M r h
    rw [f_X1_findQuiet_9.eq_2] at h
    refine hr_Fb h (fun v2 M2 e h => ?_)
    have FM2 : hr_fr hW_X1_findQuiet M M2 := hr_fr.tr (hr_fr.rf _ M) (hr_fr.mono (W := hW_X1_everyone) rfl (fr_X1_everyone  _ _ e))
    refine hr_Fi h (fun _ h => ?_) (fun _ h => ?_)
    · cases h
      exact FM2
    · refine hr_Fg h (fun _ h => ?_)
      refine hr_Fi h (fun _ h => ?_) (fun _ h => ?_)
      · refine hr_Fg h (fun _ h => ?_)
        exact hr_fr.tr (hr_fr.si rfl FM2) (ih (x1 + 1) _ _ h)
      · refine hr_Fb h (fun v8 M8 e h => ?_)
        have FM8 : hr_fr hW_X1_findQuiet M M8 := hr_fr.tr FM2 (hr_fr.mono (W := hW_X10_leastOf) rfl (fr_X10_leastOf x1 _ _ e))
        refine hr_Fg h (fun _ h => ?_)
        refine hr_Fi h (fun _ h => ?_) (fun _ h => ?_)
        · refine hr_Fg h (fun _ h => ?_)
          exact hr_fr.tr (hr_fr.si rfl FM8) (ih (x1 + 1) _ _ h)
        · refine hr_Fg h (fun _ h => ?_)
          exact hr_fr.tr (hr_fr.si rfl FM8) (ih (x1 + 1) _ _ h)
theorem fr_X1_findQuiet  : ∀ (M : PM) (r : Unit × PM), f_X1_findQuiet M = some r → hr_fr hW_X1_findQuiet M r.2 := by
  intro M r h
  unfold f_X1_findQuiet at h
  refine hr_Fg h (fun _ h => ?_)
  exact hr_fr.tr (hr_fr.si rfl (hr_fr.rf _ M)) (fr_X1_findQuiet_9 FU 1 _ _ h)
def hW_X1_fewestPartsOf : List (Nat × Nat) := []
theorem fr_X1_fewestPartsOf_62 (a1 : Int32) (k24 : Int32 → Int32 → Int32 → Int32 → Int32 → PM → Option (Int32 × PM)) (x2 : Int32) (x3 : Int32) (x4 : Int32) (x5 : Int32) (x6 : Int32) (hk24 : ∀ (y0 : Int32) (y1 : Int32) (y2 : Int32) (y3 : Int32) (y4 : Int32) (M : PM) (r : Int32 × PM), k24 y0 y1 y2 y3 y4 M = some r → hr_fr hW_X1_fewestPartsOf M r.2) : ∀ (M : PM) (r : Int32 × PM), f_X1_fewestPartsOf_62 a1 k24 x2 x3 x4 x5 x6 M = some r → hr_fr hW_X1_fewestPartsOf M r.2 := by
  intro M r h
  unfold f_X1_fewestPartsOf_62 at h
  refine hr_Fi h (fun _ h => ?_) (fun _ h => ?_)
  · cases h
    exact (hr_fr.rf _ M)
  · exact hr_fr.tr (hr_fr.rf _ M) (hk24 x2 x3 x4 ((x5 - 1) &&& x2) (x6 + 1) _ _ h)
theorem fr_X1_fewestPartsOf_24 (a1 : Int32) : ∀ (f : Nat) (x2 : Int32) (x3 : Int32) (x4 : Int32) (x5 : Int32) (x6 : Int32) (M : PM) (r : Int32 × PM), f_X1_fewestPartsOf_24 a1 f x2 x3 x4 x5 x6 M = some r → hr_fr hW_X1_fewestPartsOf M r.2 := by
  intro f
  induction f with
  | zero => intro x2 x3 x4 x5 x6 M r h; cases h
  | succ f ih =>
    intro x2 x3 x4 x5 x6 M r h
    rw [f_X1_fewestPartsOf_24.eq_2] at h
    refine hr_Fi h (fun _ h => ?_) (fun _ h => ?_)
    · cases h
      exact (hr_fr.rf _ M)
    · refine hr_Fg h (fun _ h => ?_)
      refine hr_Fi h (fun _ h => ?_) (fun _ h => ?_)
      · exact hr_fr.tr (hr_fr.rf _ M) (fr_X1_fewestPartsOf_62 a1 (fun x2 x3 x4 x5 x6 M => f_X1_fewestPartsOf_24 a1 f x2 x3 x4 x5 x6 M) x2 x3 x4 x5 x6 (fun x2 x3 x4 x5 x6 M r h => ih x2 x3 x4 x5 x6 M r h) _ _ h)
      · refine hr_Fg h (fun _ h => ?_)
        exact hr_fr.tr (hr_fr.rf _ M) (fr_X1_fewestPartsOf_62 a1 (fun x2 x3 x4 x5 x6 M => f_X1_fewestPartsOf_24 a1 f x2 x3 x4 x5 x6 M) x2 x3 (jn x4 (1 + (M.1 246 (x2 &&& (x5 ^^^ (-1))).toNatClampNeg))) x5 x6 (fun x2 x3 x4 x5 x6 M r h => ih x2 x3 x4 x5 x6 M r h) _ _ h)
theorem fr_X1_fewestPartsOf (a1 : Int32) : ∀ (M : PM) (r : Int32 × PM), f_X1_fewestPartsOf a1 M = some r → hr_fr hW_X1_fewestPartsOf M r.2 := by
  intro M r h
  unfold f_X1_fewestPartsOf at h
  exact hr_fr.tr (hr_fr.rf _ M) (fr_X1_fewestPartsOf_24 a1 FU (a1 &&& (a1 - 1)) (a1 &&& ((a1 &&& (a1 - 1)) ^^^ (-1))) (M.1 240 0) (a1 &&& (a1 - 1)) 0 _ _ h)
def hW_X1_fewestParts : List (Nat × Nat) := [(246, 0), (247, 0)]
theorem fr_X1_fewestParts_13  : ∀ (f : Nat) (x1 : Int32) (M : PM) (r : Int32 × PM), f_X1_fewestParts_13 f x1 M = some r → hr_fr hW_X1_fewestParts M r.2 := by
  intro f
  induction f with
  | zero => intro x1 M r h; cases h
  | succ f ih =>
    intro x1 M r h
    rw [f_X1_fewestParts_13.eq_2] at h
    refine hr_Fb h (fun v2 M2 e h => ?_)
    have FM2 : hr_fr hW_X1_fewestParts M M2 := hr_fr.tr (hr_fr.rf _ M) (hr_fr.mono (W := hW_X1_everyone) rfl (fr_X1_everyone  _ _ e))
    refine hr_Fi h (fun _ h => ?_) (fun _ h => ?_)
    · refine hr_Fb h (fun v5 M5 e h => ?_)
      have FM5 : hr_fr hW_X1_fewestParts M M5 := hr_fr.tr FM2 (hr_fr.mono (W := hW_X1_everyone) rfl (fr_X1_everyone  _ _ e))
      refine hr_Fg h (fun _ h => ?_)
      cases h
      exact FM5
    · refine hr_Fb h (fun v8 M8 e h => ?_)
      have FM8 : hr_fr hW_X1_fewestParts M M8 := hr_fr.tr FM2 (hr_fr.mono (W := hW_X1_fewestPartsOf) rfl (fr_X1_fewestPartsOf x1 _ _ e))
      refine hr_Fg h (fun _ h => ?_)
      exact hr_fr.tr (hr_fr.si rfl FM8) (ih (x1 + 1) _ _ h)
theorem fr_X1_fewestParts  : ∀ (M : PM) (r : Int32 × PM), f_X1_fewestParts M = some r → hr_fr hW_X1_fewestParts M r.2 := by
  intro M r h
  unfold f_X1_fewestParts at h
  refine hr_Fb h (fun v2 M2 e h => ?_)
  have FM2 : hr_fr hW_X1_fewestParts M M2 := hr_fr.tr (hr_fr.rf _ M) (hr_fr.mono (W := hW_X1_findQuiet) rfl (fr_X1_findQuiet  _ _ e))
  refine hr_Fg h (fun _ h => ?_)
  exact hr_fr.tr (hr_fr.si rfl FM2) (fr_X1_fewestParts_13 FU 1 _ _ h)
def hW_J6_bitCount_0f7a4 : List (Nat × Nat) := []
theorem fr_J6_bitCount_0f7a4 (a0 : Int32) : ∀ (M : PM) (r : Int32 × PM), f_J6_bitCount_0f7a4 a0 M = some r → hr_fr hW_J6_bitCount_0f7a4 M r.2 := by
  intro M r h
  unfold f_J6_bitCount_0f7a4 at h
  cases h
  exact (hr_fr.rf _ M)
def hW_X1_isQuarrel : List (Nat × Nat) := []
theorem fr_X1_isQuarrel_2 (a1 : Int32) : ∀ (f : Nat) (x2 : Int32) (M : PM) (r : Int32 × PM), f_X1_isQuarrel_2 a1 f x2 M = some r → hr_fr hW_X1_isQuarrel M r.2 := by
  intro f
  induction f with
  | zero => intro x2 M r h; cases h
  | succ f ih =>
    intro x2 M r h
    rw [f_X1_isQuarrel_2.eq_2] at h
    refine hr_Fi h (fun _ h => ?_) (fun _ h => ?_)
    · cases h
      exact (hr_fr.rf _ M)
    · refine hr_Fb h (fun v4 M4 e h => ?_)
      have FM4 : hr_fr hW_X1_isQuarrel M M4 := hr_fr.tr (hr_fr.rf _ M) (hr_fr.mono (W := hW_X10_holdsBit) rfl (fr_X10_holdsBit a1 x2 _ _ e))
      refine hr_Fi h (fun _ h => ?_) (fun _ h => ?_)
      · exact hr_fr.tr FM4 (ih (x2 + 1) _ _ h)
      · refine hr_Fg h (fun _ h => ?_)
        refine hr_Fi h (fun _ h => ?_) (fun _ h => ?_)
        · exact hr_fr.tr FM4 (ih (x2 + 1) _ _ h)
        · cases h
          exact FM4
theorem fr_X1_isQuarrel (a1 : Int32) : ∀ (M : PM) (r : Int32 × PM), f_X1_isQuarrel a1 M = some r → hr_fr hW_X1_isQuarrel M r.2 := by
  intro M r h
  unfold f_X1_isQuarrel at h
  exact hr_fr.tr (hr_fr.rf _ M) (fr_X1_isQuarrel_2 a1 FU 0 _ _ h)
def hW_X1_greatestQuarrel : List (Nat × Nat) := []
theorem fr_X1_greatestQuarrel_4  : ∀ (f : Nat) (x1 : Int32) (x2 : Int32) (M : PM) (r : Int32 × PM), f_X1_greatestQuarrel_4 f x1 x2 M = some r → hr_fr hW_X1_greatestQuarrel M r.2 := by
  intro f
  induction f with
  | zero => intro x1 x2 M r h; cases h
  | succ f ih =>
    intro x1 x2 M r h
    rw [f_X1_greatestQuarrel_4.eq_2] at h
    refine hr_Fb h (fun v2 M2 e h => ?_)
    have FM2 : hr_fr hW_X1_greatestQuarrel M M2 := hr_fr.tr (hr_fr.rf _ M) (hr_fr.mono (W := hW_X1_everyone) rfl (fr_X1_everyone  _ _ e))
    refine hr_Fi h (fun _ h => ?_) (fun _ h => ?_)
    · cases h
      exact FM2
    · refine hr_Fb h (fun v6 M6 e h => ?_)
      have FM6 : hr_fr hW_X1_greatestQuarrel M M6 := hr_fr.tr FM2 (hr_fr.mono (W := hW_J6_bitCount_0f7a4) rfl (fr_J6_bitCount_0f7a4 x2 _ _ e))
      refine hr_Fb h (fun v8 M8 e h => ?_)
      have FM8 : hr_fr hW_X1_greatestQuarrel M M8 := hr_fr.tr FM6 (hr_fr.mono (W := hW_J6_bitCount_0f7a4) rfl (fr_J6_bitCount_0f7a4 x1 _ _ e))
      refine hr_Fi h (fun _ h => ?_) (fun _ h => ?_)
      · exact hr_fr.tr FM8 (ih x1 (x2 + 1) _ _ h)
      · refine hr_Fb h (fun v12 M12 e h => ?_)
        have FM12 : hr_fr hW_X1_greatestQuarrel M M12 := hr_fr.tr FM8 (hr_fr.mono (W := hW_X1_isQuarrel) rfl (fr_X1_isQuarrel x2 _ _ e))
        refine hr_Fi h (fun _ h => ?_) (fun _ h => ?_)
        · exact hr_fr.tr FM12 (ih x1 (x2 + 1) _ _ h)
        · exact hr_fr.tr FM12 (ih x2 (x2 + 1) _ _ h)
theorem fr_X1_greatestQuarrel  : ∀ (M : PM) (r : Int32 × PM), f_X1_greatestQuarrel M = some r → hr_fr hW_X1_greatestQuarrel M r.2 := by
  intro M r h
  unfold f_X1_greatestQuarrel at h
  exact hr_fr.tr (hr_fr.rf _ M) (fr_X1_greatestQuarrel_4 FU 0 1 _ _ h)
def hW_X1_fewestHidden : List (Nat × Nat) := [(247, 0)]
theorem fr_X1_fewestHidden_11  : ∀ (f : Nat) (x1 : Int32) (x2 : Int32) (M : PM) (r : Int32 × PM), f_X1_fewestHidden_11 f x1 x2 M = some r → hr_fr hW_X1_fewestHidden M r.2 := by
  intro f
  induction f with
  | zero => intro x1 x2 M r h; cases h
  | succ f ih =>
    intro x1 x2 M r h
    rw [f_X1_fewestHidden_11.eq_2] at h
    refine hr_Fb h (fun v2 M2 e h => ?_)
    have FM2 : hr_fr hW_X1_fewestHidden M M2 := hr_fr.tr (hr_fr.rf _ M) (hr_fr.mono (W := hW_X1_everyone) rfl (fr_X1_everyone  _ _ e))
    refine hr_Fi h (fun _ h => ?_) (fun _ h => ?_)
    · cases h
      exact FM2
    · refine hr_Fb h (fun v6 M6 e h => ?_)
      have FM6 : hr_fr hW_X1_fewestHidden M M6 := hr_fr.tr FM2 (hr_fr.mono (W := hW_J6_bitCount_0f7a4) rfl (fr_J6_bitCount_0f7a4 x2 _ _ e))
      refine hr_Fb h (fun v8 M8 e h => ?_)
      have FM8 : hr_fr hW_X1_fewestHidden M M8 := hr_fr.tr FM6 (hr_fr.mono (W := hW_J6_bitCount_0f7a4) rfl (fr_J6_bitCount_0f7a4 x1 _ _ e))
      refine hr_Fi h (fun _ h => ?_) (fun _ h => ?_)
      · exact hr_fr.tr FM8 (ih x1 (x2 + 1) _ _ h)
      · refine hr_Fb h (fun v12 M12 e h => ?_)
        have FM12 : hr_fr hW_X1_fewestHidden M M12 := hr_fr.tr FM8 (hr_fr.mono (W := hW_X1_everyone) rfl (fr_X1_everyone  _ _ e))
        refine hr_Fg h (fun _ h => ?_)
        refine hr_Fi h (fun _ h => ?_) (fun _ h => ?_)
        · exact hr_fr.tr FM12 (ih x1 (x2 + 1) _ _ h)
        · exact hr_fr.tr FM12 (ih x2 (x2 + 1) _ _ h)
theorem fr_X1_fewestHidden  : ∀ (M : PM) (r : Int32 × PM), f_X1_fewestHidden M = some r → hr_fr hW_X1_fewestHidden M r.2 := by
  intro M r h
  unfold f_X1_fewestHidden at h
  refine hr_Fb h (fun v2 M2 e h => ?_)
  have FM2 : hr_fr hW_X1_fewestHidden M M2 := hr_fr.tr (hr_fr.rf _ M) (hr_fr.mono (W := hW_X1_findQuiet) rfl (fr_X1_findQuiet  _ _ e))
  refine hr_Fb h (fun v4 M4 e h => ?_)
  have FM4 : hr_fr hW_X1_fewestHidden M M4 := hr_fr.tr FM2 (hr_fr.mono (W := hW_X1_everyone) rfl (fr_X1_everyone  _ _ e))
  exact hr_fr.tr FM4 (fr_X1_fewestHidden_11 FU v4 0 _ _ h)
def hW_X1_leastAlly : List (Nat × Nat) := []
theorem fr_X1_leastAlly_48 (a1 : Int32) (a2 : Int32) (k11 : Int32 → Int32 → PM → Option (Int32 × PM)) (x3 : Int32) (x4 : Int32) (s0 : Int32) (hk11 : ∀ (y0 : Int32) (y1 : Int32) (M : PM) (r : Int32 × PM), k11 y0 y1 M = some r → hr_fr hW_X1_leastAlly M r.2) : ∀ (M : PM) (r : Int32 × PM), f_X1_leastAlly_48 a1 a2 k11 x3 x4 s0 M = some r → hr_fr hW_X1_leastAlly M r.2 := by
  intro M r h
  unfold f_X1_leastAlly_48 at h
  refine hr_Fi h (fun _ h => ?_) (fun _ h => ?_)
  · exact hr_fr.tr (hr_fr.rf _ M) (hk11 x3 (x4 + 1) _ _ h)
  · refine hr_Fg h (fun _ h => ?_)
    refine hr_Fg h (fun _ h => ?_)
    refine hr_Fi h (fun _ h => ?_) (fun _ h => ?_)
    · cases h
      exact (hr_fr.rf _ M)
    · exact hr_fr.tr (hr_fr.rf _ M) (hk11 x3 (x4 + 1) _ _ h)
theorem fr_X1_leastAlly_11 (a1 : Int32) (a2 : Int32) : ∀ (f : Nat) (x3 : Int32) (x4 : Int32) (M : PM) (r : Int32 × PM), f_X1_leastAlly_11 a1 a2 f x3 x4 M = some r → hr_fr hW_X1_leastAlly M r.2 := by
  intro f
  induction f with
  | zero => intro x3 x4 M r h; cases h
  | succ f ih =>
    intro x3 x4 M r h
    rw [f_X1_leastAlly_11.eq_2] at h
    refine hr_Fi h (fun _ h => ?_) (fun _ h => ?_)
    · cases h
      exact (hr_fr.rf _ M)
    · refine hr_Fb h (fun v4 M4 e h => ?_)
      have FM4 : hr_fr hW_X1_leastAlly M M4 := hr_fr.tr (hr_fr.rf _ M) (hr_fr.mono (W := hW_X10_holdsBit) rfl (fr_X10_holdsBit x3 x4 _ _ e))
      refine hr_Fi h (fun _ h => ?_) (fun _ h => ?_)
      · exact hr_fr.tr FM4 (fr_X1_leastAlly_48 a1 a2 (fun x3 x4 M => f_X1_leastAlly_11 a1 a2 f x3 x4 M) x3 x4 0 (fun x3 x4 M r h => ih x3 x4 M r h) _ _ h)
      · refine hr_Fg h (fun _ h => ?_)
        refine hr_Fb h (fun v8 M8 e h => ?_)
        have FM8 : hr_fr hW_X1_leastAlly M M8 := hr_fr.tr FM4 (hr_fr.mono (W := hW_X10_holdsBit) rfl (fr_X10_holdsBit (M4.1 243 a2.toNatClampNeg) x4 _ _ e))
        refine hr_Fi h (fun _ h => ?_) (fun _ h => ?_)
        · exact hr_fr.tr FM8 (fr_X1_leastAlly_48 a1 a2 (fun x3 x4 M => f_X1_leastAlly_11 a1 a2 f x3 x4 M) x3 x4 1 (fun x3 x4 M r h => ih x3 x4 M r h) _ _ h)
        · exact hr_fr.tr FM8 (fr_X1_leastAlly_48 a1 a2 (fun x3 x4 M => f_X1_leastAlly_11 a1 a2 f x3 x4 M) x3 x4 0 (fun x3 x4 M r h => ih x3 x4 M r h) _ _ h)
theorem fr_X1_leastAlly (a1 : Int32) (a2 : Int32) : ∀ (M : PM) (r : Int32 × PM), f_X1_leastAlly a1 a2 M = some r → hr_fr hW_X1_leastAlly M r.2 := by
  intro M r h
  unfold f_X1_leastAlly at h
  exact hr_fr.tr (hr_fr.rf _ M) (fr_X1_leastAlly_11 a1 a2 FU (a1 &&& ((jl 1 a2) ^^^ (-1))) 0 _ _ h)
def hW_X1_mostCouplesOf : List (Nat × Nat) := []
theorem fr_X1_mostCouplesOf_31 (a1 : Int32) : ∀ (f : Nat) (x2 : Int32) (x3 : Int32) (x4 : Int32) (x5 : Int32) (M : PM) (r : Int32 × PM), f_X1_mostCouplesOf_31 a1 f x2 x3 x4 x5 M = some r → hr_fr hW_X1_mostCouplesOf M r.2 := by
  intro f
  induction f with
  | zero => intro x2 x3 x4 x5 M r h; cases h
  | succ f ih =>
    intro x2 x3 x4 x5 M r h
    rw [f_X1_mostCouplesOf_31.eq_2] at h
    refine hr_Fi h (fun _ h => ?_) (fun _ h => ?_)
    · cases h
      exact (hr_fr.rf _ M)
    · refine hr_Fb h (fun v4 M4 e h => ?_)
      have FM4 : hr_fr hW_X1_mostCouplesOf M M4 := hr_fr.tr (hr_fr.rf _ M) (hr_fr.mono (W := hW_X10_holdsBit) rfl (fr_X10_holdsBit x3 x5 _ _ e))
      refine hr_Fi h (fun _ h => ?_) (fun _ h => ?_)
      · exact hr_fr.tr FM4 (ih x2 x3 x4 (x5 + 1) _ _ h)
      · refine hr_Fg h (fun _ h => ?_)
        exact hr_fr.tr FM4 (ih x2 x3 (jx x4 (1 + (M4.1 246 (x2 &&& ((jl 1 x5) ^^^ (-1))).toNatClampNeg))) (x5 + 1) _ _ h)
theorem fr_X1_mostCouplesOf (a1 : Int32) : ∀ (M : PM) (r : Int32 × PM), f_X1_mostCouplesOf a1 M = some r → hr_fr hW_X1_mostCouplesOf M r.2 := by
  intro M r h
  unfold f_X1_mostCouplesOf at h
  refine hr_Fb h (fun v2 M2 e h => ?_)
  have FM2 : hr_fr hW_X1_mostCouplesOf M M2 := hr_fr.tr (hr_fr.rf _ M) (hr_fr.mono (W := hW_X10_leastOf) rfl (fr_X10_leastOf a1 _ _ e))
  refine hr_Fg h (fun _ h => ?_)
  refine hr_Fg h (fun _ h => ?_)
  exact hr_fr.tr FM2 (fr_X1_mostCouplesOf_31 a1 FU (a1 &&& (a1 - 1)) ((a1 &&& (a1 - 1)) &&& ((M2.1 243 v2.toNatClampNeg) ^^^ (-1))) (M2.1 246 (a1 &&& (a1 - 1)).toNatClampNeg) 0 _ _ h)
def hW_X1_couple : List (Nat × Nat) := [(240, 12), (246, 0), (248, 0)]
theorem fr_X1_couple_77  : ∀ (f : Nat) (x1 : Int32) (x2 : Int32) (M : PM) (r : Unit × PM), f_X1_couple_77 f x1 x2 M = some r → hr_fr hW_X1_couple M r.2 := by
  intro f
  induction f with
  | zero => intro x1 x2 M r h; cases h
  | succ f ih =>
    intro x1 x2 M r h
    rw [f_X1_couple_77.eq_2] at h
    refine hr_Fi h (fun _ h => ?_) (fun _ h => ?_)
    · cases h
      exact (hr_fr.rf _ M)
    · refine hr_Fb h (fun v3 M3 e h => ?_)
      have FM3 : hr_fr hW_X1_couple M M3 := hr_fr.tr (hr_fr.rf _ M) (hr_fr.mono (W := hW_X10_holdsBit) rfl (fr_X10_holdsBit x1 x2 _ _ e))
      refine hr_Fi h (fun _ h => ?_) (fun _ h => ?_)
      · exact hr_fr.tr FM3 (ih x1 (x2 + 1) _ _ h)
      · refine hr_Fb h (fun v7 M7 e h => ?_)
        have FM7 : hr_fr hW_X1_couple M M7 := hr_fr.tr FM3 (hr_fr.mono (W := hW_X1_leastAlly) rfl (fr_X1_leastAlly x1 x2 _ _ e))
        refine hr_Fi h (fun _ h => ?_) (fun _ h => ?_)
        · exact hr_fr.tr FM7 (ih (x1 &&& ((jl 1 x2) ^^^ (-1))) (x2 + 1) _ _ h)
        · refine hr_Fg h (fun _ h => ?_)
          refine hr_Fg h (fun _ h => ?_)
          exact hr_fr.tr (hr_fr.si rfl (hr_fr.si rfl FM7)) (ih ((x1 &&& ((jl 1 x2) ^^^ (-1))) &&& ((jl 1 v7) ^^^ (-1))) (x2 + 1) _ _ h)
theorem fr_X1_couple_54  : ∀ (f : Nat) (x1 : Int32) (x2 : Int32) (M : PM) (r : Unit × PM), f_X1_couple_54 f x1 x2 M = some r → hr_fr hW_X1_couple M r.2 := by
  intro f
  induction f with
  | zero => intro x1 x2 M r h; cases h
  | succ f ih =>
    intro x1 x2 M r h
    rw [f_X1_couple_54.eq_2] at h
    refine hr_Fi h (fun _ h => ?_) (fun _ h => ?_)
    · exact hr_fr.tr (hr_fr.rf _ M) (fr_X1_couple_77 FU x1 0 _ _ h)
    · refine hr_Fg h (fun _ h => ?_)
      exact hr_fr.tr (hr_fr.si rfl (hr_fr.rf _ M)) (ih x1 (x2 + 1) _ _ h)
theorem fr_X1_couple_9  : ∀ (f : Nat) (x1 : Int32) (M : PM) (r : Unit × PM), f_X1_couple_9 f x1 M = some r → hr_fr hW_X1_couple M r.2 := by
  intro f
  induction f with
  | zero => intro x1 M r h; cases h
  | succ f ih =>
    intro x1 M r h
    rw [f_X1_couple_9.eq_2] at h
    refine hr_Fb h (fun v2 M2 e h => ?_)
    have FM2 : hr_fr hW_X1_couple M M2 := hr_fr.tr (hr_fr.rf _ M) (hr_fr.mono (W := hW_X1_everyone) rfl (fr_X1_everyone  _ _ e))
    refine hr_Fi h (fun _ h => ?_) (fun _ h => ?_)
    · refine hr_Fb h (fun v5 M5 e h => ?_)
      have FM5 : hr_fr hW_X1_couple M M5 := hr_fr.tr FM2 (hr_fr.mono (W := hW_X1_everyone) rfl (fr_X1_everyone  _ _ e))
      refine hr_Fg h (fun _ h => ?_)
      refine hr_Fb h (fun v7 M7 e h => ?_)
      have FM7 : hr_fr hW_X1_couple M M7 := hr_fr.tr (hr_fr.si rfl FM5) (hr_fr.mono (W := hW_X1_everyone) rfl (fr_X1_everyone  _ _ e))
      exact hr_fr.tr FM7 (fr_X1_couple_54 FU v7 0 _ _ h)
    · refine hr_Fb h (fun v10 M10 e h => ?_)
      have FM10 : hr_fr hW_X1_couple M M10 := hr_fr.tr FM2 (hr_fr.mono (W := hW_X1_mostCouplesOf) rfl (fr_X1_mostCouplesOf x1 _ _ e))
      refine hr_Fg h (fun _ h => ?_)
      exact hr_fr.tr (hr_fr.si rfl FM10) (ih (x1 + 1) _ _ h)
theorem fr_X1_couple  : ∀ (M : PM) (r : Unit × PM), f_X1_couple M = some r → hr_fr hW_X1_couple M r.2 := by
  intro M r h
  unfold f_X1_couple at h
  refine hr_Fg h (fun _ h => ?_)
  exact hr_fr.tr (hr_fr.si rfl (hr_fr.rf _ M)) (fr_X1_couple_9 FU 1 _ _ h)
def hW_X2_forget : List (Nat × Nat) := [(265, 0)]
theorem fr_X2_forget_2  : ∀ (f : Nat) (x1 : Int32) (M : PM) (r : Unit × PM), f_X2_forget_2 f x1 M = some r → hr_fr hW_X2_forget M r.2 := by
  intro f
  induction f with
  | zero => intro x1 M r h; cases h
  | succ f ih =>
    intro x1 M r h
    rw [f_X2_forget_2.eq_2] at h
    refine hr_Fi h (fun _ h => ?_) (fun _ h => ?_)
    · cases h
      exact (hr_fr.rf _ M)
    · refine hr_Fg h (fun _ h => ?_)
      exact hr_fr.tr (hr_fr.si rfl (hr_fr.rf _ M)) (ih (x1 + 1) _ _ h)
theorem fr_X2_forget  : ∀ (M : PM) (r : Unit × PM), f_X2_forget M = some r → hr_fr hW_X2_forget M r.2 := by
  intro M r h
  unfold f_X2_forget at h
  exact hr_fr.tr (hr_fr.rf _ M) (fr_X2_forget_2 FU 0 _ _ h)
def hW_X2_countSums : List (Nat × Nat) := [(270, 0)]
theorem fr_X2_countSums_102 (a1 : Int32) : ∀ (f : Nat) (x2 : Int32) (x3 : Int32) (M : PM) (r : Int32 × PM), f_X2_countSums_102 a1 f x2 x3 M = some r → hr_fr hW_X2_countSums M r.2 := by
  intro f
  induction f with
  | zero => intro x2 x3 M r h; cases h
  | succ f ih =>
    intro x2 x3 M r h
    rw [f_X2_countSums_102.eq_2] at h
    refine hr_Fi h (fun _ h => ?_) (fun _ h => ?_)
    · cases h
      exact (hr_fr.rf _ M)
    · refine hr_Fg h (fun _ h => ?_)
      refine hr_Fg h (fun _ h => ?_)
      refine hr_Fg h (fun _ h => ?_)
      exact hr_fr.tr (hr_fr.si rfl (hr_fr.rf _ M)) (ih x2 (x3 + 1) _ _ h)
theorem fr_X2_countSums_28 (a1 : Int32) : ∀ (f : Nat) (x2 : Int32) (x3 : Int32) (M : PM) (r : Int32 × PM), f_X2_countSums_28 a1 f x2 x3 M = some r → hr_fr hW_X2_countSums M r.2 := by
  intro f
  induction f with
  | zero => intro x2 x3 M r h; cases h
  | succ f ih =>
    intro x2 x3 M r h
    rw [f_X2_countSums_28.eq_2] at h
    refine hr_Fg h (fun _ h => ?_)
    refine hr_Fi h (fun _ h => ?_) (fun _ h => ?_)
    · exact hr_fr.tr (hr_fr.rf _ M) (fr_X2_countSums_102 a1 FU x2 1 _ _ h)
    · refine hr_Fg h (fun _ h => ?_)
      refine hr_Fi h (fun _ h => ?_) (fun _ h => ?_)
      · refine hr_Fg h (fun _ h => ?_)
        refine hr_Fg h (fun _ h => ?_)
        refine hr_Fg h (fun _ h => ?_)
        refine hr_Fg h (fun _ h => ?_)
        refine hr_Fg h (fun _ h => ?_)
        refine hr_Fg h (fun _ h => ?_)
        exact hr_fr.tr (hr_fr.si rfl (hr_fr.si rfl (hr_fr.rf _ M))) (ih (x2 + 1) (x3 + 1) _ _ h)
      · exact hr_fr.tr (hr_fr.rf _ M) (ih x2 (x3 + 1) _ _ h)
theorem fr_X2_countSums_2 (a1 : Int32) : ∀ (f : Nat) (x2 : Int32) (M : PM) (r : Int32 × PM), f_X2_countSums_2 a1 f x2 M = some r → hr_fr hW_X2_countSums M r.2 := by
  intro f
  induction f with
  | zero => intro x2 M r h; cases h
  | succ f ih =>
    intro x2 M r h
    rw [f_X2_countSums_2.eq_2] at h
    refine hr_Fi h (fun _ h => ?_) (fun _ h => ?_)
    · exact hr_fr.tr (hr_fr.rf _ M) (fr_X2_countSums_28 a1 FU 0 0 _ _ h)
    · refine hr_Fg h (fun _ h => ?_)
      exact hr_fr.tr (hr_fr.si rfl (hr_fr.rf _ M)) (ih (x2 + 1) _ _ h)
theorem fr_X2_countSums (a1 : Int32) : ∀ (M : PM) (r : Int32 × PM), f_X2_countSums a1 M = some r → hr_fr hW_X2_countSums M r.2 := by
  intro M r h
  unfold f_X2_countSums at h
  exact hr_fr.tr (hr_fr.rf _ M) (fr_X2_countSums_2 a1 FU 0 _ _ h)
def hW_X4_total : List (Nat × Nat) := []
theorem fr_X4_total (a0 : Nat) (a1 : Int32) : ∀ (M : PM) (r : Int32 × PM), f_X4_total a0 a1 M = some r → hr_fr hW_X4_total M r.2 := by
  intro M r h
  unfold f_X4_total at h
  refine hr_Fg h (fun _ h => ?_)
  refine hr_Fb h (fun v2 M2 e h => ?_)
  have FM2 : hr_fr hW_X4_total M M2 := hr_fr.tr (hr_fr.rf _ M) (hr_fr.mono (W := hW_X4_part) rfl (fr_X4_part a0 a1 0 _ _ e))
  refine hr_Fb h (fun v4 M4 e h => ?_)
  have FM4 : hr_fr hW_X4_total M M4 := hr_fr.tr FM2 (hr_fr.mono (W := hW_X4_part) rfl (fr_X4_part a0 a1 1 _ _ e))
  refine hr_Fb h (fun v6 M6 e h => ?_)
  have FM6 : hr_fr hW_X4_total M M6 := hr_fr.tr FM4 (hr_fr.mono (W := hW_X4_part) rfl (fr_X4_part a0 a1 2 _ _ e))
  cases h
  exact FM6
def hW_X4_measure : List (Nat × Nat) := []
theorem fr_X4_measure (a0 : Nat) (a1 : Int32) (a2 : Int32) (a3 : Int32) : ∀ (M : PM) (r : Int32 × PM), f_X4_measure a0 a1 a2 a3 M = some r → hr_fr hW_X4_measure M r.2 := by
  intro M r h
  unfold f_X4_measure at h
  refine hr_Fg h (fun _ h => ?_)
  refine hr_Fi h (fun _ h => ?_) (fun _ h => ?_)
  · refine hr_Fg h (fun _ h => ?_)
    refine hr_Fg h (fun _ h => ?_)
    refine hr_Fg h (fun _ h => ?_)
    cases h
    exact (hr_fr.rf _ M)
  · refine hr_Fi h (fun _ h => ?_) (fun _ h => ?_)
    · cases h
      exact (hr_fr.rf _ M)
    · refine hr_Fi h (fun _ h => ?_) (fun _ h => ?_)
      · cases h
        exact (hr_fr.rf _ M)
      · refine hr_Fg h (fun _ h => ?_)
        cases h
        exact (hr_fr.rf _ M)
def hW_X4_touches : List (Nat × Nat) := []
theorem fr_X4_touches (a0 : Int32) (a1 : Int32) (a2 : Int32) (a3 : Int32) (a4 : Int32) : ∀ (M : PM) (r : Int32 × PM), f_X4_touches a0 a1 a2 a3 a4 M = some r → hr_fr hW_X4_touches M r.2 := by
  intro M r h
  unfold f_X4_touches at h
  refine hr_Fi h (fun _ h => ?_) (fun _ h => ?_)
  · refine hr_Fi h (fun _ h => ?_) (fun _ h => ?_)
    · cases h
      exact (hr_fr.rf _ M)
    · refine hr_Fi h (fun _ h => ?_) (fun _ h => ?_)
      · cases h
        exact (hr_fr.rf _ M)
      · cases h
        exact (hr_fr.rf _ M)
  · refine hr_Fi h (fun _ h => ?_) (fun _ h => ?_)
    · refine hr_Fi h (fun _ h => ?_) (fun _ h => ?_)
      · cases h
        exact (hr_fr.rf _ M)
      · cases h
        exact (hr_fr.rf _ M)
    · refine hr_Fi h (fun _ h => ?_) (fun _ h => ?_)
      · refine hr_Fi h (fun _ h => ?_) (fun _ h => ?_)
        · refine hr_Fi h (fun _ h => ?_) (fun _ h => ?_)
          · cases h
            exact (hr_fr.rf _ M)
          · cases h
            exact (hr_fr.rf _ M)
        · cases h
          exact (hr_fr.rf _ M)
      · refine hr_Fi h (fun _ h => ?_) (fun _ h => ?_)
        · cases h
          exact (hr_fr.rf _ M)
        · refine hr_Fi h (fun _ h => ?_) (fun _ h => ?_)
          · refine hr_Fi h (fun _ h => ?_) (fun _ h => ?_)
            · cases h
              exact (hr_fr.rf _ M)
            · cases h
              exact (hr_fr.rf _ M)
          · cases h
            exact (hr_fr.rf _ M)
def hW_X4_wouldHold : List (Nat × Nat) := []
theorem fr_X4_wouldHold (a0 : Nat) (a1 : Int32) (a2 : Int32) (a3 : Int32) (a4 : Int32) (a5 : Int32) : ∀ (M : PM) (r : Int32 × PM), f_X4_wouldHold a0 a1 a2 a3 a4 a5 M = some r → hr_fr hW_X4_wouldHold M r.2 := by
  intro M r h
  unfold f_X4_wouldHold at h
  refine hr_Fg h (fun _ h => ?_)
  refine hr_Fb h (fun v2 M2 e h => ?_)
  have FM2 : hr_fr hW_X4_wouldHold M M2 := hr_fr.tr (hr_fr.rf _ M) (hr_fr.mono (W := hW_X4_measure) rfl (fr_X4_measure a0 a4 a1 a2 _ _ e))
  refine hr_Fb h (fun v4 M4 e h => ?_)
  have FM4 : hr_fr hW_X4_wouldHold M M4 := hr_fr.tr FM2 (hr_fr.mono (W := hW_X4_measure) rfl (fr_X4_measure a0 a5 a1 a2 _ _ e))
  refine hr_Fb h (fun v5 M5 e h => ?_)
  have FM5 : hr_fr hW_X4_wouldHold M M5 := hr_fr.tr FM4 (hr_fr.mono (W := hW_X4_touches) rfl (fr_X4_touches a1 a2 a3 v2 v4 _ _ e))
  refine hr_Fg h (fun _ h => ?_)
  cases h
  exact FM5
def hW_X2_mostTelling : List (Nat × Nat) := [(270, 0)]
theorem fr_X2_mostTelling_64 (a1 : Int32) (a2 : Nat) (k17 : Int32 → Int32 → Int32 → Int32 → PM → Option (Int32 × PM)) (k32 : Int32 → Int32 → Int32 → Int32 → Int32 → PM → Option (Int32 × PM)) (hk17 : ∀ (y0 : Int32) (y1 : Int32) (y2 : Int32) (y3 : Int32) (M : PM) (r : Int32 × PM), k17 y0 y1 y2 y3 M = some r → hr_fr hW_X2_mostTelling M r.2) (hk32 : ∀ (y0 : Int32) (y1 : Int32) (y2 : Int32) (y3 : Int32) (y4 : Int32) (M : PM) (r : Int32 × PM), k32 y0 y1 y2 y3 y4 M = some r → hr_fr hW_X2_mostTelling M r.2) : ∀ (f : Nat) (x3 : Int32) (x4 : Int32) (x5 : Int32) (x6 : Int32) (x7 : Int32) (x8 : Int32) (x9 : Int32) (M : PM) (r : Int32 × PM), f_X2_mostTelling_64 a1 a2 k17 k32 f x3 x4 x5 x6 x7 x8 x9 M = some r → hr_fr hW_X2_mostTelling M r.2 := by
  intro f
  induction f with
  | zero => intro x3 x4 x5 x6 x7 x8 x9 M r h; cases h
  | succ f ih =>
    intro x3 x4 x5 x6 x7 x8 x9 M r h
    rw [f_X2_mostTelling_64.eq_2] at h
    refine hr_Fg h (fun _ h => ?_)
    refine hr_Fi h (fun _ h => ?_) (fun _ h => ?_)
    · refine hr_Fg h (fun _ h => ?_)
      refine hr_Fi h (fun _ h => ?_) (fun _ h => ?_)
      · exact hr_fr.tr (hr_fr.rf _ M) (hk32 x3 x4 x5 x6 (x7 + 1) _ _ h)
      · exact hr_fr.tr (hr_fr.rf _ M) (hk32 x3 ((10 * x6) + x7) (jx x8 ((M.1 265 a1.toNatClampNeg) - x8)) x6 (x7 + 1) _ _ h)
    · refine hr_Fg h (fun _ h => ?_)
      refine hr_Fg h (fun _ h => ?_)
      refine hr_Fg h (fun _ h => ?_)
      refine hr_Fb h (fun v7 M7 e h => ?_)
      have FM7 : hr_fr hW_X2_mostTelling M M7 := hr_fr.tr (hr_fr.rf _ M) (hr_fr.mono (W := hW_X4_wouldHold) rfl (fr_X4_wouldHold a2 (M.1 267 ((a1 * 1570) + x9).toNatClampNeg) (M.1 268 ((a1 * 1570) + x9).toNatClampNeg) (M.1 269 ((a1 * 1570) + x9).toNatClampNeg) x6 x7 _ _ e))
      refine hr_Fi h (fun _ h => ?_) (fun _ h => ?_)
      · exact hr_fr.tr FM7 (ih x3 x4 x5 x6 x7 (x8 + 0) (x9 + 1) _ _ h)
      · exact hr_fr.tr FM7 (ih x3 x4 x5 x6 x7 (x8 + 1) (x9 + 1) _ _ h)
theorem fr_X2_mostTelling_32 (a1 : Int32) (a2 : Nat) (k17 : Int32 → Int32 → Int32 → Int32 → PM → Option (Int32 × PM)) (hk17 : ∀ (y0 : Int32) (y1 : Int32) (y2 : Int32) (y3 : Int32) (M : PM) (r : Int32 × PM), k17 y0 y1 y2 y3 M = some r → hr_fr hW_X2_mostTelling M r.2) : ∀ (f : Nat) (x3 : Int32) (x4 : Int32) (x5 : Int32) (x6 : Int32) (x7 : Int32) (M : PM) (r : Int32 × PM), f_X2_mostTelling_32 a1 a2 k17 f x3 x4 x5 x6 x7 M = some r → hr_fr hW_X2_mostTelling M r.2 := by
  intro f
  induction f with
  | zero => intro x3 x4 x5 x6 x7 M r h; cases h
  | succ f ih =>
    intro x3 x4 x5 x6 x7 M r h
    rw [f_X2_mostTelling_32.eq_2] at h
    refine hr_Fi h (fun _ h => ?_) (fun _ h => ?_)
    · exact hr_fr.tr (hr_fr.rf _ M) (hk17 x3 x4 x5 (x6 + 1) _ _ h)
    · refine hr_Fb h (fun v4 M4 e h => ?_)
      have FM4 : hr_fr hW_X2_mostTelling M M4 := hr_fr.tr (hr_fr.rf _ M) (hr_fr.mono (W := hW_X4_total) rfl (fr_X4_total a2 x6 _ _ e))
      refine hr_Fb h (fun v6 M6 e h => ?_)
      have FM6 : hr_fr hW_X2_mostTelling M M6 := hr_fr.tr FM4 (hr_fr.mono (W := hW_X4_total) rfl (fr_X4_total a2 x7 _ _ e))
      refine hr_Fg h (fun _ h => ?_)
      exact hr_fr.tr FM6 (fr_X2_mostTelling_64 a1 a2 k17 (fun x3 x4 x5 x6 x7 M => f_X2_mostTelling_32 a1 a2 k17 f x3 x4 x5 x6 x7 M) hk17 (fun x3 x4 x5 x6 x7 M r h => ih x3 x4 x5 x6 x7 M r h) FU x3 x4 x5 x6 x7 (M6.1 270 (v4 + v6).toNatClampNeg) x3 _ _ h)
theorem fr_X2_mostTelling_17 (a1 : Int32) (a2 : Nat) : ∀ (f : Nat) (x3 : Int32) (x4 : Int32) (x5 : Int32) (x6 : Int32) (M : PM) (r : Int32 × PM), f_X2_mostTelling_17 a1 a2 f x3 x4 x5 x6 M = some r → hr_fr hW_X2_mostTelling M r.2 := by
  intro f
  induction f with
  | zero => intro x3 x4 x5 x6 M r h; cases h
  | succ f ih =>
    intro x3 x4 x5 x6 M r h
    rw [f_X2_mostTelling_17.eq_2] at h
    refine hr_Fi h (fun _ h => ?_) (fun _ h => ?_)
    · cases h
      exact (hr_fr.rf _ M)
    · exact hr_fr.tr (hr_fr.rf _ M) (fr_X2_mostTelling_32 a1 a2 (fun x3 x4 x5 x6 M => f_X2_mostTelling_17 a1 a2 f x3 x4 x5 x6 M) (fun x3 x4 x5 x6 M r h => ih x3 x4 x5 x6 M r h) FU x3 x4 x5 x6 (x6 + 1) _ _ h)
theorem fr_X2_mostTelling (a1 : Int32) (a2 : Nat) : ∀ (M : PM) (r : Int32 × PM), f_X2_mostTelling a1 a2 M = some r → hr_fr hW_X2_mostTelling M r.2 := by
  intro M r h
  unfold f_X2_mostTelling at h
  refine hr_Fg h (fun _ h => ?_)
  refine hr_Fb h (fun v2 M2 e h => ?_)
  have FM2 : hr_fr hW_X2_mostTelling M M2 := hr_fr.tr (hr_fr.rf _ M) (hr_fr.mono (W := hW_X2_countSums) rfl (fr_X2_countSums a1 _ _ e))
  exact hr_fr.tr FM2 (fr_X2_mostTelling_17 a1 a2 FU v2 (-1) 1571 0 _ _ h)
def hW_X2_propose : List (Nat × Nat) := [(265, 0), (267, 0), (268, 0), (269, 0)]
theorem fr_X2_propose_28 (a1 : Int32) (a2 : Nat) (a3 : Nat) (a4 : Int32) (a5 : Int32) (a6 : Int32) (k3 : Int32 → PM → Option (Unit × PM)) (x7 : Int32) (s0 : Int32) (hk3 : ∀ (y0 : Int32) (M : PM) (r : Unit × PM), k3 y0 M = some r → hr_fr hW_X2_propose M r.2) : ∀ (M : PM) (r : Unit × PM), f_X2_propose_28 a1 a2 a3 a4 a5 a6 k3 x7 s0 M = some r → hr_fr hW_X2_propose M r.2 := by
  intro M r h
  unfold f_X2_propose_28 at h
  refine hr_Fg h (fun _ h => ?_)
  refine hr_Fg h (fun _ h => ?_)
  refine hr_Fb h (fun v2 M2 e h => ?_)
  have FM2 : hr_fr hW_X2_propose M M2 := hr_fr.tr (hr_fr.rf _ M) (hr_fr.mono (W := hW_X4_wouldHold) rfl (fr_X4_wouldHold a2 a4 a5 a6 (M.1 (a3 + 2) x7.toNatClampNeg) (M.1 (a3 + 3) x7.toNatClampNeg) _ _ e))
  refine hr_Fi h (fun _ h => ?_) (fun _ h => ?_)
  · exact hr_fr.tr FM2 (hk3 (x7 + 1) _ _ h)
  · cases h
    exact FM2
theorem fr_X2_propose_3 (a1 : Int32) (a2 : Nat) (a3 : Nat) (a4 : Int32) (a5 : Int32) (a6 : Int32) : ∀ (f : Nat) (x7 : Int32) (M : PM) (r : Unit × PM), f_X2_propose_3 a1 a2 a3 a4 a5 a6 f x7 M = some r → hr_fr hW_X2_propose M r.2 := by
  intro f
  induction f with
  | zero => intro x7 M r h; cases h
  | succ f ih =>
    intro x7 M r h
    rw [f_X2_propose_3.eq_2] at h
    refine hr_Fi h (fun _ h => ?_) (fun _ h => ?_)
    · refine hr_Fg h (fun _ h => ?_)
      refine hr_Fi h (fun _ h => ?_) (fun _ h => ?_)
      · cases h
        exact (hr_fr.rf _ M)
      · refine hr_Fg h (fun _ h => ?_)
        refine hr_Fg h (fun _ h => ?_)
        refine hr_Fg h (fun _ h => ?_)
        refine hr_Fg h (fun _ h => ?_)
        refine hr_Fg h (fun _ h => ?_)
        refine hr_Fg h (fun _ h => ?_)
        cases h
        exact (hr_fr.si rfl (hr_fr.si rfl (hr_fr.si rfl (hr_fr.si rfl (hr_fr.rf _ M)))))
    · refine hr_Fg h (fun _ h => ?_)
      refine hr_Fi h (fun _ h => ?_) (fun _ h => ?_)
      · exact hr_fr.tr (hr_fr.rf _ M) (fr_X2_propose_28 a1 a2 a3 a4 a5 a6 (fun x7 M => f_X2_propose_3 a1 a2 a3 a4 a5 a6 f x7 M) x7 1 (fun x7 M r h => ih x7 M r h) _ _ h)
      · exact hr_fr.tr (hr_fr.rf _ M) (fr_X2_propose_28 a1 a2 a3 a4 a5 a6 (fun x7 M => f_X2_propose_3 a1 a2 a3 a4 a5 a6 f x7 M) x7 0 (fun x7 M r h => ih x7 M r h) _ _ h)
theorem fr_X2_propose (a1 : Int32) (a2 : Nat) (a3 : Nat) (a4 : Int32) (a5 : Int32) (a6 : Int32) : ∀ (M : PM) (r : Unit × PM), f_X2_propose a1 a2 a3 a4 a5 a6 M = some r → hr_fr hW_X2_propose M r.2 := by
  intro M r h
  unfold f_X2_propose at h
  refine hr_Fg h (fun _ h => ?_)
  refine hr_Fg h (fun _ h => ?_)
  exact hr_fr.tr (hr_fr.rf _ M) (fr_X2_propose_3 a1 a2 a3 a4 a5 a6 FU 0 _ _ h)
def hW_X2_look : List (Nat × Nat) := [(265, 0), (266, 0), (267, 0), (268, 0), (269, 0), (270, 0)]
theorem fr_X2_look_109 (a1 : Int32) (a2 : Nat) (a3 : Nat) : ∀ (f : Nat) (x4 : Int32) (M : PM) (r : Unit × PM), f_X2_look_109 a1 a2 a3 f x4 M = some r → hr_fr hW_X2_look M r.2 := by
  intro f
  induction f with
  | zero => intro x4 M r h; cases h
  | succ f ih =>
    intro x4 M r h
    rw [f_X2_look_109.eq_2] at h
    refine hr_Fi h (fun _ h => ?_) (fun _ h => ?_)
    · refine hr_Fb h (fun v3 M3 e h => ?_)
      have FM3 : hr_fr hW_X2_look M M3 := hr_fr.tr (hr_fr.rf _ M) (hr_fr.mono (W := hW_X2_mostTelling) rfl (fr_X2_mostTelling a1 a2 _ _ e))
      refine hr_Fg h (fun _ h => ?_)
      cases h
      exact (hr_fr.si rfl FM3)
    · refine hr_Fb h (fun v6 M6 e h => ?_)
      have FM6 : hr_fr hW_X2_look M M6 := hr_fr.tr (hr_fr.rf _ M) (hr_fr.mono (W := hW_X2_propose) rfl (fr_X2_propose a1 a2 a3 2 x4 (-1) _ _ e))
      exact hr_fr.tr FM6 (ih (x4 + 1) _ _ h)
theorem fr_X2_look_75 (a1 : Int32) (a2 : Nat) (a3 : Nat) (k66 : Int32 → PM → Option (Unit × PM)) (hk66 : ∀ (y0 : Int32) (M : PM) (r : Unit × PM), k66 y0 M = some r → hr_fr hW_X2_look M r.2) : ∀ (f : Nat) (x4 : Int32) (x5 : Int32) (M : PM) (r : Unit × PM), f_X2_look_75 a1 a2 a3 k66 f x4 x5 M = some r → hr_fr hW_X2_look M r.2 := by
  intro f
  induction f with
  | zero => intro x4 x5 M r h; cases h
  | succ f ih =>
    intro x4 x5 M r h
    rw [f_X2_look_75.eq_2] at h
    refine hr_Fi h (fun _ h => ?_) (fun _ h => ?_)
    · exact hr_fr.tr (hr_fr.rf _ M) (hk66 (x4 + 1) _ _ h)
    · refine hr_Fb h (fun v4 M4 e h => ?_)
      have FM4 : hr_fr hW_X2_look M M4 := hr_fr.tr (hr_fr.rf _ M) (hr_fr.mono (W := hW_X2_propose) rfl (fr_X2_propose a1 a2 a3 1 x4 x5 _ _ e))
      exact hr_fr.tr FM4 (ih x4 (x5 + 1) _ _ h)
theorem fr_X2_look_66 (a1 : Int32) (a2 : Nat) (a3 : Nat) : ∀ (f : Nat) (x4 : Int32) (M : PM) (r : Unit × PM), f_X2_look_66 a1 a2 a3 f x4 M = some r → hr_fr hW_X2_look M r.2 := by
  intro f
  induction f with
  | zero => intro x4 M r h; cases h
  | succ f ih =>
    intro x4 M r h
    rw [f_X2_look_66.eq_2] at h
    refine hr_Fi h (fun _ h => ?_) (fun _ h => ?_)
    · exact hr_fr.tr (hr_fr.rf _ M) (fr_X2_look_109 a1 a2 a3 FU 0 _ _ h)
    · exact hr_fr.tr (hr_fr.rf _ M) (fr_X2_look_75 a1 a2 a3 (fun x4 M => f_X2_look_66 a1 a2 a3 f x4 M) (fun x4 M r h => ih x4 M r h) FU x4 1 _ _ h)
theorem fr_X2_look_32 (a1 : Int32) (a2 : Nat) (a3 : Nat) (k21 : Int32 → PM → Option (Unit × PM)) (hk21 : ∀ (y0 : Int32) (M : PM) (r : Unit × PM), k21 y0 M = some r → hr_fr hW_X2_look M r.2) : ∀ (f : Nat) (x4 : Int32) (x5 : Int32) (M : PM) (r : Unit × PM), f_X2_look_32 a1 a2 a3 k21 f x4 x5 M = some r → hr_fr hW_X2_look M r.2 := by
  intro f
  induction f with
  | zero => intro x4 x5 M r h; cases h
  | succ f ih =>
    intro x4 x5 M r h
    rw [f_X2_look_32.eq_2] at h
    refine hr_Fi h (fun _ h => ?_) (fun _ h => ?_)
    · exact hr_fr.tr (hr_fr.rf _ M) (hk21 (x4 + 1) _ _ h)
    · refine hr_Fb h (fun v4 M4 e h => ?_)
      have FM4 : hr_fr hW_X2_look M M4 := hr_fr.tr (hr_fr.rf _ M) (hr_fr.mono (W := hW_X2_propose) rfl (fr_X2_propose a1 a2 a3 0 x4 x5 _ _ e))
      exact hr_fr.tr FM4 (ih x4 (x5 + 1) _ _ h)
theorem fr_X2_look_21 (a1 : Int32) (a2 : Nat) (a3 : Nat) : ∀ (f : Nat) (x4 : Int32) (M : PM) (r : Unit × PM), f_X2_look_21 a1 a2 a3 f x4 M = some r → hr_fr hW_X2_look M r.2 := by
  intro f
  induction f with
  | zero => intro x4 M r h; cases h
  | succ f ih =>
    intro x4 M r h
    rw [f_X2_look_21.eq_2] at h
    refine hr_Fi h (fun _ h => ?_) (fun _ h => ?_)
    · exact hr_fr.tr (hr_fr.rf _ M) (fr_X2_look_66 a1 a2 a3 FU 0 _ _ h)
    · exact hr_fr.tr (hr_fr.rf _ M) (fr_X2_look_32 a1 a2 a3 (fun x4 M => f_X2_look_21 a1 a2 a3 f x4 M) (fun x4 M r h => ih x4 M r h) FU x4 x4 _ _ h)
theorem fr_X2_look (a1 : Int32) (a2 : Nat) (a3 : Nat) : ∀ (M : PM) (r : Unit × PM), f_X2_look a1 a2 a3 M = some r → hr_fr hW_X2_look M r.2 := by
  intro M r h
  unfold f_X2_look at h
  refine hr_Fg h (fun _ h => ?_)
  refine hr_Fg h (fun _ h => ?_)
  refine hr_Fg h (fun _ h => ?_)
  refine hr_Fi h (fun _ h => ?_) (fun _ h => ?_)
  · refine hr_Fg h (fun _ h => ?_)
    exact hr_fr.tr (hr_fr.si rfl (hr_fr.rf _ M)) (fr_X2_look_21 a1 a2 a3 FU 0 _ _ h)
  · cases h
    exact (hr_fr.rf _ M)
def hW_X2_fitting : List (Nat × Nat) := []
theorem fr_X2_fitting (a1 : Int32) (a2 : Int32) (a3 : Int32) : ∀ (M : PM) (r : Int32 × PM), f_X2_fitting a1 a2 a3 M = some r → hr_fr hW_X2_fitting M r.2 := by
  intro M r h
  unfold f_X2_fitting at h
  refine hr_Fi h (fun _ h => ?_) (fun _ h => ?_)
  · cases h
    exact (hr_fr.rf _ M)
  · refine hr_Fg h (fun _ h => ?_)
    refine hr_Fi h (fun _ h => ?_) (fun _ h => ?_)
    · refine hr_Fi h (fun _ h => ?_) (fun _ h => ?_)
      · refine hr_Fg h (fun _ h => ?_)
        cases h
        exact (hr_fr.rf _ M)
      · refine hr_Fi h (fun _ h => ?_) (fun _ h => ?_)
        · refine hr_Fg h (fun _ h => ?_)
          cases h
          exact (hr_fr.rf _ M)
        · refine hr_Fi h (fun _ h => ?_) (fun _ h => ?_)
          · refine hr_Fg h (fun _ h => ?_)
            cases h
            exact (hr_fr.rf _ M)
          · cases h
            exact (hr_fr.rf _ M)
    · cases h
      exact (hr_fr.rf _ M)
def hW_X3_sort : List (Nat × Nat) := []
theorem fr_X3_sort (a0 : Nat) : ∀ (M : PM) (r : Int32 × PM), f_X3_sort a0 M = some r → hr_fr hW_X3_sort M r.2 := by
  intro M r h
  unfold f_X3_sort at h
  refine hr_Fg h (fun _ h => ?_)
  cases h
  exact (hr_fr.rf _ M)
def hW_X3_code : List (Nat × Nat) := []
theorem fr_X3_code (a0 : Nat) : ∀ (M : PM) (r : Int32 × PM), f_X3_code a0 M = some r → hr_fr hW_X3_code M r.2 := by
  intro M r h
  unfold f_X3_code at h
  refine hr_Fg h (fun _ h => ?_)
  cases h
  exact (hr_fr.rf _ M)
def hW_X3_firstCanBe : List (Nat × Nat) := []
theorem fr_X3_firstCanBe (a0 : Nat) (a1 : Int32) : ∀ (M : PM) (r : Int32 × PM), f_X3_firstCanBe a0 a1 M = some r → hr_fr hW_X3_firstCanBe M r.2 := by
  intro M r h
  unfold f_X3_firstCanBe at h
  refine hr_Fg h (fun _ h => ?_)
  refine hr_Fi h (fun _ h => ?_) (fun _ h => ?_)
  · cases h
    exact (hr_fr.rf _ M)
  · cases h
    exact (hr_fr.rf _ M)
def hW_X3_secondCanBe : List (Nat × Nat) := []
theorem fr_X3_secondCanBe (a0 : Nat) (a1 : Int32) (a2 : Int32) : ∀ (M : PM) (r : Int32 × PM), f_X3_secondCanBe a0 a1 a2 M = some r → hr_fr hW_X3_secondCanBe M r.2 := by
  intro M r h
  unfold f_X3_secondCanBe at h
  refine hr_Fg h (fun _ h => ?_)
  refine hr_Fi h (fun _ h => ?_) (fun _ h => ?_)
  · cases h
    exact (hr_fr.rf _ M)
  · refine hr_Fi h (fun _ h => ?_) (fun _ h => ?_)
    · refine hr_Fi h (fun _ h => ?_) (fun _ h => ?_)
      · refine hr_Fi h (fun _ h => ?_) (fun _ h => ?_)
        · cases h
          exact (hr_fr.rf _ M)
        · cases h
          exact (hr_fr.rf _ M)
      · refine hr_Fi h (fun _ h => ?_) (fun _ h => ?_)
        · refine hr_Fi h (fun _ h => ?_) (fun _ h => ?_)
          · cases h
            exact (hr_fr.rf _ M)
          · refine hr_Fi h (fun _ h => ?_) (fun _ h => ?_)
            · cases h
              exact (hr_fr.rf _ M)
            · refine hr_Fi h (fun _ h => ?_) (fun _ h => ?_)
              · cases h
                exact (hr_fr.rf _ M)
              · cases h
                exact (hr_fr.rf _ M)
        · cases h
          exact (hr_fr.rf _ M)
    · cases h
      exact (hr_fr.rf _ M)
def hW_X3_thirdCanBe : List (Nat × Nat) := []
theorem fr_X3_thirdCanBe (a0 : Nat) (a1 : Int32) : ∀ (M : PM) (r : Int32 × PM), f_X3_thirdCanBe a0 a1 M = some r → hr_fr hW_X3_thirdCanBe M r.2 := by
  intro M r h
  unfold f_X3_thirdCanBe at h
  refine hr_Fg h (fun _ h => ?_)
  refine hr_Fi h (fun _ h => ?_) (fun _ h => ?_)
  · cases h
    exact (hr_fr.rf _ M)
  · cases h
    exact (hr_fr.rf _ M)
def hW_X4_clear (a0 : Nat) : List (Nat × Nat) := [(a0, 1), (a0, 2), (a0 + 3, 0)]
theorem fr_X4_clear_12 (a0 : Nat) : ∀ (f : Nat) (x1 : Int32) (M : PM) (r : Unit × PM), f_X4_clear_12 a0 f x1 M = some r → hr_fr (hW_X4_clear a0) M r.2 := by
  intro f
  induction f with
  | zero => intro x1 M r h; cases h
  | succ f ih =>
    intro x1 M r h
    rw [f_X4_clear_12.eq_2] at h
    refine hr_Fi h (fun _ h => ?_) (fun _ h => ?_)
    · cases h
      exact (hr_fr.rf _ M)
    · refine hr_Fg h (fun _ h => ?_)
      exact hr_fr.tr (hr_fr.si (by simp [hr_in, hW_X4_clear]) (hr_fr.rf _ M)) (ih (x1 + 1) _ _ h)
theorem fr_X4_clear (a0 : Nat) : ∀ (M : PM) (r : Unit × PM), f_X4_clear a0 M = some r → hr_fr (hW_X4_clear a0) M r.2 := by
  intro M r h
  unfold f_X4_clear at h
  refine hr_Fg h (fun _ h => ?_)
  exact hr_fr.tr (hr_fr.si (by simp [hr_in, hW_X4_clear]) (hr_fr.si (by simp [hr_in, hW_X4_clear]) (hr_fr.rf _ M))) (fr_X4_clear_12 a0 FU 0 _ _ h)
def hW_X4_addHue (a0 : Nat) : List (Nat × Nat) := [(a0, 1), (a0 + 1, 0)]
theorem fr_X4_addHue (a0 : Nat) (a1 : Int32) (a2 : Int32) (a3 : Int32) : ∀ (M : PM) (r : Unit × PM), f_X4_addHue a0 a1 a2 a3 M = some r → hr_fr (hW_X4_addHue a0) M r.2 := by
  intro M r h
  unfold f_X4_addHue at h
  refine hr_Fg h (fun _ h => ?_)
  refine hr_Fi h (fun _ h => ?_) (fun _ h => ?_)
  · cases h
    exact (hr_fr.rf _ M)
  · refine hr_Fg h (fun _ h => ?_)
    refine hr_Fg h (fun _ h => ?_)
    refine hr_Fg h (fun _ h => ?_)
    cases h
    exact (hr_fr.si (by simp [hr_in, hW_X4_addHue]) (hr_fr.si (by simp [hr_in, hW_X4_addHue]) (hr_fr.si (by simp [hr_in, hW_X4_addHue]) (hr_fr.si (by simp [hr_in, hW_X4_addHue]) (hr_fr.rf _ M)))))
def hW_X4_addRule (a0 : Nat) : List (Nat × Nat) := [(a0, 2), (a0 + 2, 0)]
theorem fr_X4_addRule (a0 : Nat) (a1 : Int32) (a2 : Int32) (a3 : Int32) : ∀ (M : PM) (r : Unit × PM), f_X4_addRule a0 a1 a2 a3 M = some r → hr_fr (hW_X4_addRule a0) M r.2 := by
  intro M r h
  unfold f_X4_addRule at h
  refine hr_Fg h (fun _ h => ?_)
  refine hr_Fi h (fun _ h => ?_) (fun _ h => ?_)
  · cases h
    exact (hr_fr.rf _ M)
  · refine hr_Fg h (fun _ h => ?_)
    refine hr_Fg h (fun _ h => ?_)
    refine hr_Fg h (fun _ h => ?_)
    cases h
    exact (hr_fr.si (by simp [hr_in, hW_X4_addRule]) (hr_fr.si (by simp [hr_in, hW_X4_addRule]) (hr_fr.si (by simp [hr_in, hW_X4_addRule]) (hr_fr.si (by simp [hr_in, hW_X4_addRule]) (hr_fr.rf _ M)))))
def hW_X4_setLikes (a0 : Nat) : List (Nat × Nat) := [(a0 + 3, 0)]
theorem fr_X4_setLikes (a0 : Nat) (a1 : Int32) (a2 : Int32) (a3 : Int32) : ∀ (M : PM) (r : Unit × PM), f_X4_setLikes a0 a1 a2 a3 M = some r → hr_fr (hW_X4_setLikes a0) M r.2 := by
  intro M r h
  unfold f_X4_setLikes at h
  refine hr_Fg h (fun _ h => ?_)
  refine hr_Fg h (fun _ h => ?_)
  cases h
  exact (hr_fr.si (by simp [hr_in, hW_X4_setLikes]) (hr_fr.rf _ M))
def hW_X4_strengthOfHues : List (Nat × Nat) := []
theorem fr_X4_strengthOfHues_82 (a0 : Nat) (a1 : Int32) (a2 : Int32) (k5 : Int32 → Int32 → PM → Option (Int32 × PM)) (x4 : Int32) (s0 : Int32) (hk5 : ∀ (y0 : Int32) (y1 : Int32) (M : PM) (r : Int32 × PM), k5 y0 y1 M = some r → hr_fr hW_X4_strengthOfHues M r.2) : ∀ (M : PM) (r : Int32 × PM), f_X4_strengthOfHues_82 a0 a1 a2 k5 x4 s0 M = some r → hr_fr hW_X4_strengthOfHues M r.2 := by
  intro M r h
  unfold f_X4_strengthOfHues_82 at h
  exact hr_fr.tr (hr_fr.rf _ M) (hk5 (s0 + 1) (x4 + 1) _ _ h)
theorem fr_X4_strengthOfHues_86 (a0 : Nat) (a1 : Int32) (a2 : Int32) (k5 : Int32 → Int32 → PM → Option (Int32 × PM)) (x4 : Int32) (s0 : Int32) (hk5 : ∀ (y0 : Int32) (y1 : Int32) (M : PM) (r : Int32 × PM), k5 y0 y1 M = some r → hr_fr hW_X4_strengthOfHues M r.2) : ∀ (M : PM) (r : Int32 × PM), f_X4_strengthOfHues_86 a0 a1 a2 k5 x4 s0 M = some r → hr_fr hW_X4_strengthOfHues M r.2 := by
  intro M r h
  unfold f_X4_strengthOfHues_86 at h
  exact hr_fr.tr (hr_fr.rf _ M) (hk5 (s0 + 0) (x4 + 1) _ _ h)
theorem fr_X4_strengthOfHues_70 (a0 : Nat) (a1 : Int32) (a2 : Int32) (k5 : Int32 → Int32 → PM → Option (Int32 × PM)) (x4 : Int32) (x6 : Int32) (x7 : Int32) (s0 : Int32) (hk5 : ∀ (y0 : Int32) (y1 : Int32) (M : PM) (r : Int32 × PM), k5 y0 y1 M = some r → hr_fr hW_X4_strengthOfHues M r.2) : ∀ (M : PM) (r : Int32 × PM), f_X4_strengthOfHues_70 a0 a1 a2 k5 x4 x6 x7 s0 M = some r → hr_fr hW_X4_strengthOfHues M r.2 := by
  intro M r h
  unfold f_X4_strengthOfHues_70 at h
  refine hr_Fi h (fun _ h => ?_) (fun _ h => ?_)
  · refine hr_Fi h (fun _ h => ?_) (fun _ h => ?_)
    · exact hr_fr.tr (hr_fr.rf _ M) (fr_X4_strengthOfHues_82 a0 a1 a2 k5 x4 s0 hk5 _ _ h)
    · exact hr_fr.tr (hr_fr.rf _ M) (fr_X4_strengthOfHues_86 a0 a1 a2 k5 x4 s0 hk5 _ _ h)
  · exact hr_fr.tr (hr_fr.rf _ M) (fr_X4_strengthOfHues_86 a0 a1 a2 k5 x4 s0 hk5 _ _ h)
theorem fr_X4_strengthOfHues_5 (a0 : Nat) (a1 : Int32) (a2 : Int32) : ∀ (f : Nat) (x3 : Int32) (x4 : Int32) (M : PM) (r : Int32 × PM), f_X4_strengthOfHues_5 a0 a1 a2 f x3 x4 M = some r → hr_fr hW_X4_strengthOfHues M r.2 := by
  intro f
  induction f with
  | zero => intro x3 x4 M r h; cases h
  | succ f ih =>
    intro x3 x4 M r h
    rw [f_X4_strengthOfHues_5.eq_2] at h
    refine hr_Fi h (fun _ h => ?_) (fun _ h => ?_)
    · cases h
      exact (hr_fr.rf _ M)
    · refine hr_Fg h (fun _ h => ?_)
      refine hr_Fg h (fun _ h => ?_)
      refine hr_Fg h (fun _ h => ?_)
      refine hr_Fi h (fun _ h => ?_) (fun _ h => ?_)
      · refine hr_Fi h (fun _ h => ?_) (fun _ h => ?_)
        · refine hr_Fi h (fun _ h => ?_) (fun _ h => ?_)
          · exact hr_fr.tr (hr_fr.rf _ M) (fr_X4_strengthOfHues_82 a0 a1 a2 (fun x3 x4 M => f_X4_strengthOfHues_5 a0 a1 a2 f x3 x4 M) x4 x3 (fun x3 x4 M r h => ih x3 x4 M r h) _ _ h)
          · exact hr_fr.tr (hr_fr.rf _ M) (fr_X4_strengthOfHues_70 a0 a1 a2 (fun x3 x4 M => f_X4_strengthOfHues_5 a0 a1 a2 f x3 x4 M) x4 (M.1 (a0 + 2) ((3 * x4) + 1).toNatClampNeg) (M.1 (a0 + 2) ((3 * x4) + 2).toNatClampNeg) x3 (fun x3 x4 M r h => ih x3 x4 M r h) _ _ h)
        · exact hr_fr.tr (hr_fr.rf _ M) (fr_X4_strengthOfHues_70 a0 a1 a2 (fun x3 x4 M => f_X4_strengthOfHues_5 a0 a1 a2 f x3 x4 M) x4 (M.1 (a0 + 2) ((3 * x4) + 1).toNatClampNeg) (M.1 (a0 + 2) ((3 * x4) + 2).toNatClampNeg) x3 (fun x3 x4 M r h => ih x3 x4 M r h) _ _ h)
      · refine hr_Fb h (fun v7 M7 e h => ?_)
        have FM7 : hr_fr hW_X4_strengthOfHues M M7 := hr_fr.tr (hr_fr.rf _ M) (hr_fr.mono (W := hW_X4_wouldHold) rfl (fr_X4_wouldHold a0 (M.1 (a0 + 2) (3 * x4).toNatClampNeg) (M.1 (a0 + 2) ((3 * x4) + 1).toNatClampNeg) (M.1 (a0 + 2) ((3 * x4) + 2).toNatClampNeg) a1 a2 _ _ e))
        refine hr_Fi h (fun _ h => ?_) (fun _ h => ?_)
        · exact hr_fr.tr FM7 (ih x3 (x4 + 1) _ _ h)
        · refine hr_Fi h (fun _ h => ?_) (fun _ h => ?_)
          · cases h
            exact FM7
          · exact hr_fr.tr FM7 (ih (x3 + 1) (x4 + 1) _ _ h)
theorem fr_X4_strengthOfHues (a0 : Nat) (a1 : Int32) (a2 : Int32) : ∀ (M : PM) (r : Int32 × PM), f_X4_strengthOfHues a0 a1 a2 M = some r → hr_fr hW_X4_strengthOfHues M r.2 := by
  intro M r h
  unfold f_X4_strengthOfHues at h
  refine hr_Fg h (fun _ h => ?_)
  exact hr_fr.tr (hr_fr.rf _ M) (fr_X4_strengthOfHues_5 a0 a1 a2 FU 0 0 _ _ h)
def hW_X4_findStrengths (a0 : Nat) : List (Nat × Nat) := [(a0 + 4, 0), (a0 + 5, 0)]
theorem fr_X4_findStrengths_42 (a0 : Nat) (k2 : Int32 → PM → Option (Unit × PM)) (k19 : Int32 → Int32 → PM → Option (Unit × PM)) (x1 : Int32) (x2 : Int32) (s0 : Int32) (hk2 : ∀ (y0 : Int32) (M : PM) (r : Unit × PM), k2 y0 M = some r → hr_fr (hW_X4_findStrengths a0) M r.2) (hk19 : ∀ (y0 : Int32) (y1 : Int32) (M : PM) (r : Unit × PM), k19 y0 y1 M = some r → hr_fr (hW_X4_findStrengths a0) M r.2) : ∀ (M : PM) (r : Unit × PM), f_X4_findStrengths_42 a0 k2 k19 x1 x2 s0 M = some r → hr_fr (hW_X4_findStrengths a0) M r.2 := by
  intro M r h
  unfold f_X4_findStrengths_42 at h
  refine hr_Fg h (fun _ h => ?_)
  refine hr_Fi h (fun _ h => ?_) (fun _ h => ?_)
  · exact hr_fr.tr (hr_fr.si (by simp [hr_in, hW_X4_findStrengths]) (hr_fr.rf _ M)) (hk19 x1 (x2 + 1) _ _ h)
  · refine hr_Fg h (fun _ h => ?_)
    refine hr_Fg h (fun _ h => ?_)
    exact hr_fr.tr (hr_fr.si (by simp [hr_in, hW_X4_findStrengths]) (hr_fr.si (by simp [hr_in, hW_X4_findStrengths]) (hr_fr.rf _ M))) (hk19 x1 (x2 + 1) _ _ h)
theorem fr_X4_findStrengths_19 (a0 : Nat) (k2 : Int32 → PM → Option (Unit × PM)) (hk2 : ∀ (y0 : Int32) (M : PM) (r : Unit × PM), k2 y0 M = some r → hr_fr (hW_X4_findStrengths a0) M r.2) : ∀ (f : Nat) (x1 : Int32) (x2 : Int32) (M : PM) (r : Unit × PM), f_X4_findStrengths_19 a0 k2 f x1 x2 M = some r → hr_fr (hW_X4_findStrengths a0) M r.2 := by
  intro f
  induction f with
  | zero => intro x1 x2 M r h; cases h
  | succ f ih =>
    intro x1 x2 M r h
    rw [f_X4_findStrengths_19.eq_2] at h
    refine hr_Fi h (fun _ h => ?_) (fun _ h => ?_)
    · exact hr_fr.tr (hr_fr.rf _ M) (hk2 (x1 + 1) _ _ h)
    · refine hr_Fi h (fun _ h => ?_) (fun _ h => ?_)
      · exact hr_fr.tr (hr_fr.rf _ M) (fr_X4_findStrengths_42 a0 k2 (fun x1 x2 M => f_X4_findStrengths_19 a0 k2 f x1 x2 M) x1 x2 0 hk2 (fun x1 x2 M r h => ih x1 x2 M r h) _ _ h)
      · refine hr_Fb h (fun v6 M6 e h => ?_)
        have FM6 : hr_fr (hW_X4_findStrengths a0) M M6 := hr_fr.tr (hr_fr.rf _ M) (hr_fr.mono (W := hW_X4_strengthOfHues) rfl (fr_X4_strengthOfHues a0 x1 x2 _ _ e))
        exact hr_fr.tr FM6 (fr_X4_findStrengths_42 a0 k2 (fun x1 x2 M => f_X4_findStrengths_19 a0 k2 f x1 x2 M) x1 x2 v6 hk2 (fun x1 x2 M r h => ih x1 x2 M r h) _ _ h)
theorem fr_X4_findStrengths_2 (a0 : Nat) : ∀ (f : Nat) (x1 : Int32) (M : PM) (r : Unit × PM), f_X4_findStrengths_2 a0 f x1 M = some r → hr_fr (hW_X4_findStrengths a0) M r.2 := by
  intro f
  induction f with
  | zero => intro x1 M r h; cases h
  | succ f ih =>
    intro x1 M r h
    rw [f_X4_findStrengths_2.eq_2] at h
    refine hr_Fi h (fun _ h => ?_) (fun _ h => ?_)
    · cases h
      exact (hr_fr.rf _ M)
    · refine hr_Fg h (fun _ h => ?_)
      exact hr_fr.tr (hr_fr.si (by simp [hr_in, hW_X4_findStrengths]) (hr_fr.rf _ M)) (fr_X4_findStrengths_19 a0 (fun x1 M => f_X4_findStrengths_2 a0 f x1 M) (fun x1 M r h => ih x1 M r h) FU x1 0 _ _ h)
theorem fr_X4_findStrengths (a0 : Nat) : ∀ (M : PM) (r : Unit × PM), f_X4_findStrengths a0 M = some r → hr_fr (hW_X4_findStrengths a0) M r.2 := by
  intro M r h
  unfold f_X4_findStrengths at h
  refine hr_Fg h (fun _ h => ?_)
  exact hr_fr.tr (hr_fr.rf _ M) (fr_X4_findStrengths_2 a0 FU 0 _ _ h)
def hW_X4_addHolders (a1 : Nat) : List (Nat × Nat) := [(a1, 0)]
theorem fr_X4_addHolders_27 (a0 : Nat) (a1 : Nat) (a2 : Int32) (a3 : Int32) (a4 : Int32) (a5 : Int32) (a6 : Int32) (k3 : Int32 → PM → Option (Unit × PM)) (hk3 : ∀ (y0 : Int32) (M : PM) (r : Unit × PM), k3 y0 M = some r → hr_fr (hW_X4_addHolders a1) M r.2) : ∀ (f : Nat) (x7 : Int32) (x8 : Int32) (x9 : Int32) (M : PM) (r : Unit × PM), f_X4_addHolders_27 a0 a1 a2 a3 a4 a5 a6 k3 f x7 x8 x9 M = some r → hr_fr (hW_X4_addHolders a1) M r.2 := by
  intro f
  induction f with
  | zero => intro x7 x8 x9 M r h; cases h
  | succ f ih =>
    intro x7 x8 x9 M r h
    rw [f_X4_addHolders_27.eq_2] at h
    refine hr_Fi h (fun _ h => ?_) (fun _ h => ?_)
    · exact hr_fr.tr (hr_fr.rf _ M) (hk3 (x7 + 1) _ _ h)
    · refine hr_Fb h (fun v4 M4 e h => ?_)
      have FM4 : hr_fr (hW_X4_addHolders a1) M M4 := hr_fr.tr (hr_fr.rf _ M) (hr_fr.mono (W := hW_X4_touches) rfl (fr_X4_touches a4 a5 a6 x8 x9 _ _ e))
      refine hr_Fi h (fun _ h => ?_) (fun _ h => ?_)
      · exact hr_fr.tr FM4 (ih x7 x8 (x9 + 1) _ _ h)
      · refine hr_Fg h (fun _ h => ?_)
        refine hr_Fg h (fun _ h => ?_)
        exact hr_fr.tr (hr_fr.si (by simp [hr_in, hW_X4_addHolders]) FM4) (ih x7 x8 (x9 + 1) _ _ h)
theorem fr_X4_addHolders_3 (a0 : Nat) (a1 : Nat) (a2 : Int32) (a3 : Int32) (a4 : Int32) (a5 : Int32) (a6 : Int32) : ∀ (f : Nat) (x7 : Int32) (M : PM) (r : Unit × PM), f_X4_addHolders_3 a0 a1 a2 a3 a4 a5 a6 f x7 M = some r → hr_fr (hW_X4_addHolders a1) M r.2 := by
  intro f
  induction f with
  | zero => intro x7 M r h; cases h
  | succ f ih =>
    intro x7 M r h
    rw [f_X4_addHolders_3.eq_2] at h
    refine hr_Fi h (fun _ h => ?_) (fun _ h => ?_)
    · cases h
      exact (hr_fr.rf _ M)
    · refine hr_Fb h (fun v3 M3 e h => ?_)
      have FM3 : hr_fr (hW_X4_addHolders a1) M M3 := hr_fr.tr (hr_fr.rf _ M) (hr_fr.mono (W := hW_X4_measure) rfl (fr_X4_measure a0 x7 a4 a5 _ _ e))
      exact hr_fr.tr FM3 (fr_X4_addHolders_27 a0 a1 a2 a3 a4 a5 a6 (fun x7 M => f_X4_addHolders_3 a0 a1 a2 a3 a4 a5 a6 f x7 M) (fun x7 M r h => ih x7 M r h) FU x7 v3 0 _ _ h)
theorem fr_X4_addHolders (a0 : Nat) (a1 : Nat) (a2 : Int32) (a3 : Int32) (a4 : Int32) (a5 : Int32) (a6 : Int32) : ∀ (M : PM) (r : Unit × PM), f_X4_addHolders a0 a1 a2 a3 a4 a5 a6 M = some r → hr_fr (hW_X4_addHolders a1) M r.2 := by
  intro M r h
  unfold f_X4_addHolders at h
  refine hr_Fg h (fun _ h => ?_)
  refine hr_Fg h (fun _ h => ?_)
  exact hr_fr.tr (hr_fr.rf _ M) (fr_X4_addHolders_3 a0 a1 a2 a3 a4 a5 a6 FU 0 _ _ h)
def hW_X4_findHolders (a0 : Nat) : List (Nat × Nat) := [(a0 + 6, 0), (a0 + 7, 0), (a0 + 8, 0)]
theorem fr_X4_findHolders_51 (a0 : Nat) : ∀ (f : Nat) (x1 : Int32) (M : PM) (r : Unit × PM), f_X4_findHolders_51 a0 f x1 M = some r → hr_fr (hW_X4_findHolders a0) M r.2 := by
  intro f
  induction f with
  | zero => intro x1 M r h; cases h
  | succ f ih =>
    intro x1 M r h
    rw [f_X4_findHolders_51.eq_2] at h
    refine hr_Fi h (fun _ h => ?_) (fun _ h => ?_)
    · cases h
      exact (hr_fr.rf _ M)
    · refine hr_Fg h (fun _ h => ?_)
      refine hr_Fg h (fun _ h => ?_)
      refine hr_Fg h (fun _ h => ?_)
      refine hr_Fi h (fun _ h => ?_) (fun _ h => ?_)
      · refine hr_Fb h (fun v4 M4 e h => ?_)
        have FM4 : hr_fr (hW_X4_findHolders a0) M M4 := hr_fr.tr (hr_fr.rf _ M) (hr_fr.mono (W := (hW_X4_addHolders (a0 + 7))) (by simp [hr_sub, hr_cov, hr_in, hW_X4_addHolders, hW_X4_findHolders]) (fr_X4_addHolders a0 (a0 + 7) 0 27 (M.1 (a0 + 2) (3 * x1).toNatClampNeg) (M.1 (a0 + 2) ((3 * x1) + 1).toNatClampNeg) (M.1 (a0 + 2) ((3 * x1) + 2).toNatClampNeg) _ _ e))
        exact hr_fr.tr FM4 (ih (x1 + 1) _ _ h)
      · refine hr_Fi h (fun _ h => ?_) (fun _ h => ?_)
        · refine hr_Fb h (fun v9 M9 e h => ?_)
          have FM9 : hr_fr (hW_X4_findHolders a0) M M9 := hr_fr.tr (hr_fr.rf _ M) (hr_fr.mono (W := (hW_X4_addHolders (a0 + 8))) (by simp [hr_sub, hr_cov, hr_in, hW_X4_addHolders, hW_X4_findHolders]) (fr_X4_addHolders a0 (a0 + 8) (10 * (M.1 (a0 + 2) ((3 * x1) + 1).toNatClampNeg)) 9 (M.1 (a0 + 2) (3 * x1).toNatClampNeg) (M.1 (a0 + 2) ((3 * x1) + 1).toNatClampNeg) (M.1 (a0 + 2) ((3 * x1) + 2).toNatClampNeg) _ _ e))
          exact hr_fr.tr FM9 (ih (x1 + 1) _ _ h)
        · refine hr_Fi h (fun _ h => ?_) (fun _ h => ?_)
          · exact hr_fr.tr (hr_fr.rf _ M) (ih (x1 + 1) _ _ h)
          · refine hr_Fb h (fun v15 M15 e h => ?_)
            have FM15 : hr_fr (hW_X4_findHolders a0) M M15 := hr_fr.tr (hr_fr.rf _ M) (hr_fr.mono (W := (hW_X4_addHolders (a0 + 6))) (by simp [hr_sub, hr_cov, hr_in, hW_X4_addHolders, hW_X4_findHolders]) (fr_X4_addHolders a0 (a0 + 6) (10 * (M.1 (a0 + 2) ((3 * x1) + 1).toNatClampNeg)) 9 (M.1 (a0 + 2) (3 * x1).toNatClampNeg) (M.1 (a0 + 2) ((3 * x1) + 1).toNatClampNeg) (M.1 (a0 + 2) ((3 * x1) + 2).toNatClampNeg) _ _ e))
            exact hr_fr.tr FM15 (ih (x1 + 1) _ _ h)
theorem fr_X4_findHolders_30 (a0 : Nat) : ∀ (f : Nat) (x1 : Int32) (M : PM) (r : Unit × PM), f_X4_findHolders_30 a0 f x1 M = some r → hr_fr (hW_X4_findHolders a0) M r.2 := by
  intro f
  induction f with
  | zero => intro x1 M r h; cases h
  | succ f ih =>
    intro x1 M r h
    rw [f_X4_findHolders_30.eq_2] at h
    refine hr_Fi h (fun _ h => ?_) (fun _ h => ?_)
    · exact hr_fr.tr (hr_fr.rf _ M) (fr_X4_findHolders_51 a0 FU 0 _ _ h)
    · refine hr_Fg h (fun _ h => ?_)
      exact hr_fr.tr (hr_fr.si (by simp [hr_in, hW_X4_findHolders]) (hr_fr.rf _ M)) (ih (x1 + 1) _ _ h)
theorem fr_X4_findHolders_2 (a0 : Nat) : ∀ (f : Nat) (x1 : Int32) (M : PM) (r : Unit × PM), f_X4_findHolders_2 a0 f x1 M = some r → hr_fr (hW_X4_findHolders a0) M r.2 := by
  intro f
  induction f with
  | zero => intro x1 M r h; cases h
  | succ f ih =>
    intro x1 M r h
    rw [f_X4_findHolders_2.eq_2] at h
    refine hr_Fi h (fun _ h => ?_) (fun _ h => ?_)
    · exact hr_fr.tr (hr_fr.rf _ M) (fr_X4_findHolders_30 a0 FU 0 _ _ h)
    · refine hr_Fg h (fun _ h => ?_)
      refine hr_Fg h (fun _ h => ?_)
      exact hr_fr.tr (hr_fr.si (by simp [hr_in, hW_X4_findHolders]) (hr_fr.si (by simp [hr_in, hW_X4_findHolders]) (hr_fr.rf _ M))) (ih (x1 + 1) _ _ h)
theorem fr_X4_findHolders (a0 : Nat) : ∀ (M : PM) (r : Unit × PM), f_X4_findHolders a0 M = some r → hr_fr (hW_X4_findHolders a0) M r.2 := by
  intro M r h
  unfold f_X4_findHolders at h
  refine hr_Fg h (fun _ h => ?_)
  exact hr_fr.tr (hr_fr.rf _ M) (fr_X4_findHolders_2 a0 FU 0 _ _ h)
def hW_X4_copyFrom (a0 : Nat) : List (Nat × Nat) := [(a0, 1), (a0, 11), (a0, 2), (a0 + 1, 0), (a0 + 2, 0), (a0 + 3, 0), (a0 + 4, 0), (a0 + 5, 0), (a0 + 6, 0), (a0 + 7, 0), (a0 + 8, 0)]
theorem fr_X4_copyFrom (a0 : Nat) (a1 : Nat) : ∀ (M : PM) (r : Unit × PM), f_X4_copyFrom a0 a1 M = some r → hr_fr (hW_X4_copyFrom a0) M r.2 := by
  intro M r h
  unfold f_X4_copyFrom at h
  refine hr_Fg h (fun _ h => ?_)
  refine hr_Fg h (fun _ h => ?_)
  refine hr_Fg h (fun _ h => ?_)
  refine hr_Fg h (fun _ h => ?_)
  refine hr_Fg h (fun _ h => ?_)
  refine hr_Fb h (fun v2 M2 e h => ?_)
  have FM2 : hr_fr (hW_X4_copyFrom a0) M M2 := hr_fr.tr (hr_fr.si (by simp [hr_in, hW_X4_copyFrom]) (hr_fr.sr (fun k => (by simp [hr_in, hW_X4_copyFrom])) (hr_fr.sr (fun k => (by simp [hr_in, hW_X4_copyFrom])) (hr_fr.sr (fun k => (by simp [hr_in, hW_X4_copyFrom])) (hr_fr.si (by simp [hr_in, hW_X4_copyFrom]) (hr_fr.si (by simp [hr_in, hW_X4_copyFrom]) (hr_fr.rf _ M))))))) (hr_fr.mono (W := (hW_X4_findStrengths a0)) (by simp [hr_sub, hr_cov, hr_in, hW_X4_findStrengths, hW_X4_copyFrom]) (fr_X4_findStrengths a0 _ _ e))
  refine hr_Fb h (fun v4 M4 e h => ?_)
  have FM4 : hr_fr (hW_X4_copyFrom a0) M M4 := hr_fr.tr FM2 (hr_fr.mono (W := (hW_X4_findHolders a0)) (by simp [hr_sub, hr_cov, hr_in, hW_X4_findHolders, hW_X4_copyFrom]) (fr_X4_findHolders a0 _ _ e))
  cases h
  exact FM4
def hW_X4_all : List (Nat × Nat) := []
theorem fr_X4_all (a0 : Nat) : ∀ (M : PM) (r : Int32 × PM), f_X4_all a0 M = some r → hr_fr hW_X4_all M r.2 := by
  intro M r h
  unfold f_X4_all at h
  refine hr_Fg h (fun _ h => ?_)
  cases h
  exact (hr_fr.rf _ M)
def hW_X4_has : List (Nat × Nat) := []
theorem fr_X4_has (a0 : Nat) (a1 : Int32) : ∀ (M : PM) (r : Int32 × PM), f_X4_has a0 a1 M = some r → hr_fr hW_X4_has M r.2 := by
  intro M r h
  unfold f_X4_has at h
  refine hr_Fg h (fun _ h => ?_)
  refine hr_Fi h (fun _ h => ?_) (fun _ h => ?_)
  · cases h
    exact (hr_fr.rf _ M)
  · refine hr_Fi h (fun _ h => ?_) (fun _ h => ?_)
    · cases h
      exact (hr_fr.rf _ M)
    · cases h
      exact (hr_fr.rf _ M)
