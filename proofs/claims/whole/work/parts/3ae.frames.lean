/-! printed by wip/whole/gen/gen40.py: what the functions may write -/
def hW_X11_fewestRooms : List (Nat × Nat) := [(295, 0)]
theorem fr_X11_fewestRooms_29 (k9 : Int32 → PM → Option (Int32 × PM)) (hk9 : ∀ (y0 : Int32) (M : PM) (r : Int32 × PM), k9 y0 M = some r → hr_fr hW_X11_fewestRooms M r.2) : ∀ (f : Nat) (x1 : Int32) (x2 : Int32) (M : PM) (r : Int32 × PM), f_X11_fewestRooms_29 k9 f x1 x2 M = some r → hr_fr hW_X11_fewestRooms M r.2 := by
  intro f
  induction f with
  | zero => intro x1 x2 M r h; cases h
  | succ f ih =>
    intro x1 x2 M r h
    rw [f_X11_fewestRooms_29.eq_2] at h
    refine hr_Fi h (fun _ h => ?_) (fun _ h => ?_)
    · exact hr_fr.tr (hr_fr.rf _ M) (hk9 (x1 + 1) _ _ h)
    · refine hr_Fg h (fun _ h => ?_)
      refine hr_Fg h (fun _ h => ?_)
      refine hr_Fi h (fun _ h => ?_) (fun _ h => ?_)
      · refine hr_Fg h (fun _ h => ?_)
        refine hr_Fg h (fun _ h => ?_)
        exact hr_fr.tr (hr_fr.si rfl (hr_fr.rf _ M)) (ih x1 ((x2 - 1) &&& x1) _ _ h)
      · refine hr_Fb h (fun v7 M7 e h => ?_)
        have FM7 : hr_fr hW_X11_fewestRooms M M7 := hr_fr.tr (hr_fr.rf _ M) (hr_fr.mono (W := hW_X11_isSet) rfl (fr_X11_isSet x2 0 _ _ e))
        refine hr_Fi h (fun _ h => ?_) (fun _ h => ?_)
        · refine hr_Fg h (fun _ h => ?_)
          refine hr_Fg h (fun _ h => ?_)
          exact hr_fr.tr (hr_fr.si rfl FM7) (ih x1 ((x2 - 1) &&& x1) _ _ h)
        · refine hr_Fg h (fun _ h => ?_)
          exact hr_fr.tr (hr_fr.si rfl FM7) (ih x1 ((x2 - 1) &&& x1) _ _ h)
theorem fr_X11_fewestRooms_9  : ∀ (f : Nat) (x1 : Int32) (M : PM) (r : Int32 × PM), f_X11_fewestRooms_9 f x1 M = some r → hr_fr hW_X11_fewestRooms M r.2 := by
  intro f
  induction f with
  | zero => intro x1 M r h; cases h
  | succ f ih =>
    intro x1 M r h
    rw [f_X11_fewestRooms_9.eq_2] at h
    refine hr_Fb h (fun v2 M2 e h => ?_)
    have FM2 : hr_fr hW_X11_fewestRooms M M2 := hr_fr.tr (hr_fr.rf _ M) (hr_fr.mono (W := hW_X11_pictures) rfl (fr_X11_pictures  _ _ e))
    refine hr_Fi h (fun _ h => ?_) (fun _ h => ?_)
    · refine hr_Fb h (fun v5 M5 e h => ?_)
      have FM5 : hr_fr hW_X11_fewestRooms M M5 := hr_fr.tr FM2 (hr_fr.mono (W := hW_X11_pictures) rfl (fr_X11_pictures  _ _ e))
      refine hr_Fg h (fun _ h => ?_)
      cases h
      exact FM5
    · refine hr_Fg h (fun _ h => ?_)
      exact hr_fr.tr (hr_fr.si rfl FM2) (fr_X11_fewestRooms_29 (fun x1 M => f_X11_fewestRooms_9 f x1 M) (fun x1 M r h => ih x1 M r h) FU x1 x1 _ _ h)
theorem fr_X11_fewestRooms  : ∀ (M : PM) (r : Int32 × PM), f_X11_fewestRooms M = some r → hr_fr hW_X11_fewestRooms M r.2 := by
  intro M r h
  unfold f_X11_fewestRooms at h
  refine hr_Fg h (fun _ h => ?_)
  exact hr_fr.tr (hr_fr.si rfl (hr_fr.rf _ M)) (fr_X11_fewestRooms_9 FU 1 _ _ h)
def hW_X11_worst : List (Nat × Nat) := []
theorem fr_X11_worst_4  : ∀ (f : Nat) (x1 : Int32) (x2 : Int32) (M : PM) (r : Int32 × PM), f_X11_worst_4 f x1 x2 M = some r → hr_fr hW_X11_worst M r.2 := by
  intro f
  induction f with
  | zero => intro x1 x2 M r h; cases h
  | succ f ih =>
    intro x1 x2 M r h
    rw [f_X11_worst_4.eq_2] at h
    refine hr_Fb h (fun v2 M2 e h => ?_)
    have FM2 : hr_fr hW_X11_worst M M2 := hr_fr.tr (hr_fr.rf _ M) (hr_fr.mono (W := hW_X11_pictures) rfl (fr_X11_pictures  _ _ e))
    refine hr_Fi h (fun _ h => ?_) (fun _ h => ?_)
    · cases h
      exact FM2
    · refine hr_Fi h (fun _ h => ?_) (fun _ h => ?_)
      · exact hr_fr.tr FM2 (ih x2 (x2 + 1) _ _ h)
      · refine hr_Fb h (fun v9 M9 e h => ?_)
        have FM9 : hr_fr hW_X11_worst M M9 := hr_fr.tr FM2 (hr_fr.mono (W := hW_X11_strengthsOf) rfl (fr_X11_strengthsOf x2 _ _ e))
        refine hr_Fb h (fun v11 M11 e h => ?_)
        have FM11 : hr_fr hW_X11_worst M M11 := hr_fr.tr FM9 (hr_fr.mono (W := hW_X11_strengthsOf) rfl (fr_X11_strengthsOf x1 _ _ e))
        refine hr_Fi h (fun _ h => ?_) (fun _ h => ?_)
        · exact hr_fr.tr FM11 (ih x1 (x2 + 1) _ _ h)
        · exact hr_fr.tr FM11 (ih x2 (x2 + 1) _ _ h)
theorem fr_X11_worst  : ∀ (M : PM) (r : Int32 × PM), f_X11_worst M = some r → hr_fr hW_X11_worst M r.2 := by
  intro M r h
  unfold f_X11_worst at h
  exact hr_fr.tr (hr_fr.rf _ M) (fr_X11_worst_4 FU (-1) 0 _ _ h)
def hW_X11_hung : List (Nat × Nat) := [(275, 1), (275, 25), (275, 26), (275, 29), (288, 0), (289, 0), (295, 0)]
theorem fr_X11_hung_78 (a1 : Int32) (a2 : Int32) (a3 : Int32) : ∀ (f : Nat) (x4 : Int32) (x5 : Int32) (M : PM) (r : Int32 × PM), f_X11_hung_78 a1 a2 a3 f x4 x5 M = some r → hr_fr hW_X11_hung M r.2 := by
  intro f
  induction f with
  | zero => intro x4 x5 M r h; cases h
  | succ f ih =>
    intro x4 x5 M r h
    rw [f_X11_hung_78.eq_2] at h
    refine hr_Fb h (fun v2 M2 e h => ?_)
    have FM2 : hr_fr hW_X11_hung M M2 := hr_fr.tr (hr_fr.rf _ M) (hr_fr.mono (W := hW_X11_pictures) rfl (fr_X11_pictures  _ _ e))
    refine hr_Fi h (fun _ h => ?_) (fun _ h => ?_)
    · cases h
      exact FM2
    · refine hr_Fb h (fun v6 M6 e h => ?_)
      have FM6 : hr_fr hW_X11_hung M M6 := hr_fr.tr FM2 (hr_fr.mono (W := hW_X11_strengthsOf) rfl (fr_X11_strengthsOf x5 _ _ e))
      exact hr_fr.tr FM6 (ih (x4 + v6) (x5 + 1) _ _ h)
theorem fr_X11_hung (a1 : Int32) (a2 : Int32) (a3 : Int32) : ∀ (M : PM) (r : Int32 × PM), f_X11_hung a1 a2 a3 M = some r → hr_fr hW_X11_hung M r.2 := by
  intro M r h
  unfold f_X11_hung at h
  refine hr_Fb h (fun v2 M2 e h => ?_)
  have FM2 : hr_fr hW_X11_hung M M2 := hr_fr.tr (hr_fr.si rfl (hr_fr.rf _ M)) (hr_fr.mono (W := hW_X11_layGallery) rfl (fr_X11_layGallery a1 a2 _ _ e))
  refine hr_Fi h (fun _ h => ?_) (fun _ h => ?_)
  · cases h
    exact FM2
  · refine hr_Fi h (fun _ h => ?_) (fun _ h => ?_)
    · refine hr_Fb h (fun v7 M7 e h => ?_)
      have FM7 : hr_fr hW_X11_hung M M7 := hr_fr.tr FM2 (hr_fr.mono (W := hW_X11_fewestRooms) rfl (fr_X11_fewestRooms  _ _ e))
      cases h
      exact FM7
    · refine hr_Fi h (fun _ h => ?_) (fun _ h => ?_)
      · refine hr_Fb h (fun v9 M9 e h => ?_)
        have FM9 : hr_fr hW_X11_hung M M9 := hr_fr.tr FM2 (hr_fr.mono (W := hW_X11_greatestSet) rfl (fr_X11_greatestSet  _ _ e))
        cases h
        exact FM9
      · refine hr_Fi h (fun _ h => ?_) (fun _ h => ?_)
        · refine hr_Fb h (fun v11 M11 e h => ?_)
          have FM11 : hr_fr hW_X11_hung M M11 := hr_fr.tr FM2 (hr_fr.mono (W := hW_X11_curtains) rfl (fr_X11_curtains  _ _ e))
          cases h
          exact FM11
        · refine hr_Fi h (fun _ h => ?_) (fun _ h => ?_)
          · refine hr_Fb h (fun v13 M13 e h => ?_)
            have FM13 : hr_fr hW_X11_hung M M13 := hr_fr.tr FM2 (hr_fr.mono (W := hW_X11_worst) rfl (fr_X11_worst  _ _ e))
            cases h
            exact FM13
          · refine hr_Fi h (fun _ h => ?_) (fun _ h => ?_)
            · exact hr_fr.tr FM2 (fr_X11_hung_78 a1 a2 a3 FU 0 0 _ _ h)
            · cases h
              exact FM2
def hW_X11_follows : List (Nat × Nat) := []
theorem fr_X11_follows (a1 : Int32) (a2 : Int32) : ∀ (M : PM) (r : Int32 × PM), f_X11_follows a1 a2 M = some r → hr_fr hW_X11_follows M r.2 := by
  intro M r h
  unfold f_X11_follows at h
  refine hr_Fg h (fun _ h => ?_)
  refine hr_Fg h (fun _ h => ?_)
  refine hr_Fb h (fun v2 M2 e h => ?_)
  have FM2 : hr_fr hW_X11_follows M M2 := hr_fr.tr (hr_fr.rf _ M) (hr_fr.mono (W := hW_X11_clash) rfl (fr_X11_clash (M.1 296 a1.toNatClampNeg) (M.1 296 a2.toNatClampNeg) _ _ e))
  refine hr_Fi h (fun _ h => ?_) (fun _ h => ?_)
  · cases h
    exact FM2
  · cases h
    exact FM2
def hW_X11_findBehind : List (Nat × Nat) := [(297, 0)]
theorem fr_X11_findBehind_108 (k11 : Int32 → Int32 → PM → Option (Unit × PM)) (k17 : Int32 → Int32 → Int32 → PM → Option (Unit × PM)) (x1 : Int32) (x2 : Int32) (x3 : Int32) (x4 : Int64) (hk11 : ∀ (y0 : Int32) (y1 : Int32) (M : PM) (r : Unit × PM), k11 y0 y1 M = some r → hr_fr hW_X11_findBehind M r.2) (hk17 : ∀ (y0 : Int32) (y1 : Int32) (y2 : Int32) (M : PM) (r : Unit × PM), k17 y0 y1 y2 M = some r → hr_fr hW_X11_findBehind M r.2) : ∀ (M : PM) (r : Unit × PM), f_X11_findBehind_108 k11 k17 x1 x2 x3 x4 M = some r → hr_fr hW_X11_findBehind M r.2 := by
  intro M r h
  unfold f_X11_findBehind_108 at h
  refine hr_Fb h (fun v2 M2 e h => ?_)
  have FM2 : hr_fr hW_X11_findBehind M M2 := hr_fr.tr (hr_fr.rf _ M) (hr_fr.mono (W := hW_X11_has) rfl (fr_X11_has x2 x3 _ _ e))
  refine hr_Fi h (fun _ h => ?_) (fun _ h => ?_)
  · refine hr_Fg h (fun _ h => ?_)
    exact hr_fr.tr (hr_fr.sl rfl FM2) (hk17 x1 x2 (x3 + 1) _ _ h)
  · refine hr_Fg h (fun _ h => ?_)
    exact hr_fr.tr (hr_fr.sl rfl FM2) (hk17 x1 x2 (x3 + 1) _ _ h)
theorem fr_X11_findBehind_40 (k11 : Int32 → Int32 → PM → Option (Unit × PM)) (k17 : Int32 → Int32 → Int32 → PM → Option (Unit × PM)) (hk11 : ∀ (y0 : Int32) (y1 : Int32) (M : PM) (r : Unit × PM), k11 y0 y1 M = some r → hr_fr hW_X11_findBehind M r.2) (hk17 : ∀ (y0 : Int32) (y1 : Int32) (y2 : Int32) (M : PM) (r : Unit × PM), k17 y0 y1 y2 M = some r → hr_fr hW_X11_findBehind M r.2) : ∀ (f : Nat) (x1 : Int32) (x2 : Int32) (x3 : Int32) (x4 : Int64) (x6 : Int32) (M : PM) (r : Unit × PM), f_X11_findBehind_40 k11 k17 f x1 x2 x3 x4 x6 M = some r → hr_fr hW_X11_findBehind M r.2 := by
  intro f
  induction f with
  | zero => intro x1 x2 x3 x4 x6 M r h; cases h
  | succ f ih =>
    intro x1 x2 x3 x4 x6 M r h
    rw [f_X11_findBehind_40.eq_2] at h
    refine hr_Fi h (fun _ h => ?_) (fun _ h => ?_)
    · exact hr_fr.tr (hr_fr.rf _ M) (fr_X11_findBehind_108 k11 k17 x1 x2 x3 x4 hk11 hk17 _ _ h)
    · refine hr_Fb h (fun v3 M3 e h => ?_)
      have FM3 : hr_fr hW_X11_findBehind M M3 := hr_fr.tr (hr_fr.rf _ M) (hr_fr.mono (W := hW_X11_has) rfl (fr_X11_has x2 x3 _ _ e))
      refine hr_Fi h (fun _ h => ?_) (fun _ h => ?_)
      · exact hr_fr.tr FM3 (fr_X11_findBehind_108 k11 k17 x1 x2 x3 x4 hk11 hk17 _ _ h)
      · refine hr_Fb h (fun v6 M6 e h => ?_)
        have FM6 : hr_fr hW_X11_findBehind M M6 := hr_fr.tr FM3 (hr_fr.mono (W := hW_X11_has) rfl (fr_X11_has x2 x6 _ _ e))
        refine hr_Fi h (fun _ h => ?_) (fun _ h => ?_)
        · refine hr_Fb h (fun v9 M9 e h => ?_)
          have FM9 : hr_fr hW_X11_findBehind M M9 := hr_fr.tr FM6 (hr_fr.mono (W := hW_X11_follows) rfl (fr_X11_follows x3 x6 _ _ e))
          refine hr_Fi h (fun _ h => ?_) (fun _ h => ?_)
          · exact hr_fr.tr FM9 (ih x1 x2 x3 (x4 + 0) (x6 + 1) _ _ h)
          · refine hr_Fg h (fun _ h => ?_)
            exact hr_fr.tr FM9 (ih x1 x2 x3 (x4 + (M9.2.1 297 ((10 * (x2 ||| (jl 1 x6))) + x6).toNatClampNeg)) (x6 + 1) _ _ h)
        · exact hr_fr.tr FM6 (ih x1 x2 x3 (x4 + 0) (x6 + 1) _ _ h)
theorem fr_X11_findBehind_17 (k11 : Int32 → Int32 → PM → Option (Unit × PM)) (hk11 : ∀ (y0 : Int32) (y1 : Int32) (M : PM) (r : Unit × PM), k11 y0 y1 M = some r → hr_fr hW_X11_findBehind M r.2) : ∀ (f : Nat) (x1 : Int32) (x2 : Int32) (x3 : Int32) (M : PM) (r : Unit × PM), f_X11_findBehind_17 k11 f x1 x2 x3 M = some r → hr_fr hW_X11_findBehind M r.2 := by
  intro f
  induction f with
  | zero => intro x1 x2 x3 M r h; cases h
  | succ f ih =>
    intro x1 x2 x3 M r h
    rw [f_X11_findBehind_17.eq_2] at h
    refine hr_Fi h (fun _ h => ?_) (fun _ h => ?_)
    · exact hr_fr.tr (hr_fr.rf _ M) (hk11 x1 (x2 + (-1)) _ _ h)
    · refine hr_Fi h (fun _ h => ?_) (fun _ h => ?_)
      · exact hr_fr.tr (hr_fr.rf _ M) (fr_X11_findBehind_40 k11 (fun x1 x2 x3 M => f_X11_findBehind_17 k11 f x1 x2 x3 M) hk11 (fun x1 x2 x3 M r h => ih x1 x2 x3 M r h) FU x1 x2 x3 1 0 _ _ h)
      · exact hr_fr.tr (hr_fr.rf _ M) (fr_X11_findBehind_40 k11 (fun x1 x2 x3 M => f_X11_findBehind_17 k11 f x1 x2 x3 M) hk11 (fun x1 x2 x3 M r h => ih x1 x2 x3 M r h) FU x1 x2 x3 0 0 _ _ h)
theorem fr_X11_findBehind_11  : ∀ (f : Nat) (x1 : Int32) (x2 : Int32) (M : PM) (r : Unit × PM), f_X11_findBehind_11 f x1 x2 M = some r → hr_fr hW_X11_findBehind M r.2 := by
  intro f
  induction f with
  | zero => intro x1 x2 M r h; cases h
  | succ f ih =>
    intro x1 x2 M r h
    rw [f_X11_findBehind_11.eq_2] at h
    refine hr_Fi h (fun _ h => ?_) (fun _ h => ?_)
    · cases h
      exact (hr_fr.rf _ M)
    · exact hr_fr.tr (hr_fr.rf _ M) (fr_X11_findBehind_17 (fun x1 x2 M => f_X11_findBehind_11 f x1 x2 M) (fun x1 x2 M r h => ih x1 x2 M r h) FU x1 x2 0 _ _ h)
theorem fr_X11_findBehind  : ∀ (M : PM) (r : Unit × PM), f_X11_findBehind M = some r → hr_fr hW_X11_findBehind M r.2 := by
  intro M r h
  unfold f_X11_findBehind at h
  exact hr_fr.tr (hr_fr.rf _ M) (fr_X11_findBehind_11 FU ((jl 1 (M.1 275 41)) - 1) ((jl 1 (M.1 275 41)) - 1) _ _ h)
def hW_X11_allRows : List (Nat × Nat) := [(297, 0)]
theorem fr_X11_allRows_19  : ∀ (f : Nat) (x1 : Int64) (x3 : Int32) (M : PM) (r : Int64 × PM), f_X11_allRows_19 f x1 x3 M = some r → hr_fr hW_X11_allRows M r.2 := by
  intro f
  induction f with
  | zero => intro x1 x3 M r h; cases h
  | succ f ih =>
    intro x1 x3 M r h
    rw [f_X11_allRows_19.eq_2] at h
    refine hr_Fi h (fun _ h => ?_) (fun _ h => ?_)
    · cases h
      exact (hr_fr.rf _ M)
    · refine hr_Fg h (fun _ h => ?_)
      exact hr_fr.tr (hr_fr.rf _ M) (ih (x1 + (M.2.1 297 ((10 * (jl 1 x3)) + x3).toNatClampNeg)) (x3 + 1) _ _ h)
theorem fr_X11_allRows  : ∀ (M : PM) (r : Int64 × PM), f_X11_allRows M = some r → hr_fr hW_X11_allRows M r.2 := by
  intro M r h
  unfold f_X11_allRows at h
  refine hr_Fb h (fun v2 M2 e h => ?_)
  have FM2 : hr_fr hW_X11_allRows M M2 := hr_fr.tr (hr_fr.rf _ M) (hr_fr.mono (W := hW_X11_findBehind) rfl (fr_X11_findBehind  _ _ e))
  refine hr_Fi h (fun _ h => ?_) (fun _ h => ?_)
  · exact hr_fr.tr FM2 (fr_X11_allRows_19 FU 1 0 _ _ h)
  · exact hr_fr.tr FM2 (fr_X11_allRows_19 FU 0 0 _ _ h)
def hW_X11_rowAt : List (Nat × Nat) := []
theorem fr_X11_rowAt_40 (a1 : Int32) (k7 : Int32 → Int32 → Int32 → PM → Option (Int32 × PM)) (k16 : Int32 → Int32 → Int32 → Int32 → PM → Option (Int32 × PM)) (x2 : Int32) (x3 : Int32) (x4 : Int32) (x5 : Int32) (hk7 : ∀ (y0 : Int32) (y1 : Int32) (y2 : Int32) (M : PM) (r : Int32 × PM), k7 y0 y1 y2 M = some r → hr_fr hW_X11_rowAt M r.2) (hk16 : ∀ (y0 : Int32) (y1 : Int32) (y2 : Int32) (y3 : Int32) (M : PM) (r : Int32 × PM), k16 y0 y1 y2 y3 M = some r → hr_fr hW_X11_rowAt M r.2) : ∀ (M : PM) (r : Int32 × PM), f_X11_rowAt_40 a1 k7 k16 x2 x3 x4 x5 M = some r → hr_fr hW_X11_rowAt M r.2 := by
  intro M r h
  unfold f_X11_rowAt_40 at h
  refine hr_Fg h (fun _ h => ?_)
  refine hr_Fi h (fun _ h => ?_) (fun _ h => ?_)
  · exact hr_fr.tr (hr_fr.rf _ M) (hk16 x2 x3 x4 (x5 + 1) _ _ h)
  · exact hr_fr.tr (hr_fr.rf _ M) (hk7 (x2 ||| (jl 1 x5)) x5 (x4 + 1) _ _ h)
theorem fr_X11_rowAt_16 (a1 : Int32) (k7 : Int32 → Int32 → Int32 → PM → Option (Int32 × PM)) (hk7 : ∀ (y0 : Int32) (y1 : Int32) (y2 : Int32) (M : PM) (r : Int32 × PM), k7 y0 y1 y2 M = some r → hr_fr hW_X11_rowAt M r.2) : ∀ (f : Nat) (x2 : Int32) (x3 : Int32) (x4 : Int32) (x5 : Int32) (M : PM) (r : Int32 × PM), f_X11_rowAt_16 a1 k7 f x2 x3 x4 x5 M = some r → hr_fr hW_X11_rowAt M r.2 := by
  intro f
  induction f with
  | zero => intro x2 x3 x4 x5 M r h; cases h
  | succ f ih =>
    intro x2 x3 x4 x5 M r h
    rw [f_X11_rowAt_16.eq_2] at h
    refine hr_Fb h (fun v2 M2 e h => ?_)
    have FM2 : hr_fr hW_X11_rowAt M M2 := hr_fr.tr (hr_fr.rf _ M) (hr_fr.mono (W := hW_X11_has) rfl (fr_X11_has x2 x5 _ _ e))
    refine hr_Fi h (fun _ h => ?_) (fun _ h => ?_)
    · refine hr_Fi h (fun _ h => ?_) (fun _ h => ?_)
      · exact hr_fr.tr FM2 (fr_X11_rowAt_40 a1 k7 (fun x2 x3 x4 x5 M => f_X11_rowAt_16 a1 k7 f x2 x3 x4 x5 M) x2 x3 x4 x5 hk7 (fun x2 x3 x4 x5 M r h => ih x2 x3 x4 x5 M r h) _ _ h)
      · refine hr_Fb h (fun v6 M6 e h => ?_)
        have FM6 : hr_fr hW_X11_rowAt M M6 := hr_fr.tr FM2 (hr_fr.mono (W := hW_X11_follows) rfl (fr_X11_follows x3 x5 _ _ e))
        refine hr_Fi h (fun _ h => ?_) (fun _ h => ?_)
        · exact hr_fr.tr FM6 (ih x2 x3 x4 (x5 + 1) _ _ h)
        · exact hr_fr.tr FM6 (fr_X11_rowAt_40 a1 k7 (fun x2 x3 x4 x5 M => f_X11_rowAt_16 a1 k7 f x2 x3 x4 x5 M) x2 x3 x4 x5 hk7 (fun x2 x3 x4 x5 M r h => ih x2 x3 x4 x5 M r h) _ _ h)
    · exact hr_fr.tr FM2 (ih x2 x3 x4 (x5 + 1) _ _ h)
theorem fr_X11_rowAt_7 (a1 : Int32) : ∀ (f : Nat) (x2 : Int32) (x3 : Int32) (x4 : Int32) (M : PM) (r : Int32 × PM), f_X11_rowAt_7 a1 f x2 x3 x4 M = some r → hr_fr hW_X11_rowAt M r.2 := by
  intro f
  induction f with
  | zero => intro x2 x3 x4 M r h; cases h
  | succ f ih =>
    intro x2 x3 x4 M r h
    rw [f_X11_rowAt_7.eq_2] at h
    refine hr_Fi h (fun _ h => ?_) (fun _ h => ?_)
    · cases h
      exact (hr_fr.rf _ M)
    · exact hr_fr.tr (hr_fr.rf _ M) (fr_X11_rowAt_16 a1 (fun x2 x3 x4 M => f_X11_rowAt_7 a1 f x2 x3 x4 M) (fun x2 x3 x4 M r h => ih x2 x3 x4 M r h) FU x2 x3 x4 0 _ _ h)
theorem fr_X11_rowAt (a1 : Int32) : ∀ (M : PM) (r : Int32 × PM), f_X11_rowAt a1 M = some r → hr_fr hW_X11_rowAt M r.2 := by
  intro M r h
  unfold f_X11_rowAt at h
  exact hr_fr.tr (hr_fr.rf _ M) (fr_X11_rowAt_7 a1 FU 0 (-1) 0 _ _ h)
def hW_X11_layPictures : List (Nat × Nat) := [(275, 42), (296, 0)]
theorem fr_X11_layPictures_10  : ∀ (f : Nat) (x1 : Int32) (M : PM) (r : Unit × PM), f_X11_layPictures_10 f x1 M = some r → hr_fr hW_X11_layPictures M r.2 := by
  intro f
  induction f with
  | zero => intro x1 M r h; cases h
  | succ f ih =>
    intro x1 M r h
    rw [f_X11_layPictures_10.eq_2] at h
    refine hr_Fi h (fun _ h => ?_) (fun _ h => ?_)
    · cases h
      exact (hr_fr.rf _ M)
    · refine hr_Fb h (fun v3 M3 e h => ?_)
      have FM3 : hr_fr hW_X11_layPictures M M3 := hr_fr.tr (hr_fr.rf _ M) (hr_fr.mono (W := hW_X11_hueOf) rfl (fr_X11_hueOf x1 _ _ e))
      refine hr_Fg h (fun _ h => ?_)
      exact hr_fr.tr (hr_fr.si rfl FM3) (ih (x1 + 1) _ _ h)
theorem fr_X11_layPictures  : ∀ (M : PM) (r : Unit × PM), f_X11_layPictures M = some r → hr_fr hW_X11_layPictures M r.2 := by
  intro M r h
  unfold f_X11_layPictures at h
  refine hr_Fb h (fun v2 M2 e h => ?_)
  have FM2 : hr_fr hW_X11_layPictures M M2 := hr_fr.tr (hr_fr.rf _ M) (hr_fr.mono (W := hW_X11_pictures) rfl (fr_X11_pictures  _ _ e))
  exact hr_fr.tr (hr_fr.si rfl FM2) (fr_X11_layPictures_10 FU 0 _ _ h)
def hW_X11_layThreads : List (Nat × Nat) := [(275, 42), (296, 0)]
theorem fr_X11_layThreads_7 (a1 : Int32) : ∀ (f : Nat) (x2 : Int32) (M : PM) (r : Unit × PM), f_X11_layThreads_7 a1 f x2 M = some r → hr_fr hW_X11_layThreads M r.2 := by
  intro f
  induction f with
  | zero => intro x2 M r h; cases h
  | succ f ih =>
    intro x2 M r h
    rw [f_X11_layThreads_7.eq_2] at h
    refine hr_Fi h (fun _ h => ?_) (fun _ h => ?_)
    · cases h
      exact (hr_fr.rf _ M)
    · refine hr_Fb h (fun v3 M3 e h => ?_)
      have FM3 : hr_fr hW_X11_layThreads M M3 := hr_fr.tr (hr_fr.rf _ M) (hr_fr.mono (W := hW_X11_has) rfl (fr_X11_has a1 x2 _ _ e))
      refine hr_Fi h (fun _ h => ?_) (fun _ h => ?_)
      · exact hr_fr.tr FM3 (ih (x2 + 1) _ _ h)
      · refine hr_Fg h (fun _ h => ?_)
        exact hr_fr.tr (hr_fr.si rfl (hr_fr.si rfl FM3)) (ih (x2 + 1) _ _ h)
theorem fr_X11_layThreads (a1 : Int32) : ∀ (M : PM) (r : Unit × PM), f_X11_layThreads a1 M = some r → hr_fr hW_X11_layThreads M r.2 := by
  intro M r h
  unfold f_X11_layThreads at h
  exact hr_fr.tr (hr_fr.si rfl (hr_fr.rf _ M)) (fr_X11_layThreads_7 a1 FU 0 _ _ h)
def hW_X11_rows : List (Nat × Nat) := [(275, 1), (275, 25), (275, 26), (275, 29), (275, 42), (288, 0), (289, 0), (296, 0), (297, 0)]
theorem fr_X11_rows (a1 : Int32) (a2 : Int32) : ∀ (M : PM) (r : Int64 × PM), f_X11_rows a1 a2 M = some r → hr_fr hW_X11_rows M r.2 := by
  intro M r h
  unfold f_X11_rows at h
  refine hr_Fb h (fun v2 M2 e h => ?_)
  have FM2 : hr_fr hW_X11_rows M M2 := hr_fr.tr (hr_fr.si rfl (hr_fr.rf _ M)) (hr_fr.mono (W := hW_X11_layGallery) rfl (fr_X11_layGallery a1 a2 _ _ e))
  refine hr_Fi h (fun _ h => ?_) (fun _ h => ?_)
  · cases h
    exact FM2
  · refine hr_Fb h (fun v6 M6 e h => ?_)
    have FM6 : hr_fr hW_X11_rows M M6 := hr_fr.tr FM2 (hr_fr.mono (W := hW_X11_layPictures) rfl (fr_X11_layPictures  _ _ e))
    refine hr_Fb h (fun v8 M8 e h => ?_)
    have FM8 : hr_fr hW_X11_rows M M8 := hr_fr.tr FM6 (hr_fr.mono (W := hW_X11_allRows) rfl (fr_X11_allRows  _ _ e))
    cases h
    exact FM8
def hW_X11_row : List (Nat × Nat) := [(275, 1), (275, 25), (275, 26), (275, 29), (275, 42), (288, 0), (289, 0), (296, 0), (297, 0)]
theorem fr_X11_row (a1 : Int32) (a2 : Int32) (a3 : Int32) : ∀ (M : PM) (r : Int32 × PM), f_X11_row a1 a2 a3 M = some r → hr_fr hW_X11_row M r.2 := by
  intro M r h
  unfold f_X11_row at h
  refine hr_Fb h (fun v2 M2 e h => ?_)
  have FM2 : hr_fr hW_X11_row M M2 := hr_fr.tr (hr_fr.si rfl (hr_fr.rf _ M)) (hr_fr.mono (W := hW_X11_layGallery) rfl (fr_X11_layGallery a1 a2 _ _ e))
  refine hr_Fi h (fun _ h => ?_) (fun _ h => ?_)
  · cases h
    exact FM2
  · refine hr_Fb h (fun v6 M6 e h => ?_)
    have FM6 : hr_fr hW_X11_row M M6 := hr_fr.tr FM2 (hr_fr.mono (W := hW_X11_pictures) rfl (fr_X11_pictures  _ _ e))
    refine hr_Fb h (fun v8 M8 e h => ?_)
    have FM8 : hr_fr hW_X11_row M M8 := hr_fr.tr FM6 (hr_fr.mono (W := hW_X11_in) rfl (fr_X11_in a3 0 (v6 - 1) _ _ e))
    refine hr_Fi h (fun _ h => ?_) (fun _ h => ?_)
    · cases h
      exact FM8
    · refine hr_Fb h (fun v12 M12 e h => ?_)
      have FM12 : hr_fr hW_X11_row M M12 := hr_fr.tr FM8 (hr_fr.mono (W := hW_X11_layPictures) rfl (fr_X11_layPictures  _ _ e))
      refine hr_Fb h (fun v14 M14 e h => ?_)
      have FM14 : hr_fr hW_X11_row M M14 := hr_fr.tr FM12 (hr_fr.mono (W := hW_X11_allRows) rfl (fr_X11_allRows  _ _ e))
      refine hr_Fi h (fun _ h => ?_) (fun _ h => ?_)
      · cases h
        exact FM14
      · refine hr_Fb h (fun v18 M18 e h => ?_)
        have FM18 : hr_fr hW_X11_row M M18 := hr_fr.tr FM14 (hr_fr.mono (W := hW_X11_rowAt) rfl (fr_X11_rowAt a3 _ _ e))
        cases h
        exact FM18
def hW_X11_paintCost : List (Nat × Nat) := []
theorem fr_X11_paintCost_5 (a1 : Int32) (a2 : Int32) : ∀ (f : Nat) (x3 : Int32) (x4 : Int32) (M : PM) (r : Int32 × PM), f_X11_paintCost_5 a1 a2 f x3 x4 M = some r → hr_fr hW_X11_paintCost M r.2 := by
  intro f
  induction f with
  | zero => intro x3 x4 M r h; cases h
  | succ f ih =>
    intro x3 x4 M r h
    rw [f_X11_paintCost_5.eq_2] at h
    refine hr_Fi h (fun _ h => ?_) (fun _ h => ?_)
    · refine hr_Fb h (fun v3 M3 e h => ?_)
      have FM3 : hr_fr hW_X11_paintCost M M3 := hr_fr.tr (hr_fr.rf _ M) (hr_fr.mono (W := hW_X11_areaOf) rfl (fr_X11_areaOf a1 _ _ e))
      cases h
      exact FM3
    · refine hr_Fb h (fun v6 M6 e h => ?_)
      have FM6 : hr_fr hW_X11_paintCost M M6 := hr_fr.tr (hr_fr.rf _ M) (hr_fr.mono (W := hW_X11_part) rfl (fr_X11_part a2 x4 _ _ e))
      refine hr_Fb h (fun v8 M8 e h => ?_)
      have FM8 : hr_fr hW_X11_paintCost M M8 := hr_fr.tr FM6 (hr_fr.mono (W := hW_X11_hueOf) rfl (fr_X11_hueOf a1 _ _ e))
      refine hr_Fb h (fun v10 M10 e h => ?_)
      have FM10 : hr_fr hW_X11_paintCost M M10 := hr_fr.tr FM8 (hr_fr.mono (W := hW_X11_part) rfl (fr_X11_part v8 x4 _ _ e))
      refine hr_Fb h (fun v12 M12 e h => ?_)
      have FM12 : hr_fr hW_X11_paintCost M M12 := hr_fr.tr FM10 (hr_fr.mono (W := hW_X11_size) rfl (fr_X11_size (v6 - v10) _ _ e))
      exact hr_fr.tr FM12 (ih (x3 + v12) (x4 + 1) _ _ h)
theorem fr_X11_paintCost (a1 : Int32) (a2 : Int32) : ∀ (M : PM) (r : Int32 × PM), f_X11_paintCost a1 a2 M = some r → hr_fr hW_X11_paintCost M r.2 := by
  intro M r h
  unfold f_X11_paintCost at h
  exact hr_fr.tr (hr_fr.rf _ M) (fr_X11_paintCost_5 a1 a2 FU 0 0 _ _ h)
def hW_X11_findPaint : List (Nat × Nat) := [(298, 0)]
theorem fr_X11_findPaint_126 (k35 : Int32 → Int32 → PM → Option (Unit × PM)) (k41 : Int32 → Int32 → Int32 → PM → Option (Unit × PM)) (x1 : Int32) (x2 : Int32) (x3 : Int32) (x4 : Int32) (hk35 : ∀ (y0 : Int32) (y1 : Int32) (M : PM) (r : Unit × PM), k35 y0 y1 M = some r → hr_fr hW_X11_findPaint M r.2) (hk41 : ∀ (y0 : Int32) (y1 : Int32) (y2 : Int32) (M : PM) (r : Unit × PM), k41 y0 y1 y2 M = some r → hr_fr hW_X11_findPaint M r.2) : ∀ (M : PM) (r : Unit × PM), f_X11_findPaint_126 k35 k41 x1 x2 x3 x4 M = some r → hr_fr hW_X11_findPaint M r.2 := by
  intro M r h
  unfold f_X11_findPaint_126 at h
  refine hr_Fi h (fun _ h => ?_) (fun _ h => ?_)
  · refine hr_Fb h (fun v3 M3 e h => ?_)
    have FM3 : hr_fr hW_X11_findPaint M M3 := hr_fr.tr (hr_fr.rf _ M) (hr_fr.mono (W := hW_X11_paintCost) rfl (fr_X11_paintCost x2 x3 _ _ e))
    refine hr_Fg h (fun _ h => ?_)
    exact hr_fr.tr (hr_fr.si rfl FM3) (hk41 x1 x2 (x3 + 1) _ _ h)
  · refine hr_Fg h (fun _ h => ?_)
    exact hr_fr.tr (hr_fr.si rfl (hr_fr.rf _ M)) (hk41 x1 x2 (x3 + 1) _ _ h)
theorem fr_X11_findPaint_68 (k35 : Int32 → Int32 → PM → Option (Unit × PM)) (k41 : Int32 → Int32 → Int32 → PM → Option (Unit × PM)) (hk35 : ∀ (y0 : Int32) (y1 : Int32) (M : PM) (r : Unit × PM), k35 y0 y1 M = some r → hr_fr hW_X11_findPaint M r.2) (hk41 : ∀ (y0 : Int32) (y1 : Int32) (y2 : Int32) (M : PM) (r : Unit × PM), k41 y0 y1 y2 M = some r → hr_fr hW_X11_findPaint M r.2) : ∀ (f : Nat) (x1 : Int32) (x2 : Int32) (x3 : Int32) (x4 : Int32) (x5 : Int32) (M : PM) (r : Unit × PM), f_X11_findPaint_68 k35 k41 f x1 x2 x3 x4 x5 M = some r → hr_fr hW_X11_findPaint M r.2 := by
  intro f
  induction f with
  | zero => intro x1 x2 x3 x4 x5 M r h; cases h
  | succ f ih =>
    intro x1 x2 x3 x4 x5 M r h
    rw [f_X11_findPaint_68.eq_2] at h
    refine hr_Fi h (fun _ h => ?_) (fun _ h => ?_)
    · exact hr_fr.tr (hr_fr.rf _ M) (fr_X11_findPaint_126 k35 k41 x1 x2 x3 x4 hk35 hk41 _ _ h)
    · refine hr_Fi h (fun _ h => ?_) (fun _ h => ?_)
      · exact hr_fr.tr (hr_fr.rf _ M) (fr_X11_findPaint_126 k35 k41 x1 x2 x3 x4 hk35 hk41 _ _ h)
      · refine hr_Fb h (fun v4 M4 e h => ?_)
        have FM4 : hr_fr hW_X11_findPaint M M4 := hr_fr.tr (hr_fr.rf _ M) (hr_fr.mono (W := hW_X11_clash) rfl (fr_X11_clash x3 x5 _ _ e))
        refine hr_Fi h (fun _ h => ?_) (fun _ h => ?_)
        · refine hr_Fg h (fun _ h => ?_)
          refine hr_Fb h (fun v7 M7 e h => ?_)
          have FM7 : hr_fr hW_X11_findPaint M M7 := hr_fr.tr FM4 (hr_fr.mono (W := hW_X11_lesser) rfl (fr_X11_lesser x4 (M4.1 298 ((10 * (x2 + 1)) + x5).toNatClampNeg) _ _ e))
          exact hr_fr.tr FM7 (ih x1 x2 x3 v7 (x5 + 1) _ _ h)
        · exact hr_fr.tr FM4 (ih x1 x2 x3 x4 (x5 + 1) _ _ h)
theorem fr_X11_findPaint_41 (k35 : Int32 → Int32 → PM → Option (Unit × PM)) (hk35 : ∀ (y0 : Int32) (y1 : Int32) (M : PM) (r : Unit × PM), k35 y0 y1 M = some r → hr_fr hW_X11_findPaint M r.2) : ∀ (f : Nat) (x1 : Int32) (x2 : Int32) (x3 : Int32) (M : PM) (r : Unit × PM), f_X11_findPaint_41 k35 f x1 x2 x3 M = some r → hr_fr hW_X11_findPaint M r.2 := by
  intro f
  induction f with
  | zero => intro x1 x2 x3 M r h; cases h
  | succ f ih =>
    intro x1 x2 x3 M r h
    rw [f_X11_findPaint_41.eq_2] at h
    refine hr_Fi h (fun _ h => ?_) (fun _ h => ?_)
    · exact hr_fr.tr (hr_fr.rf _ M) (hk35 x1 (x2 + (-1)) _ _ h)
    · refine hr_Fi h (fun _ h => ?_) (fun _ h => ?_)
      · exact hr_fr.tr (hr_fr.rf _ M) (fr_X11_findPaint_68 k35 (fun x1 x2 x3 M => f_X11_findPaint_41 k35 f x1 x2 x3 M) hk35 (fun x1 x2 x3 M r h => ih x1 x2 x3 M r h) FU x1 x2 x3 0 0 _ _ h)
      · exact hr_fr.tr (hr_fr.rf _ M) (fr_X11_findPaint_68 k35 (fun x1 x2 x3 M => f_X11_findPaint_41 k35 f x1 x2 x3 M) hk35 (fun x1 x2 x3 M r h => ih x1 x2 x3 M r h) FU x1 x2 x3 1000000 0 _ _ h)
theorem fr_X11_findPaint_35  : ∀ (f : Nat) (x1 : Int32) (x2 : Int32) (M : PM) (r : Unit × PM), f_X11_findPaint_35 f x1 x2 M = some r → hr_fr hW_X11_findPaint M r.2 := by
  intro f
  induction f with
  | zero => intro x1 x2 M r h; cases h
  | succ f ih =>
    intro x1 x2 M r h
    rw [f_X11_findPaint_35.eq_2] at h
    refine hr_Fi h (fun _ h => ?_) (fun _ h => ?_)
    · cases h
      exact (hr_fr.rf _ M)
    · exact hr_fr.tr (hr_fr.rf _ M) (fr_X11_findPaint_41 (fun x1 x2 M => f_X11_findPaint_35 f x1 x2 M) (fun x1 x2 M r h => ih x1 x2 M r h) FU x1 x2 0 _ _ h)
theorem fr_X11_findPaint_7  : ∀ (f : Nat) (x1 : Int32) (x2 : Int32) (M : PM) (r : Unit × PM), f_X11_findPaint_7 f x1 x2 M = some r → hr_fr hW_X11_findPaint M r.2 := by
  intro f
  induction f with
  | zero => intro x1 x2 M r h; cases h
  | succ f ih =>
    intro x1 x2 M r h
    rw [f_X11_findPaint_7.eq_2] at h
    refine hr_Fi h (fun _ h => ?_) (fun _ h => ?_)
    · exact hr_fr.tr (hr_fr.rf _ M) (fr_X11_findPaint_35 FU x1 (x1 - 1) _ _ h)
    · refine hr_Fg h (fun _ h => ?_)
      exact hr_fr.tr (hr_fr.si rfl (hr_fr.rf _ M)) (ih x1 (x2 + 1) _ _ h)
theorem fr_X11_findPaint  : ∀ (M : PM) (r : Unit × PM), f_X11_findPaint M = some r → hr_fr hW_X11_findPaint M r.2 := by
  intro M r h
  unfold f_X11_findPaint at h
  refine hr_Fb h (fun v2 M2 e h => ?_)
  have FM2 : hr_fr hW_X11_findPaint M M2 := hr_fr.tr (hr_fr.rf _ M) (hr_fr.mono (W := hW_X11_pictures) rfl (fr_X11_pictures  _ _ e))
  exact hr_fr.tr FM2 (fr_X11_findPaint_7 FU v2 0 _ _ h)
def hW_X11_paintedAt : List (Nat × Nat) := []
theorem fr_X11_paintedAt_44 (a1 : Int32) (k4 : Int32 → Int32 → PM → Option (Int32 × PM)) (k15 : Int32 → Int32 → Int32 → Int32 → PM → Option (Int32 × PM)) (x2 : Int32) (x3 : Int32) (x4 : Int32) (x5 : Int32) (s0 : Int32) (hk4 : ∀ (y0 : Int32) (y1 : Int32) (M : PM) (r : Int32 × PM), k4 y0 y1 M = some r → hr_fr hW_X11_paintedAt M r.2) (hk15 : ∀ (y0 : Int32) (y1 : Int32) (y2 : Int32) (y3 : Int32) (M : PM) (r : Int32 × PM), k15 y0 y1 y2 y3 M = some r → hr_fr hW_X11_paintedAt M r.2) : ∀ (M : PM) (r : Int32 × PM), f_X11_paintedAt_44 a1 k4 k15 x2 x3 x4 x5 s0 M = some r → hr_fr hW_X11_paintedAt M r.2 := by
  intro M r h
  unfold f_X11_paintedAt_44 at h
  refine hr_Fi h (fun _ h => ?_) (fun _ h => ?_)
  · exact hr_fr.tr (hr_fr.rf _ M) (hk15 x2 x3 x4 (x5 + 1) _ _ h)
  · refine hr_Fg h (fun _ h => ?_)
    refine hr_Fi h (fun _ h => ?_) (fun _ h => ?_)
    · exact hr_fr.tr (hr_fr.rf _ M) (hk15 x2 x3 x4 (x5 + 1) _ _ h)
    · refine hr_Fi h (fun _ h => ?_) (fun _ h => ?_)
      · exact hr_fr.tr (hr_fr.rf _ M) (hk15 x2 x3 x5 (x5 + 1) _ _ h)
      · refine hr_Fg h (fun _ h => ?_)
        refine hr_Fg h (fun _ h => ?_)
        refine hr_Fi h (fun _ h => ?_) (fun _ h => ?_)
        · exact hr_fr.tr (hr_fr.rf _ M) (hk15 x2 x3 x4 (x5 + 1) _ _ h)
        · exact hr_fr.tr (hr_fr.rf _ M) (hk15 x2 x3 x5 (x5 + 1) _ _ h)
theorem fr_X11_paintedAt_15 (a1 : Int32) (k4 : Int32 → Int32 → PM → Option (Int32 × PM)) (hk4 : ∀ (y0 : Int32) (y1 : Int32) (M : PM) (r : Int32 × PM), k4 y0 y1 M = some r → hr_fr hW_X11_paintedAt M r.2) : ∀ (f : Nat) (x2 : Int32) (x3 : Int32) (x4 : Int32) (x5 : Int32) (M : PM) (r : Int32 × PM), f_X11_paintedAt_15 a1 k4 f x2 x3 x4 x5 M = some r → hr_fr hW_X11_paintedAt M r.2 := by
  intro f
  induction f with
  | zero => intro x2 x3 x4 x5 M r h; cases h
  | succ f ih =>
    intro x2 x3 x4 x5 M r h
    rw [f_X11_paintedAt_15.eq_2] at h
    refine hr_Fi h (fun _ h => ?_) (fun _ h => ?_)
    · exact hr_fr.tr (hr_fr.rf _ M) (hk4 x4 (x3 + 1) _ _ h)
    · refine hr_Fi h (fun _ h => ?_) (fun _ h => ?_)
      · exact hr_fr.tr (hr_fr.rf _ M) (fr_X11_paintedAt_44 a1 k4 (fun x2 x3 x4 x5 M => f_X11_paintedAt_15 a1 k4 f x2 x3 x4 x5 M) x2 x3 x4 x5 1 hk4 (fun x2 x3 x4 x5 M r h => ih x2 x3 x4 x5 M r h) _ _ h)
      · refine hr_Fb h (fun v6 M6 e h => ?_)
        have FM6 : hr_fr hW_X11_paintedAt M M6 := hr_fr.tr (hr_fr.rf _ M) (hr_fr.mono (W := hW_X11_clash) rfl (fr_X11_clash x2 x5 _ _ e))
        refine hr_Fi h (fun _ h => ?_) (fun _ h => ?_)
        · exact hr_fr.tr FM6 (fr_X11_paintedAt_44 a1 k4 (fun x2 x3 x4 x5 M => f_X11_paintedAt_15 a1 k4 f x2 x3 x4 x5 M) x2 x3 x4 x5 1 hk4 (fun x2 x3 x4 x5 M r h => ih x2 x3 x4 x5 M r h) _ _ h)
        · exact hr_fr.tr FM6 (fr_X11_paintedAt_44 a1 k4 (fun x2 x3 x4 x5 M => f_X11_paintedAt_15 a1 k4 f x2 x3 x4 x5 M) x2 x3 x4 x5 0 hk4 (fun x2 x3 x4 x5 M r h => ih x2 x3 x4 x5 M r h) _ _ h)
theorem fr_X11_paintedAt_4 (a1 : Int32) : ∀ (f : Nat) (x2 : Int32) (x3 : Int32) (M : PM) (r : Int32 × PM), f_X11_paintedAt_4 a1 f x2 x3 M = some r → hr_fr hW_X11_paintedAt M r.2 := by
  intro f
  induction f with
  | zero => intro x2 x3 M r h; cases h
  | succ f ih =>
    intro x2 x3 M r h
    rw [f_X11_paintedAt_4.eq_2] at h
    refine hr_Fi h (fun _ h => ?_) (fun _ h => ?_)
    · cases h
      exact (hr_fr.rf _ M)
    · exact hr_fr.tr (hr_fr.rf _ M) (fr_X11_paintedAt_15 a1 (fun x2 x3 M => f_X11_paintedAt_4 a1 f x2 x3 M) (fun x2 x3 M r h => ih x2 x3 M r h) FU x2 x3 (-1) 0 _ _ h)
theorem fr_X11_paintedAt (a1 : Int32) : ∀ (M : PM) (r : Int32 × PM), f_X11_paintedAt a1 M = some r → hr_fr hW_X11_paintedAt M r.2 := by
  intro M r h
  unfold f_X11_paintedAt at h
  exact hr_fr.tr (hr_fr.rf _ M) (fr_X11_paintedAt_4 a1 FU (-1) 0 _ _ h)
def hW_X11_repainted : List (Nat × Nat) := [(275, 1), (275, 25), (275, 26), (275, 29), (288, 0), (289, 0), (298, 0)]
theorem fr_X11_repainted_59 (a1 : Int32) (a2 : Int32) (a3 : Int32) : ∀ (f : Nat) (x4 : Int32) (x5 : Int32) (M : PM) (r : Int32 × PM), f_X11_repainted_59 a1 a2 a3 f x4 x5 M = some r → hr_fr hW_X11_repainted M r.2 := by
  intro f
  induction f with
  | zero => intro x4 x5 M r h; cases h
  | succ f ih =>
    intro x4 x5 M r h
    rw [f_X11_repainted_59.eq_2] at h
    refine hr_Fi h (fun _ h => ?_) (fun _ h => ?_)
    · refine hr_Fi h (fun _ h => ?_) (fun _ h => ?_)
      · refine hr_Fi h (fun _ h => ?_) (fun _ h => ?_)
        · cases h
          exact (hr_fr.rf _ M)
        · refine hr_Fb h (fun v6 M6 e h => ?_)
          have FM6 : hr_fr hW_X11_repainted M M6 := hr_fr.tr (hr_fr.rf _ M) (hr_fr.mono (W := hW_X11_paintedAt) rfl (fr_X11_paintedAt (a3 - 10) _ _ e))
          cases h
          exact FM6
      · cases h
        exact (hr_fr.rf _ M)
    · refine hr_Fg h (fun _ h => ?_)
      refine hr_Fb h (fun v9 M9 e h => ?_)
      have FM9 : hr_fr hW_X11_repainted M M9 := hr_fr.tr (hr_fr.rf _ M) (hr_fr.mono (W := hW_X11_lesser) rfl (fr_X11_lesser x4 (M.1 298 x5.toNatClampNeg) _ _ e))
      exact hr_fr.tr FM9 (ih v9 (x5 + 1) _ _ h)
theorem fr_X11_repainted_36 (a1 : Int32) (a2 : Int32) (a3 : Int32) : ∀ (M : PM) (r : Int32 × PM), f_X11_repainted_36 a1 a2 a3 M = some r → hr_fr hW_X11_repainted M r.2 := by
  intro M r h
  unfold f_X11_repainted_36 at h
  refine hr_Fb h (fun v2 M2 e h => ?_)
  have FM2 : hr_fr hW_X11_repainted M M2 := hr_fr.tr (hr_fr.rf _ M) (hr_fr.mono (W := hW_X11_findPaint) rfl (fr_X11_findPaint  _ _ e))
  refine hr_Fb h (fun v4 M4 e h => ?_)
  have FM4 : hr_fr hW_X11_repainted M M4 := hr_fr.tr FM2 (hr_fr.mono (W := hW_X11_pictures) rfl (fr_X11_pictures  _ _ e))
  refine hr_Fi h (fun _ h => ?_) (fun _ h => ?_)
  · exact hr_fr.tr FM4 (fr_X11_repainted_59 a1 a2 a3 FU 0 0 _ _ h)
  · exact hr_fr.tr FM4 (fr_X11_repainted_59 a1 a2 a3 FU 1000000 0 _ _ h)
theorem fr_X11_repainted (a1 : Int32) (a2 : Int32) (a3 : Int32) : ∀ (M : PM) (r : Int32 × PM), f_X11_repainted a1 a2 a3 M = some r → hr_fr hW_X11_repainted M r.2 := by
  intro M r h
  unfold f_X11_repainted at h
  refine hr_Fb h (fun v2 M2 e h => ?_)
  have FM2 : hr_fr hW_X11_repainted M M2 := hr_fr.tr (hr_fr.si rfl (hr_fr.rf _ M)) (hr_fr.mono (W := hW_X11_layGallery) rfl (fr_X11_layGallery a1 a2 _ _ e))
  refine hr_Fi h (fun _ h => ?_) (fun _ h => ?_)
  · cases h
    exact FM2
  · refine hr_Fi h (fun _ h => ?_) (fun _ h => ?_)
    · exact hr_fr.tr FM2 (fr_X11_repainted_36 a1 a2 a3 _ _ h)
    · refine hr_Fb h (fun v7 M7 e h => ?_)
      have FM7 : hr_fr hW_X11_repainted M M7 := hr_fr.tr FM2 (hr_fr.mono (W := hW_X11_pictures) rfl (fr_X11_pictures  _ _ e))
      refine hr_Fb h (fun v9 M9 e h => ?_)
      have FM9 : hr_fr hW_X11_repainted M M9 := hr_fr.tr FM7 (hr_fr.mono (W := hW_X11_in) rfl (fr_X11_in a3 10 (9 + v7) _ _ e))
      refine hr_Fi h (fun _ h => ?_) (fun _ h => ?_)
      · cases h
        exact FM9
      · exact hr_fr.tr FM9 (fr_X11_repainted_36 a1 a2 a3 _ _ h)
def hW_X11_loom : List (Nat × Nat) := [(275, 1), (275, 25), (275, 26), (275, 42), (288, 0), (289, 0), (296, 0), (297, 0)]
theorem fr_X11_loom (a1 : Int32) (a2 : Int32) : ∀ (M : PM) (r : Int64 × PM), f_X11_loom a1 a2 M = some r → hr_fr hW_X11_loom M r.2 := by
  intro M r h
  unfold f_X11_loom at h
  refine hr_Fb h (fun v2 M2 e h => ?_)
  have FM2 : hr_fr hW_X11_loom M M2 := hr_fr.tr (hr_fr.si rfl (hr_fr.rf _ M)) (hr_fr.mono (W := hW_X11_hand) rfl (fr_X11_hand a1 _ _ e))
  refine hr_Fi h (fun _ h => ?_) (fun _ h => ?_)
  · cases h
    exact FM2
  · refine hr_Fb h (fun v6 M6 e h => ?_)
    have FM6 : hr_fr hW_X11_loom M M6 := hr_fr.tr FM2 (hr_fr.mono (W := hW_X11_layThreads) rfl (fr_X11_layThreads a2 _ _ e))
    refine hr_Fb h (fun v8 M8 e h => ?_)
    have FM8 : hr_fr hW_X11_loom M M8 := hr_fr.tr FM6 (hr_fr.mono (W := hW_X11_allRows) rfl (fr_X11_allRows  _ _ e))
    cases h
    exact FM8
def hW_X11_thread : List (Nat × Nat) := [(275, 1), (275, 25), (275, 26), (275, 42), (288, 0), (289, 0), (296, 0), (297, 0)]
theorem fr_X11_thread (a1 : Int32) (a2 : Int32) (a3 : Int32) : ∀ (M : PM) (r : Int32 × PM), f_X11_thread a1 a2 a3 M = some r → hr_fr hW_X11_thread M r.2 := by
  intro M r h
  unfold f_X11_thread at h
  refine hr_Fb h (fun v2 M2 e h => ?_)
  have FM2 : hr_fr hW_X11_thread M M2 := hr_fr.tr (hr_fr.si rfl (hr_fr.rf _ M)) (hr_fr.mono (W := hW_X11_hand) rfl (fr_X11_hand a1 _ _ e))
  refine hr_Fi h (fun _ h => ?_) (fun _ h => ?_)
  · cases h
    exact FM2
  · refine hr_Fb h (fun v6 M6 e h => ?_)
    have FM6 : hr_fr hW_X11_thread M M6 := hr_fr.tr FM2 (hr_fr.mono (W := hW_X11_layThreads) rfl (fr_X11_layThreads a2 _ _ e))
    refine hr_Fb h (fun v8 M8 e h => ?_)
    have FM8 : hr_fr hW_X11_thread M M8 := hr_fr.tr FM6 (hr_fr.mono (W := hW_X11_in) rfl (fr_X11_in a3 0 ((M6.1 275 41) - 1) _ _ e))
    refine hr_Fi h (fun _ h => ?_) (fun _ h => ?_)
    · cases h
      exact FM8
    · refine hr_Fb h (fun v12 M12 e h => ?_)
      have FM12 : hr_fr hW_X11_thread M M12 := hr_fr.tr FM8 (hr_fr.mono (W := hW_X11_allRows) rfl (fr_X11_allRows  _ _ e))
      refine hr_Fi h (fun _ h => ?_) (fun _ h => ?_)
      · cases h
        exact FM12
      · refine hr_Fb h (fun v16 M16 e h => ?_)
        have FM16 : hr_fr hW_X11_thread M M16 := hr_fr.tr FM12 (hr_fr.mono (W := hW_X11_rowAt) rfl (fr_X11_rowAt a3 _ _ e))
        refine hr_Fg h (fun _ h => ?_)
        cases h
        exact FM16
def hW_X11_mixed : List (Nat × Nat) := []
theorem fr_X11_mixed (a1 : Int32) (a2 : Int32) : ∀ (M : PM) (r : Int32 × PM), f_X11_mixed a1 a2 M = some r → hr_fr hW_X11_mixed M r.2 := by
  intro M r h
  unfold f_X11_mixed at h
  refine hr_Fb h (fun v2 M2 e h => ?_)
  have FM2 : hr_fr hW_X11_mixed M M2 := hr_fr.tr (hr_fr.rf _ M) (hr_fr.mono (W := hW_X11_part) rfl (fr_X11_part a2 0 _ _ e))
  refine hr_Fb h (fun v4 M4 e h => ?_)
  have FM4 : hr_fr hW_X11_mixed M M4 := hr_fr.tr FM2 (hr_fr.mono (W := hW_X11_part) rfl (fr_X11_part a2 1 _ _ e))
  refine hr_Fb h (fun v6 M6 e h => ?_)
  have FM6 : hr_fr hW_X11_mixed M M6 := hr_fr.tr FM4 (hr_fr.mono (W := hW_X11_part) rfl (fr_X11_part a2 2 _ _ e))
  cases h
  exact FM6
def hW_X11_findNeeds : List (Nat × Nat) := [(289, 0), (299, 0)]
theorem fr_X11_findNeeds_102 (a1 : Int32) (k39 : Int32 → PM → Option (Unit × PM)) (k47 : Int32 → Int32 → PM → Option (Unit × PM)) (k57 : Int32 → Int32 → Int32 → PM → Option (Unit × PM)) (x3 : Int32) (x4 : Int32) (x5 : Int32) (s0 : Int32) (hk39 : ∀ (y0 : Int32) (M : PM) (r : Unit × PM), k39 y0 M = some r → hr_fr hW_X11_findNeeds M r.2) (hk47 : ∀ (y0 : Int32) (y1 : Int32) (M : PM) (r : Unit × PM), k47 y0 y1 M = some r → hr_fr hW_X11_findNeeds M r.2) (hk57 : ∀ (y0 : Int32) (y1 : Int32) (y2 : Int32) (M : PM) (r : Unit × PM), k57 y0 y1 y2 M = some r → hr_fr hW_X11_findNeeds M r.2) : ∀ (M : PM) (r : Unit × PM), f_X11_findNeeds_102 a1 k39 k47 k57 x3 x4 x5 s0 M = some r → hr_fr hW_X11_findNeeds M r.2 := by
  intro M r h
  unfold f_X11_findNeeds_102 at h
  refine hr_Fg h (fun _ h => ?_)
  refine hr_Fb h (fun v2 M2 e h => ?_)
  have FM2 : hr_fr hW_X11_findNeeds M M2 := hr_fr.tr (hr_fr.rf _ M) (hr_fr.mono (W := hW_X11_lesser) rfl (fr_X11_lesser (M.1 299 x3.toNatClampNeg) x5 _ _ e))
  refine hr_Fg h (fun _ h => ?_)
  exact hr_fr.tr (hr_fr.si rfl FM2) (hk57 s0 x3 (x4 + 1) _ _ h)
theorem fr_X11_findNeeds_57 (a1 : Int32) (k39 : Int32 → PM → Option (Unit × PM)) (k47 : Int32 → Int32 → PM → Option (Unit × PM)) (hk39 : ∀ (y0 : Int32) (M : PM) (r : Unit × PM), k39 y0 M = some r → hr_fr hW_X11_findNeeds M r.2) (hk47 : ∀ (y0 : Int32) (y1 : Int32) (M : PM) (r : Unit × PM), k47 y0 y1 M = some r → hr_fr hW_X11_findNeeds M r.2) : ∀ (f : Nat) (x2 : Int32) (x3 : Int32) (x4 : Int32) (M : PM) (r : Unit × PM), f_X11_findNeeds_57 a1 k39 k47 f x2 x3 x4 M = some r → hr_fr hW_X11_findNeeds M r.2 := by
  intro f
  induction f with
  | zero => intro x2 x3 x4 M r h; cases h
  | succ f ih =>
    intro x2 x3 x4 M r h
    rw [f_X11_findNeeds_57.eq_2] at h
    refine hr_Fi h (fun _ h => ?_) (fun _ h => ?_)
    · exact hr_fr.tr (hr_fr.rf _ M) (hk47 x2 (x3 + 1) _ _ h)
    · refine hr_Fb h (fun v4 M4 e h => ?_)
      have FM4 : hr_fr hW_X11_findNeeds M M4 := hr_fr.tr (hr_fr.rf _ M) (hr_fr.mono (W := hW_X11_mixed) rfl (fr_X11_mixed x3 x4 _ _ e))
      refine hr_Fg h (fun _ h => ?_)
      refine hr_Fi h (fun _ h => ?_) (fun _ h => ?_)
      · refine hr_Fg h (fun _ h => ?_)
        refine hr_Fi h (fun _ h => ?_) (fun _ h => ?_)
        · exact hr_fr.tr FM4 (fr_X11_findNeeds_102 a1 k39 k47 (fun x2 x3 x4 M => f_X11_findNeeds_57 a1 k39 k47 f x2 x3 x4 M) x3 x4 (1 + (M4.1 299 v4.toNatClampNeg)) 0 hk39 hk47 (fun x2 x3 x4 M r h => ih x2 x3 x4 M r h) _ _ h)
        · exact hr_fr.tr FM4 (fr_X11_findNeeds_102 a1 k39 k47 (fun x2 x3 x4 M => f_X11_findNeeds_57 a1 k39 k47 f x2 x3 x4 M) x3 x4 (1 + (M4.1 299 v4.toNatClampNeg)) 1 hk39 hk47 (fun x2 x3 x4 M r h => ih x2 x3 x4 M r h) _ _ h)
      · exact hr_fr.tr FM4 (fr_X11_findNeeds_102 a1 k39 k47 (fun x2 x3 x4 M => f_X11_findNeeds_57 a1 k39 k47 f x2 x3 x4 M) x3 x4 (1 + (M4.1 299 v4.toNatClampNeg)) 1 hk39 hk47 (fun x2 x3 x4 M r h => ih x2 x3 x4 M r h) _ _ h)
theorem fr_X11_findNeeds_47 (a1 : Int32) (k39 : Int32 → PM → Option (Unit × PM)) (hk39 : ∀ (y0 : Int32) (M : PM) (r : Unit × PM), k39 y0 M = some r → hr_fr hW_X11_findNeeds M r.2) : ∀ (f : Nat) (x2 : Int32) (x3 : Int32) (M : PM) (r : Unit × PM), f_X11_findNeeds_47 a1 k39 f x2 x3 M = some r → hr_fr hW_X11_findNeeds M r.2 := by
  intro f
  induction f with
  | zero => intro x2 x3 M r h; cases h
  | succ f ih =>
    intro x2 x3 M r h
    rw [f_X11_findNeeds_47.eq_2] at h
    refine hr_Fi h (fun _ h => ?_) (fun _ h => ?_)
    · exact hr_fr.tr (hr_fr.rf _ M) (hk39 x2 _ _ h)
    · exact hr_fr.tr (hr_fr.rf _ M) (fr_X11_findNeeds_57 a1 k39 (fun x2 x3 M => f_X11_findNeeds_47 a1 k39 f x2 x3 M) hk39 (fun x2 x3 M r h => ih x2 x3 M r h) FU x2 x3 0 _ _ h)
theorem fr_X11_findNeeds_39 (a1 : Int32) : ∀ (f : Nat) (x2 : Int32) (M : PM) (r : Unit × PM), f_X11_findNeeds_39 a1 f x2 M = some r → hr_fr hW_X11_findNeeds M r.2 := by
  intro f
  induction f with
  | zero => intro x2 M r h; cases h
  | succ f ih =>
    intro x2 M r h
    rw [f_X11_findNeeds_39.eq_2] at h
    refine hr_Fi h (fun _ h => ?_) (fun _ h => ?_)
    · cases h
      exact (hr_fr.rf _ M)
    · exact hr_fr.tr (hr_fr.rf _ M) (fr_X11_findNeeds_47 a1 (fun x2 M => f_X11_findNeeds_39 a1 f x2 M) (fun x2 M r h => ih x2 M r h) FU 0 0 _ _ h)
theorem fr_X11_findNeeds_2 (a1 : Int32) : ∀ (f : Nat) (x2 : Int32) (M : PM) (r : Unit × PM), f_X11_findNeeds_2 a1 f x2 M = some r → hr_fr hW_X11_findNeeds M r.2 := by
  intro f
  induction f with
  | zero => intro x2 M r h; cases h
  | succ f ih =>
    intro x2 M r h
    rw [f_X11_findNeeds_2.eq_2] at h
    refine hr_Fi h (fun _ h => ?_) (fun _ h => ?_)
    · exact hr_fr.tr (hr_fr.rf _ M) (fr_X11_findNeeds_39 a1 FU 1 _ _ h)
    · refine hr_Fb h (fun v4 M4 e h => ?_)
      have FM4 : hr_fr hW_X11_findNeeds M M4 := hr_fr.tr (hr_fr.rf _ M) (hr_fr.mono (W := hW_X11_isBorne) rfl (fr_X11_isBorne x2 a1 _ _ e))
      refine hr_Fi h (fun _ h => ?_) (fun _ h => ?_)
      · refine hr_Fg h (fun _ h => ?_)
        exact hr_fr.tr (hr_fr.si rfl FM4) (ih (x2 + 1) _ _ h)
      · refine hr_Fg h (fun _ h => ?_)
        exact hr_fr.tr (hr_fr.si rfl FM4) (ih (x2 + 1) _ _ h)
theorem fr_X11_findNeeds (a1 : Int32) : ∀ (M : PM) (r : Unit × PM), f_X11_findNeeds a1 M = some r → hr_fr hW_X11_findNeeds M r.2 := by
  intro M r h
  unfold f_X11_findNeeds at h
  exact hr_fr.tr (hr_fr.rf _ M) (fr_X11_findNeeds_2 a1 FU 0 _ _ h)
def hW_X11_colourOf : List (Nat × Nat) := []
theorem fr_X11_colourOf (a1 : Int32) : ∀ (M : PM) (r : Int32 × PM), f_X11_colourOf a1 M = some r → hr_fr hW_X11_colourOf M r.2 := by
  intro M r h
  unfold f_X11_colourOf at h
  refine hr_Fb h (fun v2 M2 e h => ?_)
  have FM2 : hr_fr hW_X11_colourOf M M2 := hr_fr.tr (hr_fr.rf _ M) (hr_fr.mono (W := hW_X11_part) rfl (fr_X11_part a1 0 _ _ e))
  refine hr_Fb h (fun v4 M4 e h => ?_)
  have FM4 : hr_fr hW_X11_colourOf M M4 := hr_fr.tr FM2 (hr_fr.mono (W := hW_X11_part) rfl (fr_X11_part a1 1 _ _ e))
  refine hr_Fb h (fun v6 M6 e h => ?_)
  have FM6 : hr_fr hW_X11_colourOf M M6 := hr_fr.tr FM4 (hr_fr.mono (W := hW_X11_part) rfl (fr_X11_part a1 2 _ _ e))
  cases h
  exact FM6
def hW_X11_isBorneHue : List (Nat × Nat) := []
theorem fr_X11_isBorneHue_2 (a1 : Int32) (a2 : Int32) : ∀ (f : Nat) (x3 : Int32) (M : PM) (r : Int32 × PM), f_X11_isBorneHue_2 a1 a2 f x3 M = some r → hr_fr hW_X11_isBorneHue M r.2 := by
  intro f
  induction f with
  | zero => intro x3 M r h; cases h
  | succ f ih =>
    intro x3 M r h
    rw [f_X11_isBorneHue_2.eq_2] at h
    refine hr_Fi h (fun _ h => ?_) (fun _ h => ?_)
    · cases h
      exact (hr_fr.rf _ M)
    · refine hr_Fb h (fun v4 M4 e h => ?_)
      have FM4 : hr_fr hW_X11_isBorneHue M M4 := hr_fr.tr (hr_fr.rf _ M) (hr_fr.mono (W := hW_X11_has) rfl (fr_X11_has a2 x3 _ _ e))
      refine hr_Fi h (fun _ h => ?_) (fun _ h => ?_)
      · exact hr_fr.tr FM4 (ih (x3 + 1) _ _ h)
      · refine hr_Fb h (fun v8 M8 e h => ?_)
        have FM8 : hr_fr hW_X11_isBorneHue M M8 := hr_fr.tr FM4 (hr_fr.mono (W := hW_X11_clash) rfl (fr_X11_clash a1 x3 _ _ e))
        refine hr_Fi h (fun _ h => ?_) (fun _ h => ?_)
        · exact hr_fr.tr FM8 (ih (x3 + 1) _ _ h)
        · cases h
          exact FM8
theorem fr_X11_isBorneHue (a1 : Int32) (a2 : Int32) : ∀ (M : PM) (r : Int32 × PM), f_X11_isBorneHue a1 a2 M = some r → hr_fr hW_X11_isBorneHue M r.2 := by
  intro M r h
  unfold f_X11_isBorneHue at h
  exact hr_fr.tr (hr_fr.rf _ M) (fr_X11_isBorneHue_2 a1 a2 FU 0 _ _ h)
def hW_X11_mix : List (Nat × Nat) := [(275, 1), (275, 25), (275, 26), (288, 0), (289, 0), (299, 0)]
theorem fr_X11_mix_180 (a1 : Int32) (a2 : Int32) (a3 : Int32) (a4 : Int32) (k167 : Int32 → Int32 → Int32 → PM → Option (Int32 × PM)) (hk167 : ∀ (y0 : Int32) (y1 : Int32) (y2 : Int32) (M : PM) (r : Int32 × PM), k167 y0 y1 y2 M = some r → hr_fr hW_X11_mix M r.2) : ∀ (f : Nat) (x5 : Int32) (x6 : Int32) (x7 : Int32) (x8 : Int32) (M : PM) (r : Int32 × PM), f_X11_mix_180 a1 a2 a3 a4 k167 f x5 x6 x7 x8 M = some r → hr_fr hW_X11_mix M r.2 := by
  intro f
  induction f with
  | zero => intro x5 x6 x7 x8 M r h; cases h
  | succ f ih =>
    intro x5 x6 x7 x8 M r h
    rw [f_X11_mix_180.eq_2] at h
    refine hr_Fb h (fun v2 M2 e h => ?_)
    have FM2 : hr_fr hW_X11_mix M M2 := hr_fr.tr (hr_fr.rf _ M) (hr_fr.mono (W := hW_X11_mixed) rfl (fr_X11_mixed x5 x8 _ _ e))
    refine hr_Fg h (fun _ h => ?_)
    refine hr_Fg h (fun _ h => ?_)
    refine hr_Fi h (fun _ h => ?_) (fun _ h => ?_)
    · refine hr_Fb h (fun v5 M5 e h => ?_)
      have FM5 : hr_fr hW_X11_mix M M5 := hr_fr.tr FM2 (hr_fr.mono (W := hW_X11_mixed) rfl (fr_X11_mixed x5 x8 _ _ e))
      exact hr_fr.tr FM5 (hk167 v5 x6 x7 _ _ h)
    · exact hr_fr.tr FM2 (ih x5 x6 x7 (x8 + 1) _ _ h)
theorem fr_X11_mix_167 (a1 : Int32) (a2 : Int32) (a3 : Int32) (a4 : Int32) : ∀ (f : Nat) (x5 : Int32) (x6 : Int32) (x7 : Int32) (M : PM) (r : Int32 × PM), f_X11_mix_167 a1 a2 a3 a4 f x5 x6 x7 M = some r → hr_fr hW_X11_mix M r.2 := by
  intro f
  induction f with
  | zero => intro x5 x6 x7 M r h; cases h
  | succ f ih =>
    intro x5 x6 x7 M r h
    rw [f_X11_mix_167.eq_2] at h
    refine hr_Fg h (fun _ h => ?_)
    refine hr_Fi h (fun _ h => ?_) (fun _ h => ?_)
    · refine hr_Fi h (fun _ h => ?_) (fun _ h => ?_)
      · cases h
        exact (hr_fr.rf _ M)
      · refine hr_Fi h (fun _ h => ?_) (fun _ h => ?_)
        · cases h
          exact (hr_fr.rf _ M)
        · cases h
          exact (hr_fr.rf _ M)
    · exact hr_fr.tr (hr_fr.rf _ M) (fr_X11_mix_180 a1 a2 a3 a4 (fun x5 x6 x7 M => f_X11_mix_167 a1 a2 a3 a4 f x5 x6 x7 M) (fun x5 x6 x7 M r h => ih x5 x6 x7 M r h) FU x5 x6 x7 0 _ _ h)
theorem fr_X11_mix_83 (a1 : Int32) (a2 : Int32) (a3 : Int32) (a4 : Int32) : ∀ (f : Nat) (x5 : Int32) (x6 : Int32) (x7 : Int32) (M : PM) (r : Int32 × PM), f_X11_mix_83 a1 a2 a3 a4 f x5 x6 x7 M = some r → hr_fr hW_X11_mix M r.2 := by
  intro f
  induction f with
  | zero => intro x5 x6 x7 M r h; cases h
  | succ f ih =>
    intro x5 x6 x7 M r h
    rw [f_X11_mix_83.eq_2] at h
    refine hr_Fi h (fun _ h => ?_) (fun _ h => ?_)
    · refine hr_Fb h (fun v3 M3 e h => ?_)
      have FM3 : hr_fr hW_X11_mix M M3 := hr_fr.tr (hr_fr.rf _ M) (hr_fr.mono (W := hW_X11_mixed) rfl (fr_X11_mixed x5 x6 _ _ e))
      refine hr_Fg h (fun _ h => ?_)
      refine hr_Fi h (fun _ h => ?_) (fun _ h => ?_)
      · exact hr_fr.tr FM3 (fr_X11_mix_167 a1 a2 a3 a4 FU v3 x6 (1 + (M3.1 299 v3.toNatClampNeg)) _ _ h)
      · cases h
        exact FM3
    · refine hr_Fb h (fun v7 M7 e h => ?_)
      have FM7 : hr_fr hW_X11_mix M M7 := hr_fr.tr (hr_fr.rf _ M) (hr_fr.mono (W := hW_X11_mixed) rfl (fr_X11_mixed x5 x7 _ _ e))
      refine hr_Fg h (fun _ h => ?_)
      refine hr_Fb h (fun v9 M9 e h => ?_)
      have FM9 : hr_fr hW_X11_mix M M9 := hr_fr.tr FM7 (hr_fr.mono (W := hW_X11_mixed) rfl (fr_X11_mixed x5 x6 _ _ e))
      refine hr_Fg h (fun _ h => ?_)
      refine hr_Fi h (fun _ h => ?_) (fun _ h => ?_)
      · exact hr_fr.tr FM9 (ih x5 x6 (x7 + 1) _ _ h)
      · exact hr_fr.tr FM9 (ih x5 x7 (x7 + 1) _ _ h)
theorem fr_X11_mix (a1 : Int32) (a2 : Int32) (a3 : Int32) (a4 : Int32) : ∀ (M : PM) (r : Int32 × PM), f_X11_mix a1 a2 a3 a4 M = some r → hr_fr hW_X11_mix M r.2 := by
  intro M r h
  unfold f_X11_mix at h
  refine hr_Fb h (fun v2 M2 e h => ?_)
  have FM2 : hr_fr hW_X11_mix M M2 := hr_fr.tr (hr_fr.si rfl (hr_fr.rf _ M)) (hr_fr.mono (W := hW_X11_in) rfl (fr_X11_in a4 0 2 _ _ e))
  refine hr_Fi h (fun _ h => ?_) (fun _ h => ?_)
  · cases h
    exact FM2
  · refine hr_Fb h (fun v6 M6 e h => ?_)
    have FM6 : hr_fr hW_X11_mix M M6 := hr_fr.tr FM2 (hr_fr.mono (W := hW_X11_hand) rfl (fr_X11_hand a1 _ _ e))
    refine hr_Fi h (fun _ h => ?_) (fun _ h => ?_)
    · cases h
      exact FM6
    · refine hr_Fb h (fun v10 M10 e h => ?_)
      have FM10 : hr_fr hW_X11_mix M M10 := hr_fr.tr FM6 (hr_fr.mono (W := hW_X11_isHue) rfl (fr_X11_isHue a2 _ _ e))
      refine hr_Fi h (fun _ h => ?_) (fun _ h => ?_)
      · cases h
        exact FM10
      · refine hr_Fb h (fun v14 M14 e h => ?_)
        have FM14 : hr_fr hW_X11_mix M M14 := hr_fr.tr FM10 (hr_fr.mono (W := hW_X11_colourOf) rfl (fr_X11_colourOf a2 _ _ e))
        refine hr_Fb h (fun v16 M16 e h => ?_)
        have FM16 : hr_fr hW_X11_mix M M16 := hr_fr.tr FM14 (hr_fr.mono (W := hW_X11_isBorneHue) rfl (fr_X11_isBorneHue a2 a3 _ _ e))
        refine hr_Fi h (fun _ h => ?_) (fun _ h => ?_)
        · refine hr_Fb h (fun v19 M19 e h => ?_)
          have FM19 : hr_fr hW_X11_mix M M19 := hr_fr.tr FM16 (hr_fr.mono (W := hW_X11_findNeeds) rfl (fr_X11_findNeeds a3 _ _ e))
          exact hr_fr.tr FM19 (fr_X11_mix_83 a1 a2 a3 a4 FU v14 0 1 _ _ h)
        · refine hr_Fi h (fun _ h => ?_) (fun _ h => ?_)
          · cases h
            exact FM16
          · refine hr_Fi h (fun _ h => ?_) (fun _ h => ?_)
            · cases h
              exact FM16
            · cases h
              exact FM16
def hW_X11_leastOf : List (Nat × Nat) := []
theorem fr_X11_leastOf_2 (a0 : Int32) : ∀ (f : Nat) (x1 : Int32) (M : PM) (r : Int32 × PM), f_X11_leastOf_2 a0 f x1 M = some r → hr_fr hW_X11_leastOf M r.2 := by
  intro f
  induction f with
  | zero => intro x1 M r h; cases h
  | succ f ih =>
    intro x1 M r h
    rw [f_X11_leastOf_2.eq_2] at h
    refine hr_Fb h (fun v2 M2 e h => ?_)
    have FM2 : hr_fr hW_X11_leastOf M M2 := hr_fr.tr (hr_fr.rf _ M) (hr_fr.mono (W := hW_X11_has) rfl (fr_X11_has a0 x1 _ _ e))
    refine hr_Fi h (fun _ h => ?_) (fun _ h => ?_)
    · exact hr_fr.tr FM2 (ih (x1 + 1) _ _ h)
    · cases h
      exact FM2
theorem fr_X11_leastOf (a0 : Int32) : ∀ (M : PM) (r : Int32 × PM), f_X11_leastOf a0 M = some r → hr_fr hW_X11_leastOf M r.2 := by
  intro M r h
  unfold f_X11_leastOf at h
  exact hr_fr.tr (hr_fr.rf _ M) (fr_X11_leastOf_2 a0 FU 0 _ _ h)
def hW_X11_findCouples : List (Nat × Nat) := [(300, 0)]
theorem fr_X11_findCouples_49 (k9 : Int32 → PM → Option (Unit × PM)) (hk9 : ∀ (y0 : Int32) (M : PM) (r : Unit × PM), k9 y0 M = some r → hr_fr hW_X11_findCouples M r.2) : ∀ (f : Nat) (x1 : Int32) (x2 : Int32) (x3 : Int32) (x4 : Int32) (M : PM) (r : Unit × PM), f_X11_findCouples_49 k9 f x1 x2 x3 x4 M = some r → hr_fr hW_X11_findCouples M r.2 := by
  intro f
  induction f with
  | zero => intro x1 x2 x3 x4 M r h; cases h
  | succ f ih =>
    intro x1 x2 x3 x4 M r h
    rw [f_X11_findCouples_49.eq_2] at h
    refine hr_Fi h (fun _ h => ?_) (fun _ h => ?_)
    · exact hr_fr.tr (hr_fr.rf _ M) (hk9 (x1 + 1) _ _ h)
    · refine hr_Fb h (fun v4 M4 e h => ?_)
      have FM4 : hr_fr hW_X11_findCouples M M4 := hr_fr.tr (hr_fr.rf _ M) (hr_fr.mono (W := hW_X11_has) rfl (fr_X11_has x3 x4 _ _ e))
      refine hr_Fi h (fun _ h => ?_) (fun _ h => ?_)
      · refine hr_Fg h (fun _ h => ?_)
        refine hr_Fg h (fun _ h => ?_)
        exact hr_fr.tr (hr_fr.si rfl FM4) (ih x1 x2 x3 (x4 + 1) _ _ h)
      · refine hr_Fb h (fun v9 M9 e h => ?_)
        have FM9 : hr_fr hW_X11_findCouples M M9 := hr_fr.tr FM4 (hr_fr.mono (W := hW_X11_clash) rfl (fr_X11_clash x2 x4 _ _ e))
        refine hr_Fi h (fun _ h => ?_) (fun _ h => ?_)
        · refine hr_Fg h (fun _ h => ?_)
          refine hr_Fg h (fun _ h => ?_)
          refine hr_Fb h (fun v12 M12 e h => ?_)
          have FM12 : hr_fr hW_X11_findCouples M M12 := hr_fr.tr FM9 (hr_fr.mono (W := hW_X11_greater) rfl (fr_X11_greater (M9.1 300 x1.toNatClampNeg) (1 + (M9.1 300 (x3 &&& ((jl 1 x4) ^^^ (-1))).toNatClampNeg)) _ _ e))
          refine hr_Fg h (fun _ h => ?_)
          exact hr_fr.tr (hr_fr.si rfl FM12) (ih x1 x2 x3 (x4 + 1) _ _ h)
        · refine hr_Fg h (fun _ h => ?_)
          refine hr_Fg h (fun _ h => ?_)
          exact hr_fr.tr (hr_fr.si rfl FM9) (ih x1 x2 x3 (x4 + 1) _ _ h)
theorem fr_X11_findCouples_9  : ∀ (f : Nat) (x1 : Int32) (M : PM) (r : Unit × PM), f_X11_findCouples_9 f x1 M = some r → hr_fr hW_X11_findCouples M r.2 := by
  intro f
  induction f with
  | zero => intro x1 M r h; cases h
  | succ f ih =>
    intro x1 M r h
    rw [f_X11_findCouples_9.eq_2] at h
    refine hr_Fi h (fun _ h => ?_) (fun _ h => ?_)
    · cases h
      exact (hr_fr.rf _ M)
    · refine hr_Fb h (fun v3 M3 e h => ?_)
      have FM3 : hr_fr hW_X11_findCouples M M3 := hr_fr.tr (hr_fr.rf _ M) (hr_fr.mono (W := hW_X11_leastOf) rfl (fr_X11_leastOf x1 _ _ e))
      refine hr_Fg h (fun _ h => ?_)
      refine hr_Fg h (fun _ h => ?_)
      exact hr_fr.tr (hr_fr.si rfl FM3) (fr_X11_findCouples_49 (fun x1 M => f_X11_findCouples_9 f x1 M) (fun x1 M r h => ih x1 M r h) FU x1 v3 (x1 &&& ((jl 1 v3) ^^^ (-1))) (v3 + 1) _ _ h)
theorem fr_X11_findCouples  : ∀ (M : PM) (r : Unit × PM), f_X11_findCouples M = some r → hr_fr hW_X11_findCouples M r.2 := by
  intro M r h
  unfold f_X11_findCouples at h
  refine hr_Fg h (fun _ h => ?_)
  exact hr_fr.tr (hr_fr.si rfl (hr_fr.rf _ M)) (fr_X11_findCouples_9 FU 1 _ _ h)
def hW_X11_allyOf : List (Nat × Nat) := []
theorem fr_X11_allyOf_115 (a1 : Int32) (x3 : Int32) (x5 : Int32) : ∀ (M : PM) (r : Int32 × PM), f_X11_allyOf_115 a1 x3 x5 M = some r → hr_fr hW_X11_allyOf M r.2 := by
  intro M r h
  unfold f_X11_allyOf_115 at h
  refine hr_Fi h (fun _ h => ?_) (fun _ h => ?_)
  · cases h
    exact (hr_fr.rf _ M)
  · cases h
    exact (hr_fr.rf _ M)
theorem fr_X11_allyOf_38 (a1 : Int32) (k9 : Int32 → PM → Option (Int32 × PM)) (hk9 : ∀ (y0 : Int32) (M : PM) (r : Int32 × PM), k9 y0 M = some r → hr_fr hW_X11_allyOf M r.2) : ∀ (f : Nat) (x2 : Int32) (x3 : Int32) (x4 : Int32) (x5 : Int32) (x6 : Int32) (M : PM) (r : Int32 × PM), f_X11_allyOf_38 a1 k9 f x2 x3 x4 x5 x6 M = some r → hr_fr hW_X11_allyOf M r.2 := by
  intro f
  induction f with
  | zero => intro x2 x3 x4 x5 x6 M r h; cases h
  | succ f ih =>
    intro x2 x3 x4 x5 x6 M r h
    rw [f_X11_allyOf_38.eq_2] at h
    refine hr_Fi h (fun _ h => ?_) (fun _ h => ?_)
    · refine hr_Fi h (fun _ h => ?_) (fun _ h => ?_)
      · exact hr_fr.tr (hr_fr.rf _ M) (fr_X11_allyOf_115 a1 x3 x5 _ _ h)
      · refine hr_Fi h (fun _ h => ?_) (fun _ h => ?_)
        · exact hr_fr.tr (hr_fr.rf _ M) (fr_X11_allyOf_115 a1 x3 x5 _ _ h)
        · refine hr_Fi h (fun _ h => ?_) (fun _ h => ?_)
          · exact hr_fr.tr (hr_fr.rf _ M) (hk9 x4 _ _ h)
          · exact hr_fr.tr (hr_fr.rf _ M) (hk9 (x4 &&& ((jl 1 x5) ^^^ (-1))) _ _ h)
    · refine hr_Fb h (fun v10 M10 e h => ?_)
      have FM10 : hr_fr hW_X11_allyOf M M10 := hr_fr.tr (hr_fr.rf _ M) (hr_fr.mono (W := hW_X11_has) rfl (fr_X11_has x4 x6 _ _ e))
      refine hr_Fi h (fun _ h => ?_) (fun _ h => ?_)
      · exact hr_fr.tr FM10 (ih x2 x3 x4 x5 (x6 + (-1)) _ _ h)
      · refine hr_Fb h (fun v15 M15 e h => ?_)
        have FM15 : hr_fr hW_X11_allyOf M M15 := hr_fr.tr FM10 (hr_fr.mono (W := hW_X11_clash) rfl (fr_X11_clash x3 x6 _ _ e))
        refine hr_Fi h (fun _ h => ?_) (fun _ h => ?_)
        · refine hr_Fg h (fun _ h => ?_)
          refine hr_Fg h (fun _ h => ?_)
          refine hr_Fi h (fun _ h => ?_) (fun _ h => ?_)
          · exact hr_fr.tr FM15 (ih x2 x3 x4 x6 (x6 + (-1)) _ _ h)
          · exact hr_fr.tr FM15 (ih x2 x3 x4 x5 (x6 + (-1)) _ _ h)
        · exact hr_fr.tr FM15 (ih x2 x3 x4 x5 (x6 + (-1)) _ _ h)
theorem fr_X11_allyOf_9 (a1 : Int32) : ∀ (f : Nat) (x2 : Int32) (M : PM) (r : Int32 × PM), f_X11_allyOf_9 a1 f x2 M = some r → hr_fr hW_X11_allyOf M r.2 := by
  intro f
  induction f with
  | zero => intro x2 M r h; cases h
  | succ f ih =>
    intro x2 M r h
    rw [f_X11_allyOf_9.eq_2] at h
    refine hr_Fi h (fun _ h => ?_) (fun _ h => ?_)
    · cases h
      exact (hr_fr.rf _ M)
    · refine hr_Fb h (fun v4 M4 e h => ?_)
      have FM4 : hr_fr hW_X11_allyOf M M4 := hr_fr.tr (hr_fr.rf _ M) (hr_fr.mono (W := hW_X11_leastOf) rfl (fr_X11_leastOf x2 _ _ e))
      exact hr_fr.tr FM4 (fr_X11_allyOf_38 a1 (fun x2 M => f_X11_allyOf_9 a1 f x2 M) (fun x2 M r h => ih x2 M r h) FU x2 v4 (x2 &&& ((jl 1 v4) ^^^ (-1))) (-1) ((M4.1 275 25) - 1) _ _ h)
theorem fr_X11_allyOf (a1 : Int32) : ∀ (M : PM) (r : Int32 × PM), f_X11_allyOf a1 M = some r → hr_fr hW_X11_allyOf M r.2 := by
  intro M r h
  unfold f_X11_allyOf at h
  exact hr_fr.tr (hr_fr.rf _ M) (fr_X11_allyOf_9 a1 FU ((jl 1 (M.1 275 25)) - 1) _ _ h)
def hW_X11_flags : List (Nat × Nat) := [(275, 1), (275, 25), (275, 26), (288, 0), (289, 0), (300, 0)]
theorem fr_X11_flags_29 (a1 : Int32) (a2 : Int32) : ∀ (M : PM) (r : Int32 × PM), f_X11_flags_29 a1 a2 M = some r → hr_fr hW_X11_flags M r.2 := by
  intro M r h
  unfold f_X11_flags_29 at h
  refine hr_Fb h (fun v2 M2 e h => ?_)
  have FM2 : hr_fr hW_X11_flags M M2 := hr_fr.tr (hr_fr.rf _ M) (hr_fr.mono (W := hW_X11_findCouples) rfl (fr_X11_findCouples  _ _ e))
  refine hr_Fi h (fun _ h => ?_) (fun _ h => ?_)
  · refine hr_Fg h (fun _ h => ?_)
    cases h
    exact FM2
  · refine hr_Fb h (fun v6 M6 e h => ?_)
    have FM6 : hr_fr hW_X11_flags M M6 := hr_fr.tr FM2 (hr_fr.mono (W := hW_X11_allyOf) rfl (fr_X11_allyOf a2 _ _ e))
    cases h
    exact FM6
theorem fr_X11_flags (a1 : Int32) (a2 : Int32) : ∀ (M : PM) (r : Int32 × PM), f_X11_flags a1 a2 M = some r → hr_fr hW_X11_flags M r.2 := by
  intro M r h
  unfold f_X11_flags at h
  refine hr_Fb h (fun v2 M2 e h => ?_)
  have FM2 : hr_fr hW_X11_flags M M2 := hr_fr.tr (hr_fr.si rfl (hr_fr.rf _ M)) (hr_fr.mono (W := hW_X11_hand) rfl (fr_X11_hand a1 _ _ e))
  refine hr_Fi h (fun _ h => ?_) (fun _ h => ?_)
  · cases h
    exact FM2
  · refine hr_Fi h (fun _ h => ?_) (fun _ h => ?_)
    · exact hr_fr.tr FM2 (fr_X11_flags_29 a1 a2 _ _ h)
    · refine hr_Fb h (fun v7 M7 e h => ?_)
      have FM7 : hr_fr hW_X11_flags M M7 := hr_fr.tr FM2 (hr_fr.mono (W := hW_X11_isHue) rfl (fr_X11_isHue a2 _ _ e))
      refine hr_Fi h (fun _ h => ?_) (fun _ h => ?_)
      · cases h
        exact FM7
      · exact hr_fr.tr FM7 (fr_X11_flags_29 a1 a2 _ _ h)
def hW_X11_gainOf : List (Nat × Nat) := []
theorem fr_X11_gainOf (a1 : Int32) (a2 : Int32) (a3 : Int32) : ∀ (M : PM) (r : Int32 × PM), f_X11_gainOf a1 a2 a3 M = some r → hr_fr hW_X11_gainOf M r.2 := by
  intro M r h
  unfold f_X11_gainOf at h
  refine hr_Fb h (fun v2 M2 e h => ?_)
  have FM2 : hr_fr hW_X11_gainOf M M2 := hr_fr.tr (hr_fr.rf _ M) (hr_fr.mono (W := hW_X11_of) rfl (fr_X11_of ((50 + (10 * a1)) + a2) _ _ e))
  refine hr_Fg h (fun _ h => ?_)
  cases h
  exact FM2
def hW_X11_isCouple : List (Nat × Nat) := []
theorem fr_X11_isCouple (a1 : Int32) : ∀ (M : PM) (r : Int32 × PM), f_X11_isCouple a1 M = some r → hr_fr hW_X11_isCouple M r.2 := by
  intro M r h
  unfold f_X11_isCouple at h
  refine hr_Fb h (fun v2 M2 e h => ?_)
  have FM2 : hr_fr hW_X11_isCouple M M2 := hr_fr.tr (hr_fr.rf _ M) (hr_fr.mono (W := hW_X11_in) rfl (fr_X11_in a1 0 99 _ _ e))
  refine hr_Fi h (fun _ h => ?_) (fun _ h => ?_)
  · cases h
    exact FM2
  · refine hr_Fb h (fun v6 M6 e h => ?_)
    have FM6 : hr_fr hW_X11_isCouple M M6 := hr_fr.tr FM2 (hr_fr.mono (W := hW_X11_isHue) rfl (fr_X11_isHue (a1 / 10) _ _ e))
    refine hr_Fi h (fun _ h => ?_) (fun _ h => ?_)
    · cases h
      exact FM6
    · refine hr_Fb h (fun v10 M10 e h => ?_)
      have FM10 : hr_fr hW_X11_isCouple M M10 := hr_fr.tr FM6 (hr_fr.mono (W := hW_X11_isHue) rfl (fr_X11_isHue (jr a1 10) _ _ e))
      refine hr_Fi h (fun _ h => ?_) (fun _ h => ?_)
      · cases h
        exact FM10
      · cases h
        exact FM10
def hW_X11_gain : List (Nat × Nat) := [(275, 1), (275, 25), (275, 26), (288, 0), (289, 0)]
theorem fr_X11_gain (a1 : Int32) (a2 : Int32) (a3 : Int32) : ∀ (M : PM) (r : Int32 × PM), f_X11_gain a1 a2 a3 M = some r → hr_fr hW_X11_gain M r.2 := by
  intro M r h
  unfold f_X11_gain at h
  refine hr_Fb h (fun v2 M2 e h => ?_)
  have FM2 : hr_fr hW_X11_gain M M2 := hr_fr.tr (hr_fr.si rfl (hr_fr.rf _ M)) (hr_fr.mono (W := hW_X11_hand) rfl (fr_X11_hand a1 _ _ e))
  refine hr_Fi h (fun _ h => ?_) (fun _ h => ?_)
  · cases h
    exact FM2
  · refine hr_Fb h (fun v6 M6 e h => ?_)
    have FM6 : hr_fr hW_X11_gain M M6 := hr_fr.tr FM2 (hr_fr.mono (W := hW_X11_in) rfl (fr_X11_in a2 0 1 _ _ e))
    refine hr_Fi h (fun _ h => ?_) (fun _ h => ?_)
    · cases h
      exact FM6
    · refine hr_Fb h (fun v10 M10 e h => ?_)
      have FM10 : hr_fr hW_X11_gain M M10 := hr_fr.tr FM6 (hr_fr.mono (W := hW_X11_isCouple) rfl (fr_X11_isCouple a3 _ _ e))
      refine hr_Fi h (fun _ h => ?_) (fun _ h => ?_)
      · cases h
        exact FM10
      · refine hr_Fi h (fun _ h => ?_) (fun _ h => ?_)
        · refine hr_Fb h (fun v15 M15 e h => ?_)
          have FM15 : hr_fr hW_X11_gain M M15 := hr_fr.tr FM10 (hr_fr.mono (W := hW_X11_gainOf) rfl (fr_X11_gainOf 0 (a3 / 10) (jr a3 10) _ _ e))
          cases h
          exact FM15
        · refine hr_Fb h (fun v18 M18 e h => ?_)
          have FM18 : hr_fr hW_X11_gain M M18 := hr_fr.tr FM10 (hr_fr.mono (W := hW_X11_gainOf) rfl (fr_X11_gainOf 1 (jr a3 10) (a3 / 10) _ _ e))
          cases h
          exact FM18
def hW_X11_isRest : List (Nat × Nat) := []
theorem fr_X11_isRest_2 (a1 : Int32) (a2 : Int32) : ∀ (f : Nat) (x3 : Int32) (M : PM) (r : Int32 × PM), f_X11_isRest_2 a1 a2 f x3 M = some r → hr_fr hW_X11_isRest M r.2 := by
  intro f
  induction f with
  | zero => intro x3 M r h; cases h
  | succ f ih =>
    intro x3 M r h
    rw [f_X11_isRest_2.eq_2] at h
    refine hr_Fi h (fun _ h => ?_) (fun _ h => ?_)
    · cases h
      exact (hr_fr.rf _ M)
    · refine hr_Fb h (fun v4 M4 e h => ?_)
      have FM4 : hr_fr hW_X11_isRest M M4 := hr_fr.tr (hr_fr.rf _ M) (hr_fr.mono (W := hW_X11_gainOf) rfl (fr_X11_gainOf 0 x3 a2 _ _ e))
      refine hr_Fb h (fun v6 M6 e h => ?_)
      have FM6 : hr_fr hW_X11_isRest M M6 := hr_fr.tr FM4 (hr_fr.mono (W := hW_X11_gainOf) rfl (fr_X11_gainOf 0 a1 a2 _ _ e))
      refine hr_Fi h (fun _ h => ?_) (fun _ h => ?_)
      · cases h
        exact FM6
      · refine hr_Fb h (fun v10 M10 e h => ?_)
        have FM10 : hr_fr hW_X11_isRest M M10 := hr_fr.tr FM6 (hr_fr.mono (W := hW_X11_gainOf) rfl (fr_X11_gainOf 1 x3 a1 _ _ e))
        refine hr_Fb h (fun v12 M12 e h => ?_)
        have FM12 : hr_fr hW_X11_isRest M M12 := hr_fr.tr FM10 (hr_fr.mono (W := hW_X11_gainOf) rfl (fr_X11_gainOf 1 a2 a1 _ _ e))
        refine hr_Fi h (fun _ h => ?_) (fun _ h => ?_)
        · exact hr_fr.tr FM12 (ih (x3 + 1) _ _ h)
        · cases h
          exact FM12
theorem fr_X11_isRest (a1 : Int32) (a2 : Int32) : ∀ (M : PM) (r : Int32 × PM), f_X11_isRest a1 a2 M = some r → hr_fr hW_X11_isRest M r.2 := by
  intro M r h
  unfold f_X11_isRest at h
  exact hr_fr.tr (hr_fr.rf _ M) (fr_X11_isRest_2 a1 a2 FU 0 _ _ h)
def hW_X11_rest : List (Nat × Nat) := [(275, 1), (275, 25), (275, 26), (288, 0), (289, 0)]
theorem fr_X11_rest_20 (a1 : Int32) (a2 : Int32) : ∀ (f : Nat) (x3 : Int32) (x4 : Int32) (M : PM) (r : Int32 × PM), f_X11_rest_20 a1 a2 f x3 x4 M = some r → hr_fr hW_X11_rest M r.2 := by
  intro f
  induction f with
  | zero => intro x3 x4 M r h; cases h
  | succ f ih =>
    intro x3 x4 M r h
    rw [f_X11_rest_20.eq_2] at h
    refine hr_Fi h (fun _ h => ?_) (fun _ h => ?_)
    · refine hr_Fi h (fun _ h => ?_) (fun _ h => ?_)
      · cases h
        exact (hr_fr.rf _ M)
      · cases h
        exact (hr_fr.rf _ M)
    · refine hr_Fb h (fun v6 M6 e h => ?_)
      have FM6 : hr_fr hW_X11_rest M M6 := hr_fr.tr (hr_fr.rf _ M) (hr_fr.mono (W := hW_X11_isCouple) rfl (fr_X11_isCouple x4 _ _ e))
      refine hr_Fi h (fun _ h => ?_) (fun _ h => ?_)
      · exact hr_fr.tr FM6 (ih x3 (x4 + 1) _ _ h)
      · refine hr_Fb h (fun v10 M10 e h => ?_)
        have FM10 : hr_fr hW_X11_rest M M10 := hr_fr.tr FM6 (hr_fr.mono (W := hW_X11_isRest) rfl (fr_X11_isRest (x4 / 10) (jr x4 10) _ _ e))
        refine hr_Fi h (fun _ h => ?_) (fun _ h => ?_)
        · exact hr_fr.tr FM10 (ih x3 (x4 + 1) _ _ h)
        · refine hr_Fi h (fun _ h => ?_) (fun _ h => ?_)
          · cases h
            exact FM10
          · exact hr_fr.tr FM10 (ih (x3 + 1) (x4 + 1) _ _ h)
theorem fr_X11_rest (a1 : Int32) (a2 : Int32) : ∀ (M : PM) (r : Int32 × PM), f_X11_rest a1 a2 M = some r → hr_fr hW_X11_rest M r.2 := by
  intro M r h
  unfold f_X11_rest at h
  refine hr_Fb h (fun v2 M2 e h => ?_)
  have FM2 : hr_fr hW_X11_rest M M2 := hr_fr.tr (hr_fr.si rfl (hr_fr.rf _ M)) (hr_fr.mono (W := hW_X11_hand) rfl (fr_X11_hand a1 _ _ e))
  refine hr_Fi h (fun _ h => ?_) (fun _ h => ?_)
  · cases h
    exact FM2
  · exact hr_fr.tr FM2 (fr_X11_rest_20 a1 a2 FU 0 0 _ _ h)
def hW_X11_spread : List (Nat × Nat) := [(275, 1), (275, 25), (275, 26), (288, 0), (289, 0)]
theorem fr_X11_spread_153 (a1 : Int32) (a2 : Int32) (a3 : Int32) (k34 : Int32 → Int32 → Int32 → PM → Option (Int32 × PM)) (x5 : Int32) (x7 : Int32) (s0 : Int32) (hk34 : ∀ (y0 : Int32) (y1 : Int32) (y2 : Int32) (M : PM) (r : Int32 × PM), k34 y0 y1 y2 M = some r → hr_fr hW_X11_spread M r.2) : ∀ (M : PM) (r : Int32 × PM), f_X11_spread_153 a1 a2 a3 k34 x5 x7 s0 M = some r → hr_fr hW_X11_spread M r.2 := by
  intro M r h
  unfold f_X11_spread_153 at h
  refine hr_Fi h (fun _ h => ?_) (fun _ h => ?_)
  · exact hr_fr.tr (hr_fr.rf _ M) (hk34 x7 (x5 + 0) s0 _ _ h)
  · exact hr_fr.tr (hr_fr.rf _ M) (hk34 x7 (x5 + 1) s0 _ _ h)
theorem fr_X11_spread_112 (a1 : Int32) (a2 : Int32) (a3 : Int32) (k34 : Int32 → Int32 → Int32 → PM → Option (Int32 × PM)) (k46 : Int32 → Int32 → Int32 → Int32 → PM → Option (Int32 × PM)) (x4 : Int32) (x5 : Int32) (x7 : Int32) (x8 : Int32) (s0 : Int32) (hk34 : ∀ (y0 : Int32) (y1 : Int32) (y2 : Int32) (M : PM) (r : Int32 × PM), k34 y0 y1 y2 M = some r → hr_fr hW_X11_spread M r.2) (hk46 : ∀ (y0 : Int32) (y1 : Int32) (y2 : Int32) (y3 : Int32) (M : PM) (r : Int32 × PM), k46 y0 y1 y2 y3 M = some r → hr_fr hW_X11_spread M r.2) : ∀ (M : PM) (r : Int32 × PM), f_X11_spread_112 a1 a2 a3 k34 k46 x4 x5 x7 x8 s0 M = some r → hr_fr hW_X11_spread M r.2 := by
  intro M r h
  unfold f_X11_spread_112 at h
  refine hr_Fi h (fun _ h => ?_) (fun _ h => ?_)
  · exact hr_fr.tr (hr_fr.rf _ M) (hk46 x4 x5 (x7 ||| 0) (x8 + 1) _ _ h)
  · exact hr_fr.tr (hr_fr.rf _ M) (hk46 x4 x5 (x7 ||| (jl 1 (jr x8 10))) (x8 + 1) _ _ h)
theorem fr_X11_spread_46 (a1 : Int32) (a2 : Int32) (a3 : Int32) (k34 : Int32 → Int32 → Int32 → PM → Option (Int32 × PM)) (hk34 : ∀ (y0 : Int32) (y1 : Int32) (y2 : Int32) (M : PM) (r : Int32 × PM), k34 y0 y1 y2 M = some r → hr_fr hW_X11_spread M r.2) : ∀ (f : Nat) (x4 : Int32) (x5 : Int32) (x7 : Int32) (x8 : Int32) (M : PM) (r : Int32 × PM), f_X11_spread_46 a1 a2 a3 k34 f x4 x5 x7 x8 M = some r → hr_fr hW_X11_spread M r.2 := by
  intro f
  induction f with
  | zero => intro x4 x5 x7 x8 M r h; cases h
  | succ f ih =>
    intro x4 x5 x7 x8 M r h
    rw [f_X11_spread_46.eq_2] at h
    refine hr_Fi h (fun _ h => ?_) (fun _ h => ?_)
    · refine hr_Fi h (fun _ h => ?_) (fun _ h => ?_)
      · exact hr_fr.tr (hr_fr.rf _ M) (fr_X11_spread_153 a1 a2 a3 k34 x5 x7 0 hk34 _ _ h)
      · exact hr_fr.tr (hr_fr.rf _ M) (fr_X11_spread_153 a1 a2 a3 k34 x5 x7 1 hk34 _ _ h)
    · refine hr_Fi h (fun _ h => ?_) (fun _ h => ?_)
      · exact hr_fr.tr (hr_fr.rf _ M) (fr_X11_spread_112 a1 a2 a3 k34 (fun x4 x5 x7 x8 M => f_X11_spread_46 a1 a2 a3 k34 f x4 x5 x7 x8 M) x4 x5 x7 x8 0 hk34 (fun x4 x5 x7 x8 M r h => ih x4 x5 x7 x8 M r h) _ _ h)
      · refine hr_Fi h (fun _ h => ?_) (fun _ h => ?_)
        · exact hr_fr.tr (hr_fr.rf _ M) (fr_X11_spread_112 a1 a2 a3 k34 (fun x4 x5 x7 x8 M => f_X11_spread_46 a1 a2 a3 k34 f x4 x5 x7 x8 M) x4 x5 x7 x8 0 hk34 (fun x4 x5 x7 x8 M r h => ih x4 x5 x7 x8 M r h) _ _ h)
        · refine hr_Fb h (fun v10 M10 e h => ?_)
          have FM10 : hr_fr hW_X11_spread M M10 := hr_fr.tr (hr_fr.rf _ M) (hr_fr.mono (W := hW_X11_has) rfl (fr_X11_has x4 (x8 / 10) _ _ e))
          refine hr_Fi h (fun _ h => ?_) (fun _ h => ?_)
          · exact hr_fr.tr FM10 (fr_X11_spread_112 a1 a2 a3 k34 (fun x4 x5 x7 x8 M => f_X11_spread_46 a1 a2 a3 k34 f x4 x5 x7 x8 M) x4 x5 x7 x8 0 hk34 (fun x4 x5 x7 x8 M r h => ih x4 x5 x7 x8 M r h) _ _ h)
          · refine hr_Fb h (fun v14 M14 e h => ?_)
            have FM14 : hr_fr hW_X11_spread M M14 := hr_fr.tr FM10 (hr_fr.mono (W := hW_X11_clash) rfl (fr_X11_clash (x8 / 10) (jr x8 10) _ _ e))
            refine hr_Fi h (fun _ h => ?_) (fun _ h => ?_)
            · exact hr_fr.tr FM14 (fr_X11_spread_112 a1 a2 a3 k34 (fun x4 x5 x7 x8 M => f_X11_spread_46 a1 a2 a3 k34 f x4 x5 x7 x8 M) x4 x5 x7 x8 0 hk34 (fun x4 x5 x7 x8 M r h => ih x4 x5 x7 x8 M r h) _ _ h)
            · exact hr_fr.tr FM14 (fr_X11_spread_112 a1 a2 a3 k34 (fun x4 x5 x7 x8 M => f_X11_spread_46 a1 a2 a3 k34 f x4 x5 x7 x8 M) x4 x5 x7 x8 1 hk34 (fun x4 x5 x7 x8 M r h => ih x4 x5 x7 x8 M r h) _ _ h)
theorem fr_X11_spread_34 (a1 : Int32) (a2 : Int32) (a3 : Int32) : ∀ (f : Nat) (x4 : Int32) (x5 : Int32) (x6 : Int32) (M : PM) (r : Int32 × PM), f_X11_spread_34 a1 a2 a3 f x4 x5 x6 M = some r → hr_fr hW_X11_spread M r.2 := by
  intro f
  induction f with
  | zero => intro x4 x5 x6 M r h; cases h
  | succ f ih =>
    intro x4 x5 x6 M r h
    rw [f_X11_spread_34.eq_2] at h
    refine hr_Fi h (fun _ h => ?_) (fun _ h => ?_)
    · refine hr_Fi h (fun _ h => ?_) (fun _ h => ?_)
      · refine hr_Fb h (fun v4 M4 e h => ?_)
        have FM4 : hr_fr hW_X11_spread M M4 := hr_fr.tr (hr_fr.rf _ M) (hr_fr.mono (W := hW_X11_ones) rfl (fr_X11_ones x4 _ _ e))
        cases h
        exact FM4
      · cases h
        exact (hr_fr.rf _ M)
    · exact hr_fr.tr (hr_fr.rf _ M) (fr_X11_spread_46 a1 a2 a3 (fun x4 x5 x6 M => f_X11_spread_34 a1 a2 a3 f x4 x5 x6 M) (fun x4 x5 x6 M r h => ih x4 x5 x6 M r h) FU x4 x5 x4 0 _ _ h)
theorem fr_X11_spread (a1 : Int32) (a2 : Int32) (a3 : Int32) : ∀ (M : PM) (r : Int32 × PM), f_X11_spread a1 a2 a3 M = some r → hr_fr hW_X11_spread M r.2 := by
  intro M r h
  unfold f_X11_spread at h
  refine hr_Fb h (fun v2 M2 e h => ?_)
  have FM2 : hr_fr hW_X11_spread M M2 := hr_fr.tr (hr_fr.si rfl (hr_fr.rf _ M)) (hr_fr.mono (W := hW_X11_hand) rfl (fr_X11_hand a1 _ _ e))
  refine hr_Fi h (fun _ h => ?_) (fun _ h => ?_)
  · cases h
    exact FM2
  · refine hr_Fb h (fun v6 M6 e h => ?_)
    have FM6 : hr_fr hW_X11_spread M M6 := hr_fr.tr FM2 (hr_fr.mono (W := hW_X11_isHue) rfl (fr_X11_isHue a2 _ _ e))
    refine hr_Fi h (fun _ h => ?_) (fun _ h => ?_)
    · cases h
      exact FM6
    · exact hr_fr.tr FM6 (fr_X11_spread_34 a1 a2 a3 FU (jl 1 a2) 0 1 _ _ h)
def hW_X11_sneezes : List (Nat × Nat) := []
theorem fr_X11_sneezes  : ∀ (M : PM) (r : Int32 × PM), f_X11_sneezes M = some r → hr_fr hW_X11_sneezes M r.2 := by
  intro M r h
  unfold f_X11_sneezes at h
  refine hr_Fg h (fun _ h => ?_)
  cases h
  exact (hr_fr.rf _ M)
def hW_X11_sneezeOf : List (Nat × Nat) := []
theorem fr_X11_sneezeOf (a1 : Int32) (a2 : Int32) : ∀ (M : PM) (r : Int32 × PM), f_X11_sneezeOf a1 a2 M = some r → hr_fr hW_X11_sneezeOf M r.2 := by
  intro M r h
  unfold f_X11_sneezeOf at h
  refine hr_Fg h (fun _ h => ?_)
  cases h
  exact (hr_fr.rf _ M)
def hW_X11_hasSight : List (Nat × Nat) := [(275, 47)]
theorem fr_X11_hasSight (a1 : Int32) : ∀ (M : PM) (r : Int32 × PM), f_X11_hasSight a1 M = some r → hr_fr hW_X11_hasSight M r.2 := by
  intro M r h
  unfold f_X11_hasSight at h
  refine hr_Fb h (fun v2 M2 e h => ?_)
  have FM2 : hr_fr hW_X11_hasSight M M2 := hr_fr.tr (hr_fr.si rfl (hr_fr.rf _ M)) (hr_fr.mono (W := hW_X11_is) rfl (fr_X11_is 3 a1 _ _ e))
  refine hr_Fg h (fun _ h => ?_)
  cases h
  exact FM2
def hW_X11_sneeze : List (Nat × Nat) := [(275, 1), (275, 47)]
theorem fr_X11_sneeze (a1 : Int32) (a2 : Int32) (a3 : Int32) : ∀ (M : PM) (r : Int32 × PM), f_X11_sneeze a1 a2 a3 M = some r → hr_fr hW_X11_sneeze M r.2 := by
  intro M r h
  unfold f_X11_sneeze at h
  refine hr_Fb h (fun v2 M2 e h => ?_)
  have FM2 : hr_fr hW_X11_sneeze M M2 := hr_fr.tr (hr_fr.si rfl (hr_fr.rf _ M)) (hr_fr.mono (W := hW_X11_hasSight) rfl (fr_X11_hasSight a1 _ _ e))
  refine hr_Fi h (fun _ h => ?_) (fun _ h => ?_)
  · cases h
    exact FM2
  · refine hr_Fi h (fun _ h => ?_) (fun _ h => ?_)
    · refine hr_Fi h (fun _ h => ?_) (fun _ h => ?_)
      · refine hr_Fb h (fun v8 M8 e h => ?_)
        have FM8 : hr_fr hW_X11_sneeze M M8 := hr_fr.tr FM2 (hr_fr.mono (W := hW_X11_sneezes) rfl (fr_X11_sneezes  _ _ e))
        cases h
        exact FM8
      · cases h
        exact FM2
    · refine hr_Fb h (fun v12 M12 e h => ?_)
      have FM12 : hr_fr hW_X11_sneeze M M12 := hr_fr.tr FM2 (hr_fr.mono (W := hW_X11_sneezes) rfl (fr_X11_sneezes  _ _ e))
      refine hr_Fb h (fun v14 M14 e h => ?_)
      have FM14 : hr_fr hW_X11_sneeze M M14 := hr_fr.tr FM12 (hr_fr.mono (W := hW_X11_in) rfl (fr_X11_in a2 0 (v12 - 1) _ _ e))
      refine hr_Fi h (fun _ h => ?_) (fun _ h => ?_)
      · cases h
        exact FM14
      · refine hr_Fb h (fun v18 M18 e h => ?_)
        have FM18 : hr_fr hW_X11_sneeze M M18 := hr_fr.tr FM14 (hr_fr.mono (W := hW_X11_in) rfl (fr_X11_in a3 0 2 _ _ e))
        refine hr_Fi h (fun _ h => ?_) (fun _ h => ?_)
        · cases h
          exact FM18
        · refine hr_Fb h (fun v22 M22 e h => ?_)
          have FM22 : hr_fr hW_X11_sneeze M M22 := hr_fr.tr FM18 (hr_fr.mono (W := hW_X11_sneezeOf) rfl (fr_X11_sneezeOf a2 a3 _ _ e))
          cases h
          exact FM22
def hW_X11_laySingle : List (Nat × Nat) := [(275, 49), (275, 50), (275, 51)]
theorem fr_X11_laySingle_11 (a1 : Int32) : ∀ (f : Nat) (x2 : Int32) (x3 : Int32) (M : PM) (r : Unit × PM), f_X11_laySingle_11 a1 f x2 x3 M = some r → hr_fr hW_X11_laySingle M r.2 := by
  intro f
  induction f with
  | zero => intro x2 x3 M r h; cases h
  | succ f ih =>
    intro x2 x3 M r h
    rw [f_X11_laySingle_11.eq_2] at h
    refine hr_Fi h (fun _ h => ?_) (fun _ h => ?_)
    · cases h
      exact (hr_fr.si rfl (hr_fr.si rfl (hr_fr.si rfl (hr_fr.rf _ M))))
    · exact hr_fr.tr (hr_fr.rf _ M) (ih (x2 - (55 - x3)) (x3 + 1) _ _ h)
theorem fr_X11_laySingle (a1 : Int32) : ∀ (M : PM) (r : Unit × PM), f_X11_laySingle a1 M = some r → hr_fr hW_X11_laySingle M r.2 := by
  intro M r h
  unfold f_X11_laySingle at h
  refine hr_Fi h (fun _ h => ?_) (fun _ h => ?_)
  · refine hr_Fi h (fun _ h => ?_) (fun _ h => ?_)
    · cases h
      exact (hr_fr.si rfl (hr_fr.si rfl (hr_fr.si rfl (hr_fr.rf _ M))))
    · cases h
      exact (hr_fr.si rfl (hr_fr.si rfl (hr_fr.si rfl (hr_fr.rf _ M))))
  · exact hr_fr.tr (hr_fr.rf _ M) (fr_X11_laySingle_11 a1 FU a1 0 _ _ h)
def hW_X11_holdsOf : List (Nat × Nat) := [(289, 0)]
theorem fr_X11_holdsOf (a1 : Int32) (a2 : Int32) : ∀ (M : PM) (r : Int32 × PM), f_X11_holdsOf a1 a2 M = some r → hr_fr hW_X11_holdsOf M r.2 := by
  intro M r h
  unfold f_X11_holdsOf at h
  refine hr_Fb h (fun v2 M2 e h => ?_)
  have FM2 : hr_fr hW_X11_holdsOf M M2 := hr_fr.tr (hr_fr.rf _ M) (hr_fr.mono (W := hW_X11_layHue) rfl (fr_X11_layHue 0 a1 _ _ e))
  refine hr_Fb h (fun v4 M4 e h => ?_)
  have FM4 : hr_fr hW_X11_holdsOf M M4 := hr_fr.tr FM2 (hr_fr.mono (W := hW_X11_layHue) rfl (fr_X11_layHue 3 a2 _ _ e))
  refine hr_Fb h (fun v6 M6 e h => ?_)
  have FM6 : hr_fr hW_X11_holdsOf M M6 := hr_fr.tr FM4 (hr_fr.mono (W := hW_X11_holds) rfl (fr_X11_holds (M4.1 275 48) (M4.1 275 49) (M4.1 275 50) _ _ e))
  refine hr_Fg h (fun _ h => ?_)
  cases h
  exact FM6
def hW_X11_isFitting : List (Nat × Nat) := [(275, 49), (275, 50), (275, 51), (289, 0)]
theorem fr_X11_isFitting_46 (a1 : Int32) (k7 : Int32 → PM → Option (Int32 × PM)) (x2 : Int32) (s0 : Int32) (s1 : Int32) (hk7 : ∀ (y0 : Int32) (M : PM) (r : Int32 × PM), k7 y0 M = some r → hr_fr hW_X11_isFitting M r.2) : ∀ (M : PM) (r : Int32 × PM), f_X11_isFitting_46 a1 k7 x2 s0 s1 M = some r → hr_fr hW_X11_isFitting M r.2 := by
  intro M r h
  unfold f_X11_isFitting_46 at h
  refine hr_Fi h (fun _ h => ?_) (fun _ h => ?_)
  · exact hr_fr.tr (hr_fr.rf _ M) (hk7 (x2 + 1) _ _ h)
  · cases h
    exact (hr_fr.rf _ M)
theorem fr_X11_isFitting_7 (a1 : Int32) : ∀ (f : Nat) (x2 : Int32) (M : PM) (r : Int32 × PM), f_X11_isFitting_7 a1 f x2 M = some r → hr_fr hW_X11_isFitting M r.2 := by
  intro f
  induction f with
  | zero => intro x2 M r h; cases h
  | succ f ih =>
    intro x2 M r h
    rw [f_X11_isFitting_7.eq_2] at h
    refine hr_Fb h (fun v2 M2 e h => ?_)
    have FM2 : hr_fr hW_X11_isFitting M M2 := hr_fr.tr (hr_fr.rf _ M) (hr_fr.mono (W := hW_X11_sneezes) rfl (fr_X11_sneezes  _ _ e))
    refine hr_Fi h (fun _ h => ?_) (fun _ h => ?_)
    · cases h
      exact FM2
    · refine hr_Fb h (fun v6 M6 e h => ?_)
      have FM6 : hr_fr hW_X11_isFitting M M6 := hr_fr.tr FM2 (hr_fr.mono (W := hW_X11_sneezeOf) rfl (fr_X11_sneezeOf x2 1 _ _ e))
      refine hr_Fb h (fun v8 M8 e h => ?_)
      have FM8 : hr_fr hW_X11_isFitting M M8 := hr_fr.tr FM6 (hr_fr.mono (W := hW_X11_sneezeOf) rfl (fr_X11_sneezeOf x2 2 _ _ e))
      refine hr_Fb h (fun v9 M9 e h => ?_)
      have FM9 : hr_fr hW_X11_isFitting M M9 := hr_fr.tr FM8 (hr_fr.mono (W := hW_X11_holdsOf) rfl (fr_X11_holdsOf v6 v8 _ _ e))
      refine hr_Fb h (fun v11 M11 e h => ?_)
      have FM11 : hr_fr hW_X11_isFitting M M11 := hr_fr.tr FM9 (hr_fr.mono (W := hW_X11_sneezeOf) rfl (fr_X11_sneezeOf x2 0 _ _ e))
      refine hr_Fi h (fun _ h => ?_) (fun _ h => ?_)
      · exact hr_fr.tr FM11 (fr_X11_isFitting_46 a1 (fun x2 M => f_X11_isFitting_7 a1 f x2 M) x2 1 v9 (fun x2 M r h => ih x2 M r h) _ _ h)
      · exact hr_fr.tr FM11 (fr_X11_isFitting_46 a1 (fun x2 M => f_X11_isFitting_7 a1 f x2 M) x2 0 v9 (fun x2 M r h => ih x2 M r h) _ _ h)
theorem fr_X11_isFitting (a1 : Int32) : ∀ (M : PM) (r : Int32 × PM), f_X11_isFitting a1 M = some r → hr_fr hW_X11_isFitting M r.2 := by
  intro M r h
  unfold f_X11_isFitting at h
  refine hr_Fb h (fun v2 M2 e h => ?_)
  have FM2 : hr_fr hW_X11_isFitting M M2 := hr_fr.tr (hr_fr.rf _ M) (hr_fr.mono (W := hW_X11_laySingle) rfl (fr_X11_laySingle a1 _ _ e))
  exact hr_fr.tr FM2 (fr_X11_isFitting_7 a1 FU 0 _ _ h)
def hW_X11_layFits : List (Nat × Nat) := [(275, 25), (275, 26), (275, 47), (275, 49), (275, 50), (275, 51), (288, 0), (289, 0), (301, 0)]
theorem fr_X11_layFits_64 (a1 : Int32) (a2 : Int32) : ∀ (f : Nat) (x3 : Int32) (M : PM) (r : Int32 × PM), f_X11_layFits_64 a1 a2 f x3 M = some r → hr_fr hW_X11_layFits M r.2 := by
  intro f
  induction f with
  | zero => intro x3 M r h; cases h
  | succ f ih =>
    intro x3 M r h
    rw [f_X11_layFits_64.eq_2] at h
    refine hr_Fi h (fun _ h => ?_) (fun _ h => ?_)
    · cases h
      exact (hr_fr.rf _ M)
    · refine hr_Fb h (fun v4 M4 e h => ?_)
      have FM4 : hr_fr hW_X11_layFits M M4 := hr_fr.tr (hr_fr.rf _ M) (hr_fr.mono (W := hW_X11_isFitting) rfl (fr_X11_isFitting x3 _ _ e))
      refine hr_Fg h (fun _ h => ?_)
      exact hr_fr.tr (hr_fr.si rfl FM4) (ih (x3 + 1) _ _ h)
theorem fr_X11_layFits_20 (a1 : Int32) (a2 : Int32) : ∀ (f : Nat) (x3 : Int32) (M : PM) (r : Int32 × PM), f_X11_layFits_20 a1 a2 f x3 M = some r → hr_fr hW_X11_layFits M r.2 := by
  intro f
  induction f with
  | zero => intro x3 M r h; cases h
  | succ f ih =>
    intro x3 M r h
    rw [f_X11_layFits_20.eq_2] at h
    refine hr_Fb h (fun v2 M2 e h => ?_)
    have FM2 : hr_fr hW_X11_layFits M M2 := hr_fr.tr (hr_fr.rf _ M) (hr_fr.mono (W := hW_X11_sneezes) rfl (fr_X11_sneezes  _ _ e))
    refine hr_Fi h (fun _ h => ?_) (fun _ h => ?_)
    · exact hr_fr.tr FM2 (fr_X11_layFits_64 a1 a2 FU 0 _ _ h)
    · refine hr_Fb h (fun v6 M6 e h => ?_)
      have FM6 : hr_fr hW_X11_layFits M M6 := hr_fr.tr FM2 (hr_fr.mono (W := hW_X11_sneezeOf) rfl (fr_X11_sneezeOf x3 1 _ _ e))
      refine hr_Fb h (fun v7 M7 e h => ?_)
      have FM7 : hr_fr hW_X11_layFits M M7 := hr_fr.tr FM6 (hr_fr.mono (W := hW_X11_isHue) rfl (fr_X11_isHue v6 _ _ e))
      refine hr_Fi h (fun _ h => ?_) (fun _ h => ?_)
      · cases h
        exact FM7
      · refine hr_Fb h (fun v11 M11 e h => ?_)
        have FM11 : hr_fr hW_X11_layFits M M11 := hr_fr.tr FM7 (hr_fr.mono (W := hW_X11_sneezeOf) rfl (fr_X11_sneezeOf x3 2 _ _ e))
        refine hr_Fb h (fun v12 M12 e h => ?_)
        have FM12 : hr_fr hW_X11_layFits M M12 := hr_fr.tr FM11 (hr_fr.mono (W := hW_X11_isHue) rfl (fr_X11_isHue v11 _ _ e))
        refine hr_Fi h (fun _ h => ?_) (fun _ h => ?_)
        · cases h
          exact FM12
        · exact hr_fr.tr FM12 (ih (x3 + 1) _ _ h)
theorem fr_X11_layFits (a1 : Int32) (a2 : Int32) : ∀ (M : PM) (r : Int32 × PM), f_X11_layFits a1 a2 M = some r → hr_fr hW_X11_layFits M r.2 := by
  intro M r h
  unfold f_X11_layFits at h
  refine hr_Fb h (fun v2 M2 e h => ?_)
  have FM2 : hr_fr hW_X11_layFits M M2 := hr_fr.tr (hr_fr.rf _ M) (hr_fr.mono (W := hW_X11_hasSight) rfl (fr_X11_hasSight a2 _ _ e))
  refine hr_Fi h (fun _ h => ?_) (fun _ h => ?_)
  · cases h
    exact FM2
  · refine hr_Fb h (fun v6 M6 e h => ?_)
    have FM6 : hr_fr hW_X11_layFits M M6 := hr_fr.tr FM2 (hr_fr.mono (W := hW_X11_hand) rfl (fr_X11_hand a1 _ _ e))
    refine hr_Fi h (fun _ h => ?_) (fun _ h => ?_)
    · cases h
      exact FM6
    · exact hr_fr.tr FM6 (fr_X11_layFits_20 a1 a2 FU 0 _ _ h)
def hW_X11_tells : List (Nat × Nat) := [(275, 49), (275, 50), (275, 51), (289, 0)]
theorem fr_X11_tells_132 (k8 : Int32 → Int32 → Int32 → PM → Option (Int32 × PM)) (x2 : Int32) (x3 : Int32) (x4 : Int32) (x5 : Int32) (s0 : Int32) (hk8 : ∀ (y0 : Int32) (y1 : Int32) (y2 : Int32) (M : PM) (r : Int32 × PM), k8 y0 y1 y2 M = some r → hr_fr hW_X11_tells M r.2) : ∀ (M : PM) (r : Int32 × PM), f_X11_tells_132 k8 x2 x3 x4 x5 s0 M = some r → hr_fr hW_X11_tells M r.2 := by
  intro M r h
  unfold f_X11_tells_132 at h
  refine hr_Fb h (fun v2 M2 e h => ?_)
  have FM2 : hr_fr hW_X11_tells M M2 := hr_fr.tr (hr_fr.rf _ M) (hr_fr.mono (W := hW_X11_greater) rfl (fr_X11_greater x4 x5 _ _ e))
  refine hr_Fb h (fun v3 M3 e h => ?_)
  have FM3 : hr_fr hW_X11_tells M M3 := hr_fr.tr FM2 (hr_fr.mono (W := hW_X11_lesser) rfl (fr_X11_lesser x2 v2 _ _ e))
  exact hr_fr.tr FM3 (hk8 s0 v3 (x3 + 1) _ _ h)
theorem fr_X11_tells_92 (k8 : Int32 → Int32 → Int32 → PM → Option (Int32 × PM)) (k42 : Int32 → Int32 → Int32 → Int32 → Int32 → Int32 → PM → Option (Int32 × PM)) (x1 : Int32) (x2 : Int32) (x3 : Int32) (x5 : Int32) (x6 : Int32) (x7 : Int32) (s0 : Int32) (s1 : Int32) (hk8 : ∀ (y0 : Int32) (y1 : Int32) (y2 : Int32) (M : PM) (r : Int32 × PM), k8 y0 y1 y2 M = some r → hr_fr hW_X11_tells M r.2) (hk42 : ∀ (y0 : Int32) (y1 : Int32) (y2 : Int32) (y3 : Int32) (y4 : Int32) (y5 : Int32) (M : PM) (r : Int32 × PM), k42 y0 y1 y2 y3 y4 y5 M = some r → hr_fr hW_X11_tells M r.2) : ∀ (M : PM) (r : Int32 × PM), f_X11_tells_92 k8 k42 x1 x2 x3 x5 x6 x7 s0 s1 M = some r → hr_fr hW_X11_tells M r.2 := by
  intro M r h
  unfold f_X11_tells_92 at h
  refine hr_Fi h (fun _ h => ?_) (fun _ h => ?_)
  · exact hr_fr.tr (hr_fr.rf _ M) (hk42 x1 x2 x3 (s1 + s0) (x5 + 1) (x6 + 1) _ _ h)
  · exact hr_fr.tr (hr_fr.rf _ M) (hk42 x1 x2 x3 (s1 + s0) (x5 + 0) (x6 + 1) _ _ h)
theorem fr_X11_tells_42 (k8 : Int32 → Int32 → Int32 → PM → Option (Int32 × PM)) (hk8 : ∀ (y0 : Int32) (y1 : Int32) (y2 : Int32) (M : PM) (r : Int32 × PM), k8 y0 y1 y2 M = some r → hr_fr hW_X11_tells M r.2) : ∀ (f : Nat) (x1 : Int32) (x2 : Int32) (x3 : Int32) (x4 : Int32) (x5 : Int32) (x6 : Int32) (M : PM) (r : Int32 × PM), f_X11_tells_42 k8 f x1 x2 x3 x4 x5 x6 M = some r → hr_fr hW_X11_tells M r.2 := by
  intro f
  induction f with
  | zero => intro x1 x2 x3 x4 x5 x6 M r h; cases h
  | succ f ih =>
    intro x1 x2 x3 x4 x5 x6 M r h
    rw [f_X11_tells_42.eq_2] at h
    refine hr_Fi h (fun _ h => ?_) (fun _ h => ?_)
    · refine hr_Fb h (fun v3 M3 e h => ?_)
      have FM3 : hr_fr hW_X11_tells M M3 := hr_fr.tr (hr_fr.rf _ M) (hr_fr.mono (W := hW_X11_greater) rfl (fr_X11_greater x4 x5 _ _ e))
      refine hr_Fi h (fun _ h => ?_) (fun _ h => ?_)
      · exact hr_fr.tr FM3 (fr_X11_tells_132 k8 x2 x3 x4 x5 x1 hk8 _ _ h)
      · exact hr_fr.tr FM3 (fr_X11_tells_132 k8 x2 x3 x4 x5 x3 hk8 _ _ h)
    · refine hr_Fg h (fun _ h => ?_)
      refine hr_Fi h (fun _ h => ?_) (fun _ h => ?_)
      · exact hr_fr.tr (hr_fr.rf _ M) (ih x1 x2 x3 x4 x5 (x6 + 1) _ _ h)
      · refine hr_Fb h (fun v10 M10 e h => ?_)
        have FM10 : hr_fr hW_X11_tells M M10 := hr_fr.tr (hr_fr.rf _ M) (hr_fr.mono (W := hW_X11_laySingle) rfl (fr_X11_laySingle x6 _ _ e))
        refine hr_Fb h (fun v12 M12 e h => ?_)
        have FM12 : hr_fr hW_X11_tells M M12 := hr_fr.tr FM10 (hr_fr.mono (W := hW_X11_holdsOf) rfl (fr_X11_holdsOf (x3 / 10) (jr x3 10) _ _ e))
        refine hr_Fi h (fun _ h => ?_) (fun _ h => ?_)
        · exact hr_fr.tr FM12 (fr_X11_tells_92 k8 (fun x1 x2 x3 x4 x5 x6 M => f_X11_tells_42 k8 f x1 x2 x3 x4 x5 x6 M) x1 x2 x3 x5 x6 v12 0 x4 hk8 (fun x1 x2 x3 x4 x5 x6 M r h => ih x1 x2 x3 x4 x5 x6 M r h) _ _ h)
        · exact hr_fr.tr FM12 (fr_X11_tells_92 k8 (fun x1 x2 x3 x4 x5 x6 M => f_X11_tells_42 k8 f x1 x2 x3 x4 x5 x6 M) x1 x2 x3 x5 x6 v12 1 x4 hk8 (fun x1 x2 x3 x4 x5 x6 M r h => ih x1 x2 x3 x4 x5 x6 M r h) _ _ h)
theorem fr_X11_tells_8  : ∀ (f : Nat) (x1 : Int32) (x2 : Int32) (x3 : Int32) (M : PM) (r : Int32 × PM), f_X11_tells_8 f x1 x2 x3 M = some r → hr_fr hW_X11_tells M r.2 := by
  intro f
  induction f with
  | zero => intro x1 x2 x3 M r h; cases h
  | succ f ih =>
    intro x1 x2 x3 M r h
    rw [f_X11_tells_8.eq_2] at h
    refine hr_Fi h (fun _ h => ?_) (fun _ h => ?_)
    · cases h
      exact (hr_fr.rf _ M)
    · refine hr_Fi h (fun _ h => ?_) (fun _ h => ?_)
      · exact hr_fr.tr (hr_fr.rf _ M) (ih x1 x2 (x3 + 1) _ _ h)
      · refine hr_Fb h (fun v6 M6 e h => ?_)
        have FM6 : hr_fr hW_X11_tells M M6 := hr_fr.tr (hr_fr.rf _ M) (hr_fr.mono (W := hW_X11_isCouple) rfl (fr_X11_isCouple x3 _ _ e))
        refine hr_Fi h (fun _ h => ?_) (fun _ h => ?_)
        · exact hr_fr.tr FM6 (ih x1 x2 (x3 + 1) _ _ h)
        · exact hr_fr.tr FM6 (fr_X11_tells_42 (fun x1 x2 x3 M => f_X11_tells_8 f x1 x2 x3 M) (fun x1 x2 x3 M r h => ih x1 x2 x3 M r h) FU x1 x2 x3 0 0 0 _ _ h)
theorem fr_X11_tells  : ∀ (M : PM) (r : Int32 × PM), f_X11_tells M = some r → hr_fr hW_X11_tells M r.2 := by
  intro M r h
  unfold f_X11_tells at h
  exact hr_fr.tr (hr_fr.rf _ M) (fr_X11_tells_8 FU (-1) 1000000 0 _ _ h)
def hW_X11_fits : List (Nat × Nat) := [(275, 1), (275, 25), (275, 26), (275, 47), (275, 49), (275, 50), (275, 51), (288, 0), (289, 0), (301, 0)]
theorem fr_X11_fits_57 (a1 : Int32) (a2 : Int32) (a3 : Int32) (a4 : Int32) (k26 : Int32 → Int32 → Int32 → PM → Option (Int32 × PM)) (x5 : Int32) (x7 : Int32) (s0 : Int32) (hk26 : ∀ (y0 : Int32) (y1 : Int32) (y2 : Int32) (M : PM) (r : Int32 × PM), k26 y0 y1 y2 M = some r → hr_fr hW_X11_fits M r.2) : ∀ (M : PM) (r : Int32 × PM), f_X11_fits_57 a1 a2 a3 a4 k26 x5 x7 s0 M = some r → hr_fr hW_X11_fits M r.2 := by
  intro M r h
  unfold f_X11_fits_57 at h
  refine hr_Fg h (fun _ h => ?_)
  refine hr_Fi h (fun _ h => ?_) (fun _ h => ?_)
  · exact hr_fr.tr (hr_fr.rf _ M) (hk26 (x5 + 0) s0 (x7 + 1) _ _ h)
  · exact hr_fr.tr (hr_fr.rf _ M) (hk26 (x5 + 1) s0 (x7 + 1) _ _ h)
theorem fr_X11_fits_26 (a1 : Int32) (a2 : Int32) (a3 : Int32) (a4 : Int32) : ∀ (f : Nat) (x5 : Int32) (x6 : Int32) (x7 : Int32) (M : PM) (r : Int32 × PM), f_X11_fits_26 a1 a2 a3 a4 f x5 x6 x7 M = some r → hr_fr hW_X11_fits M r.2 := by
  intro f
  induction f with
  | zero => intro x5 x6 x7 M r h; cases h
  | succ f ih =>
    intro x5 x6 x7 M r h
    rw [f_X11_fits_26.eq_2] at h
    refine hr_Fi h (fun _ h => ?_) (fun _ h => ?_)
    · refine hr_Fi h (fun _ h => ?_) (fun _ h => ?_)
      · refine hr_Fi h (fun _ h => ?_) (fun _ h => ?_)
        · cases h
          exact (hr_fr.rf _ M)
        · refine hr_Fi h (fun _ h => ?_) (fun _ h => ?_)
          · refine hr_Fb h (fun v7 M7 e h => ?_)
            have FM7 : hr_fr hW_X11_fits M M7 := hr_fr.tr (hr_fr.rf _ M) (hr_fr.mono (W := hW_X11_tells) rfl (fr_X11_tells  _ _ e))
            cases h
            exact FM7
          · cases h
            exact (hr_fr.rf _ M)
      · refine hr_Fi h (fun _ h => ?_) (fun _ h => ?_)
        · cases h
          exact (hr_fr.rf _ M)
        · refine hr_Fb h (fun v13 M13 e h => ?_)
          have FM13 : hr_fr hW_X11_fits M M13 := hr_fr.tr (hr_fr.rf _ M) (hr_fr.mono (W := hW_X11_in) rfl (fr_X11_in a4 0 2 _ _ e))
          refine hr_Fi h (fun _ h => ?_) (fun _ h => ?_)
          · cases h
            exact FM13
          · refine hr_Fb h (fun v17 M17 e h => ?_)
            have FM17 : hr_fr hW_X11_fits M M17 := hr_fr.tr FM13 (hr_fr.mono (W := hW_X11_laySingle) rfl (fr_X11_laySingle x6 _ _ e))
            refine hr_Fi h (fun _ h => ?_) (fun _ h => ?_)
            · cases h
              exact FM17
            · refine hr_Fi h (fun _ h => ?_) (fun _ h => ?_)
              · cases h
                exact FM17
              · cases h
                exact FM17
    · refine hr_Fg h (fun _ h => ?_)
      refine hr_Fi h (fun _ h => ?_) (fun _ h => ?_)
      · exact hr_fr.tr (hr_fr.rf _ M) (fr_X11_fits_57 a1 a2 a3 a4 (fun x5 x6 x7 M => f_X11_fits_26 a1 a2 a3 a4 f x5 x6 x7 M) x5 x7 x6 (fun x5 x6 x7 M r h => ih x5 x6 x7 M r h) _ _ h)
      · refine hr_Fi h (fun _ h => ?_) (fun _ h => ?_)
        · exact hr_fr.tr (hr_fr.rf _ M) (fr_X11_fits_57 a1 a2 a3 a4 (fun x5 x6 x7 M => f_X11_fits_26 a1 a2 a3 a4 f x5 x6 x7 M) x5 x7 x7 (fun x5 x6 x7 M r h => ih x5 x6 x7 M r h) _ _ h)
        · exact hr_fr.tr (hr_fr.rf _ M) (fr_X11_fits_57 a1 a2 a3 a4 (fun x5 x6 x7 M => f_X11_fits_26 a1 a2 a3 a4 f x5 x6 x7 M) x5 x7 x6 (fun x5 x6 x7 M r h => ih x5 x6 x7 M r h) _ _ h)
theorem fr_X11_fits (a1 : Int32) (a2 : Int32) (a3 : Int32) (a4 : Int32) : ∀ (M : PM) (r : Int32 × PM), f_X11_fits a1 a2 a3 a4 M = some r → hr_fr hW_X11_fits M r.2 := by
  intro M r h
  unfold f_X11_fits at h
  refine hr_Fb h (fun v2 M2 e h => ?_)
  have FM2 : hr_fr hW_X11_fits M M2 := hr_fr.tr (hr_fr.si rfl (hr_fr.rf _ M)) (hr_fr.mono (W := hW_X11_layFits) rfl (fr_X11_layFits a1 a2 _ _ e))
  refine hr_Fi h (fun _ h => ?_) (fun _ h => ?_)
  · cases h
    exact FM2
  · exact hr_fr.tr FM2 (fr_X11_fits_26 a1 a2 a3 a4 FU 0 (-1) 0 _ _ h)
def hW_X11_guests : List (Nat × Nat) := []
theorem fr_X11_guests  : ∀ (M : PM) (r : Int32 × PM), f_X11_guests M = some r → hr_fr hW_X11_guests M r.2 := by
  intro M r h
  unfold f_X11_guests at h
  refine hr_Fg h (fun _ h => ?_)
  cases h
  exact (hr_fr.rf _ M)
def hW_X11_worn : List (Nat × Nat) := []
theorem fr_X11_worn (a1 : Int32) : ∀ (M : PM) (r : Int32 × PM), f_X11_worn a1 M = some r → hr_fr hW_X11_worn M r.2 := by
  intro M r h
  unfold f_X11_worn at h
  refine hr_Fg h (fun _ h => ?_)
  cases h
  exact (hr_fr.rf _ M)
def hW_X11_hasDinner : List (Nat × Nat) := [(275, 52)]
theorem fr_X11_hasDinner (a1 : Int32) : ∀ (M : PM) (r : Int32 × PM), f_X11_hasDinner a1 M = some r → hr_fr hW_X11_hasDinner M r.2 := by
  intro M r h
  unfold f_X11_hasDinner at h
  refine hr_Fb h (fun v2 M2 e h => ?_)
  have FM2 : hr_fr hW_X11_hasDinner M M2 := hr_fr.tr (hr_fr.si rfl (hr_fr.rf _ M)) (hr_fr.mono (W := hW_X11_is) rfl (fr_X11_is 4 a1 _ _ e))
  refine hr_Fg h (fun _ h => ?_)
  cases h
  exact FM2
def hW_X11_guest : List (Nat × Nat) := [(275, 1), (275, 52)]
theorem fr_X11_guest (a1 : Int32) (a2 : Int32) : ∀ (M : PM) (r : Int32 × PM), f_X11_guest a1 a2 M = some r → hr_fr hW_X11_guest M r.2 := by
  intro M r h
  unfold f_X11_guest at h
  refine hr_Fb h (fun v2 M2 e h => ?_)
  have FM2 : hr_fr hW_X11_guest M M2 := hr_fr.tr (hr_fr.si rfl (hr_fr.rf _ M)) (hr_fr.mono (W := hW_X11_hasDinner) rfl (fr_X11_hasDinner a1 _ _ e))
  refine hr_Fi h (fun _ h => ?_) (fun _ h => ?_)
  · cases h
    exact FM2
  · refine hr_Fi h (fun _ h => ?_) (fun _ h => ?_)
    · refine hr_Fb h (fun v7 M7 e h => ?_)
      have FM7 : hr_fr hW_X11_guest M M7 := hr_fr.tr FM2 (hr_fr.mono (W := hW_X11_guests) rfl (fr_X11_guests  _ _ e))
      cases h
      exact FM7
    · refine hr_Fb h (fun v10 M10 e h => ?_)
      have FM10 : hr_fr hW_X11_guest M M10 := hr_fr.tr FM2 (hr_fr.mono (W := hW_X11_guests) rfl (fr_X11_guests  _ _ e))
      refine hr_Fb h (fun v12 M12 e h => ?_)
      have FM12 : hr_fr hW_X11_guest M M12 := hr_fr.tr FM10 (hr_fr.mono (W := hW_X11_in) rfl (fr_X11_in a2 0 (v10 - 1) _ _ e))
      refine hr_Fi h (fun _ h => ?_) (fun _ h => ?_)
      · cases h
        exact FM12
      · refine hr_Fb h (fun v16 M16 e h => ?_)
        have FM16 : hr_fr hW_X11_guest M M16 := hr_fr.tr FM12 (hr_fr.mono (W := hW_X11_worn) rfl (fr_X11_worn a2 _ _ e))
        cases h
        exact FM16
def hW_X11_layDinner : List (Nat × Nat) := [(275, 25), (275, 26), (275, 52), (288, 0), (289, 0)]
theorem fr_X11_layDinner_20 (a1 : Int32) (a2 : Int32) : ∀ (f : Nat) (x3 : Int32) (M : PM) (r : Int32 × PM), f_X11_layDinner_20 a1 a2 f x3 M = some r → hr_fr hW_X11_layDinner M r.2 := by
  intro f
  induction f with
  | zero => intro x3 M r h; cases h
  | succ f ih =>
    intro x3 M r h
    rw [f_X11_layDinner_20.eq_2] at h
    refine hr_Fb h (fun v2 M2 e h => ?_)
    have FM2 : hr_fr hW_X11_layDinner M M2 := hr_fr.tr (hr_fr.rf _ M) (hr_fr.mono (W := hW_X11_guests) rfl (fr_X11_guests  _ _ e))
    refine hr_Fi h (fun _ h => ?_) (fun _ h => ?_)
    · cases h
      exact FM2
    · refine hr_Fb h (fun v6 M6 e h => ?_)
      have FM6 : hr_fr hW_X11_layDinner M M6 := hr_fr.tr FM2 (hr_fr.mono (W := hW_X11_worn) rfl (fr_X11_worn x3 _ _ e))
      refine hr_Fi h (fun _ h => ?_) (fun _ h => ?_)
      · exact hr_fr.tr FM6 (ih (x3 + 1) _ _ h)
      · cases h
        exact FM6
theorem fr_X11_layDinner (a1 : Int32) (a2 : Int32) : ∀ (M : PM) (r : Int32 × PM), f_X11_layDinner a1 a2 M = some r → hr_fr hW_X11_layDinner M r.2 := by
  intro M r h
  unfold f_X11_layDinner at h
  refine hr_Fb h (fun v2 M2 e h => ?_)
  have FM2 : hr_fr hW_X11_layDinner M M2 := hr_fr.tr (hr_fr.rf _ M) (hr_fr.mono (W := hW_X11_hasDinner) rfl (fr_X11_hasDinner a2 _ _ e))
  refine hr_Fi h (fun _ h => ?_) (fun _ h => ?_)
  · cases h
    exact FM2
  · refine hr_Fb h (fun v6 M6 e h => ?_)
    have FM6 : hr_fr hW_X11_layDinner M M6 := hr_fr.tr FM2 (hr_fr.mono (W := hW_X11_hand) rfl (fr_X11_hand a1 _ _ e))
    refine hr_Fi h (fun _ h => ?_) (fun _ h => ?_)
    · cases h
      exact FM6
    · exact hr_fr.tr FM6 (fr_X11_layDinner_20 a1 a2 FU 0 _ _ h)
def hW_X11_findRest : List (Nat × Nat) := [(302, 0)]
theorem fr_X11_findRest_153 (a1 : Int32) (a2 : Int32) (k10 : Int32 → Int32 → PM → Option (Unit × PM)) (k18 : Int32 → Int32 → Int32 → PM → Option (Unit × PM)) (x3 : Int32) (x4 : Int32) (x5 : Int32) (x6 : Int64) (s0 : Int32) (hk10 : ∀ (y0 : Int32) (y1 : Int32) (M : PM) (r : Unit × PM), k10 y0 y1 M = some r → hr_fr hW_X11_findRest M r.2) (hk18 : ∀ (y0 : Int32) (y1 : Int32) (y2 : Int32) (M : PM) (r : Unit × PM), k18 y0 y1 y2 M = some r → hr_fr hW_X11_findRest M r.2) : ∀ (M : PM) (r : Unit × PM), f_X11_findRest_153 a1 a2 k10 k18 x3 x4 x5 x6 s0 M = some r → hr_fr hW_X11_findRest M r.2 := by
  intro M r h
  unfold f_X11_findRest_153 at h
  refine hr_Fi h (fun _ h => ?_) (fun _ h => ?_)
  · refine hr_Fg h (fun _ h => ?_)
    exact hr_fr.tr (hr_fr.sl rfl (hr_fr.rf _ M)) (hk18 x3 x4 (x5 + 1) _ _ h)
  · refine hr_Fg h (fun _ h => ?_)
    exact hr_fr.tr (hr_fr.sl rfl (hr_fr.rf _ M)) (hk18 x3 x4 (x5 + 1) _ _ h)
theorem fr_X11_findRest_121 (a1 : Int32) (a2 : Int32) (k10 : Int32 → Int32 → PM → Option (Unit × PM)) (k18 : Int32 → Int32 → Int32 → PM → Option (Unit × PM)) (x3 : Int32) (x4 : Int32) (x5 : Int32) (x6 : Int64) (hk10 : ∀ (y0 : Int32) (y1 : Int32) (M : PM) (r : Unit × PM), k10 y0 y1 M = some r → hr_fr hW_X11_findRest M r.2) (hk18 : ∀ (y0 : Int32) (y1 : Int32) (y2 : Int32) (M : PM) (r : Unit × PM), k18 y0 y1 y2 M = some r → hr_fr hW_X11_findRest M r.2) : ∀ (M : PM) (r : Unit × PM), f_X11_findRest_121 a1 a2 k10 k18 x3 x4 x5 x6 M = some r → hr_fr hW_X11_findRest M r.2 := by
  intro M r h
  unfold f_X11_findRest_121 at h
  refine hr_Fb h (fun v2 M2 e h => ?_)
  have FM2 : hr_fr hW_X11_findRest M M2 := hr_fr.tr (hr_fr.rf _ M) (hr_fr.mono (W := hW_X11_worn) rfl (fr_X11_worn x4 _ _ e))
  refine hr_Fb h (fun v4 M4 e h => ?_)
  have FM4 : hr_fr hW_X11_findRest M M4 := hr_fr.tr FM2 (hr_fr.mono (W := hW_X11_has) rfl (fr_X11_has (v2 &&& a2) x5 _ _ e))
  refine hr_Fi h (fun _ h => ?_) (fun _ h => ?_)
  · exact hr_fr.tr FM4 (fr_X11_findRest_153 a1 a2 k10 k18 x3 x4 x5 x6 0 hk10 hk18 _ _ h)
  · refine hr_Fi h (fun _ h => ?_) (fun _ h => ?_)
    · exact hr_fr.tr FM4 (fr_X11_findRest_153 a1 a2 k10 k18 x3 x4 x5 x6 1 hk10 hk18 _ _ h)
    · refine hr_Fi h (fun _ h => ?_) (fun _ h => ?_)
      · exact hr_fr.tr FM4 (fr_X11_findRest_153 a1 a2 k10 k18 x3 x4 x5 x6 1 hk10 hk18 _ _ h)
      · exact hr_fr.tr FM4 (fr_X11_findRest_153 a1 a2 k10 k18 x3 x4 x5 x6 0 hk10 hk18 _ _ h)
theorem fr_X11_findRest_63 (a1 : Int32) (a2 : Int32) (k10 : Int32 → Int32 → PM → Option (Unit × PM)) (k18 : Int32 → Int32 → Int32 → PM → Option (Unit × PM)) (hk10 : ∀ (y0 : Int32) (y1 : Int32) (M : PM) (r : Unit × PM), k10 y0 y1 M = some r → hr_fr hW_X11_findRest M r.2) (hk18 : ∀ (y0 : Int32) (y1 : Int32) (y2 : Int32) (M : PM) (r : Unit × PM), k18 y0 y1 y2 M = some r → hr_fr hW_X11_findRest M r.2) : ∀ (f : Nat) (x3 : Int32) (x4 : Int32) (x5 : Int32) (x6 : Int64) (x8 : Int32) (M : PM) (r : Unit × PM), f_X11_findRest_63 a1 a2 k10 k18 f x3 x4 x5 x6 x8 M = some r → hr_fr hW_X11_findRest M r.2 := by
  intro f
  induction f with
  | zero => intro x3 x4 x5 x6 x8 M r h; cases h
  | succ f ih =>
    intro x3 x4 x5 x6 x8 M r h
    rw [f_X11_findRest_63.eq_2] at h
    refine hr_Fi h (fun _ h => ?_) (fun _ h => ?_)
    · exact hr_fr.tr (hr_fr.rf _ M) (fr_X11_findRest_121 a1 a2 k10 k18 x3 x4 x5 x6 hk10 hk18 _ _ h)
    · refine hr_Fi h (fun _ h => ?_) (fun _ h => ?_)
      · exact hr_fr.tr (hr_fr.rf _ M) (fr_X11_findRest_121 a1 a2 k10 k18 x3 x4 x5 x6 hk10 hk18 _ _ h)
      · refine hr_Fb h (fun v4 M4 e h => ?_)
        have FM4 : hr_fr hW_X11_findRest M M4 := hr_fr.tr (hr_fr.rf _ M) (hr_fr.mono (W := hW_X11_clash) rfl (fr_X11_clash x5 x8 _ _ e))
        refine hr_Fi h (fun _ h => ?_) (fun _ h => ?_)
        · refine hr_Fg h (fun _ h => ?_)
          exact hr_fr.tr FM4 (ih x3 x4 x5 (x6 + (M4.2.1 302 ((10 * (x4 + 1)) + x8).toNatClampNeg)) (x8 + 1) _ _ h)
        · exact hr_fr.tr FM4 (ih x3 x4 x5 (x6 + 0) (x8 + 1) _ _ h)
theorem fr_X11_findRest_53 (a1 : Int32) (a2 : Int32) (k10 : Int32 → Int32 → PM → Option (Unit × PM)) (k18 : Int32 → Int32 → Int32 → PM → Option (Unit × PM)) (x3 : Int32) (x4 : Int32) (x5 : Int32) (hk10 : ∀ (y0 : Int32) (y1 : Int32) (M : PM) (r : Unit × PM), k10 y0 y1 M = some r → hr_fr hW_X11_findRest M r.2) (hk18 : ∀ (y0 : Int32) (y1 : Int32) (y2 : Int32) (M : PM) (r : Unit × PM), k18 y0 y1 y2 M = some r → hr_fr hW_X11_findRest M r.2) : ∀ (M : PM) (r : Unit × PM), f_X11_findRest_53 a1 a2 k10 k18 x3 x4 x5 M = some r → hr_fr hW_X11_findRest M r.2 := by
  intro M r h
  unfold f_X11_findRest_53 at h
  exact hr_fr.tr (hr_fr.rf _ M) (fr_X11_findRest_63 a1 a2 k10 k18 hk10 hk18 FU x3 x4 x5 1 0 _ _ h)
theorem fr_X11_findRest_18 (a1 : Int32) (a2 : Int32) (k10 : Int32 → Int32 → PM → Option (Unit × PM)) (hk10 : ∀ (y0 : Int32) (y1 : Int32) (M : PM) (r : Unit × PM), k10 y0 y1 M = some r → hr_fr hW_X11_findRest M r.2) : ∀ (f : Nat) (x3 : Int32) (x4 : Int32) (x5 : Int32) (M : PM) (r : Unit × PM), f_X11_findRest_18 a1 a2 k10 f x3 x4 x5 M = some r → hr_fr hW_X11_findRest M r.2 := by
  intro f
  induction f with
  | zero => intro x3 x4 x5 M r h; cases h
  | succ f ih =>
    intro x3 x4 x5 M r h
    rw [f_X11_findRest_18.eq_2] at h
    refine hr_Fi h (fun _ h => ?_) (fun _ h => ?_)
    · exact hr_fr.tr (hr_fr.rf _ M) (hk10 x3 (x4 + (-1)) _ _ h)
    · refine hr_Fi h (fun _ h => ?_) (fun _ h => ?_)
      · refine hr_Fi h (fun _ h => ?_) (fun _ h => ?_)
        · exact hr_fr.tr (hr_fr.rf _ M) (fr_X11_findRest_53 a1 a2 k10 (fun x3 x4 x5 M => f_X11_findRest_18 a1 a2 k10 f x3 x4 x5 M) x3 x4 x5 hk10 (fun x3 x4 x5 M r h => ih x3 x4 x5 M r h) _ _ h)
        · refine hr_Fb h (fun v6 M6 e h => ?_)
          have FM6 : hr_fr hW_X11_findRest M M6 := hr_fr.tr (hr_fr.rf _ M) (hr_fr.mono (W := hW_X11_clash) rfl (fr_X11_clash x5 a1 _ _ e))
          refine hr_Fi h (fun _ h => ?_) (fun _ h => ?_)
          · exact hr_fr.tr FM6 (fr_X11_findRest_53 a1 a2 k10 (fun x3 x4 x5 M => f_X11_findRest_18 a1 a2 k10 f x3 x4 x5 M) x3 x4 x5 hk10 (fun x3 x4 x5 M r h => ih x3 x4 x5 M r h) _ _ h)
          · exact hr_fr.tr FM6 (fr_X11_findRest_63 a1 a2 k10 (fun x3 x4 x5 M => f_X11_findRest_18 a1 a2 k10 f x3 x4 x5 M) hk10 (fun x3 x4 x5 M r h => ih x3 x4 x5 M r h) FU x3 x4 x5 0 0 _ _ h)
      · exact hr_fr.tr (hr_fr.rf _ M) (fr_X11_findRest_63 a1 a2 k10 (fun x3 x4 x5 M => f_X11_findRest_18 a1 a2 k10 f x3 x4 x5 M) hk10 (fun x3 x4 x5 M r h => ih x3 x4 x5 M r h) FU x3 x4 x5 0 0 _ _ h)
theorem fr_X11_findRest_10 (a1 : Int32) (a2 : Int32) : ∀ (f : Nat) (x3 : Int32) (x4 : Int32) (M : PM) (r : Unit × PM), f_X11_findRest_10 a1 a2 f x3 x4 M = some r → hr_fr hW_X11_findRest M r.2 := by
  intro f
  induction f with
  | zero => intro x3 x4 M r h; cases h
  | succ f ih =>
    intro x3 x4 M r h
    rw [f_X11_findRest_10.eq_2] at h
    refine hr_Fi h (fun _ h => ?_) (fun _ h => ?_)
    · cases h
      exact (hr_fr.rf _ M)
    · exact hr_fr.tr (hr_fr.rf _ M) (fr_X11_findRest_18 a1 a2 (fun x3 x4 M => f_X11_findRest_10 a1 a2 f x3 x4 M) (fun x3 x4 M r h => ih x3 x4 M r h) FU x3 x4 0 _ _ h)
theorem fr_X11_findRest (a1 : Int32) (a2 : Int32) : ∀ (M : PM) (r : Unit × PM), f_X11_findRest a1 a2 M = some r → hr_fr hW_X11_findRest M r.2 := by
  intro M r h
  unfold f_X11_findRest at h
  refine hr_Fb h (fun v2 M2 e h => ?_)
  have FM2 : hr_fr hW_X11_findRest M M2 := hr_fr.tr (hr_fr.rf _ M) (hr_fr.mono (W := hW_X11_guests) rfl (fr_X11_guests  _ _ e))
  exact hr_fr.tr FM2 (fr_X11_findRest_10 a1 a2 FU v2 (v2 - 1) _ _ h)
def hW_X11_allWays : List (Nat × Nat) := [(302, 0)]
theorem fr_X11_allWays_16 (a1 : Int32) : ∀ (f : Nat) (x2 : Int64) (x4 : Int32) (M : PM) (r : Int64 × PM), f_X11_allWays_16 a1 f x2 x4 M = some r → hr_fr hW_X11_allWays M r.2 := by
  intro f
  induction f with
  | zero => intro x2 x4 M r h; cases h
  | succ f ih =>
    intro x2 x4 M r h
    rw [f_X11_allWays_16.eq_2] at h
    refine hr_Fi h (fun _ h => ?_) (fun _ h => ?_)
    · cases h
      exact (hr_fr.rf _ M)
    · refine hr_Fb h (fun v4 M4 e h => ?_)
      have FM4 : hr_fr hW_X11_allWays M M4 := hr_fr.tr (hr_fr.rf _ M) (hr_fr.mono (W := hW_X11_guests) rfl (fr_X11_guests  _ _ e))
      refine hr_Fi h (fun _ h => ?_) (fun _ h => ?_)
      · cases h
        exact FM4
      · refine hr_Fb h (fun v8 M8 e h => ?_)
        have FM8 : hr_fr hW_X11_allWays M M8 := hr_fr.tr FM4 (hr_fr.mono (W := hW_X11_findRest) rfl (fr_X11_findRest x4 a1 _ _ e))
        refine hr_Fg h (fun _ h => ?_)
        exact hr_fr.tr FM8 (ih (x2 + (M8.2.1 302 x4.toNatClampNeg)) (x4 + 1) _ _ h)
theorem fr_X11_allWays (a1 : Int32) : ∀ (M : PM) (r : Int64 × PM), f_X11_allWays a1 M = some r → hr_fr hW_X11_allWays M r.2 := by
  intro M r h
  unfold f_X11_allWays at h
  refine hr_Fb h (fun v2 M2 e h => ?_)
  have FM2 : hr_fr hW_X11_allWays M M2 := hr_fr.tr (hr_fr.rf _ M) (hr_fr.mono (W := hW_X11_guests) rfl (fr_X11_guests  _ _ e))
  refine hr_Fi h (fun _ h => ?_) (fun _ h => ?_)
  · exact hr_fr.tr FM2 (fr_X11_allWays_16 a1 FU 1 0 _ _ h)
  · exact hr_fr.tr FM2 (fr_X11_allWays_16 a1 FU 0 0 _ _ h)
def hW_X11_ways : List (Nat × Nat) := [(275, 1), (275, 25), (275, 26), (275, 52), (288, 0), (289, 0), (302, 0)]
theorem fr_X11_ways (a1 : Int32) (a2 : Int32) : ∀ (M : PM) (r : Int64 × PM), f_X11_ways a1 a2 M = some r → hr_fr hW_X11_ways M r.2 := by
  intro M r h
  unfold f_X11_ways at h
  refine hr_Fb h (fun v2 M2 e h => ?_)
  have FM2 : hr_fr hW_X11_ways M M2 := hr_fr.tr (hr_fr.si rfl (hr_fr.rf _ M)) (hr_fr.mono (W := hW_X11_layDinner) rfl (fr_X11_layDinner a1 a2 _ _ e))
  refine hr_Fi h (fun _ h => ?_) (fun _ h => ?_)
  · cases h
    exact FM2
  · refine hr_Fb h (fun v6 M6 e h => ?_)
    have FM6 : hr_fr hW_X11_ways M M6 := hr_fr.tr FM2 (hr_fr.mono (W := hW_X11_allWays) rfl (fr_X11_allWays 1023 _ _ e))
    cases h
    exact FM6
def hW_X11_wornAt : List (Nat × Nat) := [(302, 0)]
theorem fr_X11_wornAt_49 (a1 : Int32) (k40 : Int32 → Int32 → PM → Option (Int32 × PM)) (hk40 : ∀ (y0 : Int32) (y1 : Int32) (M : PM) (r : Int32 × PM), k40 y0 y1 M = some r → hr_fr hW_X11_wornAt M r.2) : ∀ (f : Nat) (x3 : Int32) (x4 : Int32) (x5 : Int32) (M : PM) (r : Int32 × PM), f_X11_wornAt_49 a1 k40 f x3 x4 x5 M = some r → hr_fr hW_X11_wornAt M r.2 := by
  intro f
  induction f with
  | zero => intro x3 x4 x5 M r h; cases h
  | succ f ih =>
    intro x3 x4 x5 M r h
    rw [f_X11_wornAt_49.eq_2] at h
    refine hr_Fg h (fun _ h => ?_)
    refine hr_Fi h (fun _ h => ?_) (fun _ h => ?_)
    · exact hr_fr.tr (hr_fr.rf _ M) (ih x3 x4 (x5 + 1) _ _ h)
    · refine hr_Fb h (fun v4 M4 e h => ?_)
      have FM4 : hr_fr hW_X11_wornAt M M4 := hr_fr.tr (hr_fr.rf _ M) (hr_fr.mono (W := hW_X11_clash) rfl (fr_X11_clash x3 x5 _ _ e))
      refine hr_Fi h (fun _ h => ?_) (fun _ h => ?_)
      · exact hr_fr.tr FM4 (hk40 x5 (x4 + 1) _ _ h)
      · exact hr_fr.tr FM4 (ih x3 x4 (x5 + 1) _ _ h)
theorem fr_X11_wornAt_40 (a1 : Int32) : ∀ (f : Nat) (x3 : Int32) (x4 : Int32) (M : PM) (r : Int32 × PM), f_X11_wornAt_40 a1 f x3 x4 M = some r → hr_fr hW_X11_wornAt M r.2 := by
  intro f
  induction f with
  | zero => intro x3 x4 M r h; cases h
  | succ f ih =>
    intro x3 x4 M r h
    rw [f_X11_wornAt_40.eq_2] at h
    refine hr_Fi h (fun _ h => ?_) (fun _ h => ?_)
    · cases h
      exact (hr_fr.rf _ M)
    · exact hr_fr.tr (hr_fr.rf _ M) (fr_X11_wornAt_49 a1 (fun x3 x4 M => f_X11_wornAt_40 a1 f x3 x4 M) (fun x3 x4 M r h => ih x3 x4 M r h) FU x3 x4 0 _ _ h)
theorem fr_X11_wornAt_10 (a1 : Int32) : ∀ (f : Nat) (x2 : Int32) (M : PM) (r : Int32 × PM), f_X11_wornAt_10 a1 f x2 M = some r → hr_fr hW_X11_wornAt M r.2 := by
  intro f
  induction f with
  | zero => intro x2 M r h; cases h
  | succ f ih =>
    intro x2 M r h
    rw [f_X11_wornAt_10.eq_2] at h
    refine hr_Fg h (fun _ h => ?_)
    refine hr_Fi h (fun _ h => ?_) (fun _ h => ?_)
    · refine hr_Fb h (fun v3 M3 e h => ?_)
      have FM3 : hr_fr hW_X11_wornAt M M3 := hr_fr.tr (hr_fr.rf _ M) (hr_fr.mono (W := hW_X11_findRest) rfl (fr_X11_findRest (x2 + 1) 1023 _ _ e))
      exact hr_fr.tr FM3 (ih (x2 + 1) _ _ h)
    · exact hr_fr.tr (hr_fr.rf _ M) (fr_X11_wornAt_40 a1 FU x2 1 _ _ h)
theorem fr_X11_wornAt (a1 : Int32) : ∀ (M : PM) (r : Int32 × PM), f_X11_wornAt a1 M = some r → hr_fr hW_X11_wornAt M r.2 := by
  intro M r h
  unfold f_X11_wornAt at h
  refine hr_Fb h (fun v2 M2 e h => ?_)
  have FM2 : hr_fr hW_X11_wornAt M M2 := hr_fr.tr (hr_fr.rf _ M) (hr_fr.mono (W := hW_X11_findRest) rfl (fr_X11_findRest 0 1023 _ _ e))
  exact hr_fr.tr FM2 (fr_X11_wornAt_10 a1 FU 0 _ _ h)
def hW_X11_few : List (Nat × Nat) := [(302, 0)]
theorem fr_X11_few_6  : ∀ (f : Nat) (x1 : Int32) (x2 : Int32) (M : PM) (r : Int32 × PM), f_X11_few_6 f x1 x2 M = some r → hr_fr hW_X11_few M r.2 := by
  intro f
  induction f with
  | zero => intro x1 x2 M r h; cases h
  | succ f ih =>
    intro x1 x2 M r h
    rw [f_X11_few_6.eq_2] at h
    refine hr_Fi h (fun _ h => ?_) (fun _ h => ?_)
    · cases h
      exact (hr_fr.rf _ M)
    · refine hr_Fb h (fun v4 M4 e h => ?_)
      have FM4 : hr_fr hW_X11_few M M4 := hr_fr.tr (hr_fr.rf _ M) (hr_fr.mono (W := hW_X11_ones) rfl (fr_X11_ones x2 _ _ e))
      refine hr_Fi h (fun _ h => ?_) (fun _ h => ?_)
      · exact hr_fr.tr FM4 (ih x1 (x2 + 1) _ _ h)
      · refine hr_Fb h (fun v9 M9 e h => ?_)
        have FM9 : hr_fr hW_X11_few M M9 := hr_fr.tr FM4 (hr_fr.mono (W := hW_X11_allWays) rfl (fr_X11_allWays x2 _ _ e))
        refine hr_Fi h (fun _ h => ?_) (fun _ h => ?_)
        · exact hr_fr.tr FM9 (ih x1 (x2 + 1) _ _ h)
        · refine hr_Fb h (fun v14 M14 e h => ?_)
          have FM14 : hr_fr hW_X11_few M M14 := hr_fr.tr FM9 (hr_fr.mono (W := hW_X11_ones) rfl (fr_X11_ones x2 _ _ e))
          exact hr_fr.tr FM14 (ih v14 (x2 + 1) _ _ h)
theorem fr_X11_few  : ∀ (M : PM) (r : Int32 × PM), f_X11_few M = some r → hr_fr hW_X11_few M r.2 := by
  intro M r h
  unfold f_X11_few at h
  exact hr_fr.tr (hr_fr.rf _ M) (fr_X11_few_6 FU 1000000 0 _ _ h)
def hW_X11_dinner : List (Nat × Nat) := [(275, 1), (275, 25), (275, 26), (275, 52), (288, 0), (289, 0), (302, 0)]
theorem fr_X11_dinner_34 (a1 : Int32) (a2 : Int32) (a3 : Int32) : ∀ (M : PM) (r : Int32 × PM), f_X11_dinner_34 a1 a2 a3 M = some r → hr_fr hW_X11_dinner M r.2 := by
  intro M r h
  unfold f_X11_dinner_34 at h
  refine hr_Fb h (fun v2 M2 e h => ?_)
  have FM2 : hr_fr hW_X11_dinner M M2 := hr_fr.tr (hr_fr.rf _ M) (hr_fr.mono (W := hW_X11_allWays) rfl (fr_X11_allWays 1023 _ _ e))
  refine hr_Fi h (fun _ h => ?_) (fun _ h => ?_)
  · cases h
    exact FM2
  · refine hr_Fi h (fun _ h => ?_) (fun _ h => ?_)
    · refine hr_Fb h (fun v7 M7 e h => ?_)
      have FM7 : hr_fr hW_X11_dinner M M7 := hr_fr.tr FM2 (hr_fr.mono (W := hW_X11_few) rfl (fr_X11_few  _ _ e))
      cases h
      exact FM7
    · refine hr_Fb h (fun v10 M10 e h => ?_)
      have FM10 : hr_fr hW_X11_dinner M M10 := hr_fr.tr FM2 (hr_fr.mono (W := hW_X11_wornAt) rfl (fr_X11_wornAt (a3 - 10) _ _ e))
      cases h
      exact FM10
theorem fr_X11_dinner (a1 : Int32) (a2 : Int32) (a3 : Int32) : ∀ (M : PM) (r : Int32 × PM), f_X11_dinner a1 a2 a3 M = some r → hr_fr hW_X11_dinner M r.2 := by
  intro M r h
  unfold f_X11_dinner at h
  refine hr_Fb h (fun v2 M2 e h => ?_)
  have FM2 : hr_fr hW_X11_dinner M M2 := hr_fr.tr (hr_fr.si rfl (hr_fr.rf _ M)) (hr_fr.mono (W := hW_X11_layDinner) rfl (fr_X11_layDinner a1 a2 _ _ e))
  refine hr_Fi h (fun _ h => ?_) (fun _ h => ?_)
  · cases h
    exact FM2
  · refine hr_Fi h (fun _ h => ?_) (fun _ h => ?_)
    · exact hr_fr.tr FM2 (fr_X11_dinner_34 a1 a2 a3 _ _ h)
    · refine hr_Fb h (fun v7 M7 e h => ?_)
      have FM7 : hr_fr hW_X11_dinner M M7 := hr_fr.tr FM2 (hr_fr.mono (W := hW_X11_guests) rfl (fr_X11_guests  _ _ e))
      refine hr_Fb h (fun v9 M9 e h => ?_)
      have FM9 : hr_fr hW_X11_dinner M M9 := hr_fr.tr FM7 (hr_fr.mono (W := hW_X11_in) rfl (fr_X11_in a3 10 (9 + v7) _ _ e))
      refine hr_Fi h (fun _ h => ?_) (fun _ h => ?_)
      · cases h
        exact FM9
      · exact hr_fr.tr FM9 (fr_X11_dinner_34 a1 a2 a3 _ _ h)
def hW_X11_draw : List (Nat × Nat) := [(275, 54)]
theorem fr_X11_draw (a1 : Int32) : ∀ (M : PM) (r : Int32 × PM), f_X11_draw a1 M = some r → hr_fr hW_X11_draw M r.2 := by
  intro M r h
  unfold f_X11_draw at h
  refine hr_Fg h (fun _ h => ?_)
  cases h
  exact (hr_fr.si rfl (hr_fr.rf _ M))
def hW_X11_picked : List (Nat × Nat) := [(275, 54)]
theorem fr_X11_picked_23 (a1 : Int32) (k11 : Int32 → Int32 → PM → Option (Int32 × PM)) (x2 : Int32) (x3 : Int32) (hk11 : ∀ (y0 : Int32) (y1 : Int32) (M : PM) (r : Int32 × PM), k11 y0 y1 M = some r → hr_fr hW_X11_picked M r.2) : ∀ (M : PM) (r : Int32 × PM), f_X11_picked_23 a1 k11 x2 x3 M = some r → hr_fr hW_X11_picked M r.2 := by
  intro M r h
  unfold f_X11_picked_23 at h
  refine hr_Fb h (fun v2 M2 e h => ?_)
  have FM2 : hr_fr hW_X11_picked M M2 := hr_fr.tr (hr_fr.rf _ M) (hr_fr.mono (W := hW_X11_has) rfl (fr_X11_has a1 x3 _ _ e))
  refine hr_Fi h (fun _ h => ?_) (fun _ h => ?_)
  · exact hr_fr.tr FM2 (hk11 (x2 - 0) (x3 + 1) _ _ h)
  · exact hr_fr.tr FM2 (hk11 (x2 - 1) (x3 + 1) _ _ h)
theorem fr_X11_picked_11 (a1 : Int32) : ∀ (f : Nat) (x2 : Int32) (x3 : Int32) (M : PM) (r : Int32 × PM), f_X11_picked_11 a1 f x2 x3 M = some r → hr_fr hW_X11_picked M r.2 := by
  intro f
  induction f with
  | zero => intro x2 x3 M r h; cases h
  | succ f ih =>
    intro x2 x3 M r h
    rw [f_X11_picked_11.eq_2] at h
    refine hr_Fi h (fun _ h => ?_) (fun _ h => ?_)
    · exact hr_fr.tr (hr_fr.rf _ M) (fr_X11_picked_23 a1 (fun x2 x3 M => f_X11_picked_11 a1 f x2 x3 M) x2 x3 (fun x2 x3 M r h => ih x2 x3 M r h) _ _ h)
    · refine hr_Fb h (fun v3 M3 e h => ?_)
      have FM3 : hr_fr hW_X11_picked M M3 := hr_fr.tr (hr_fr.rf _ M) (hr_fr.mono (W := hW_X11_has) rfl (fr_X11_has a1 x3 _ _ e))
      refine hr_Fi h (fun _ h => ?_) (fun _ h => ?_)
      · exact hr_fr.tr FM3 (fr_X11_picked_23 a1 (fun x2 x3 M => f_X11_picked_11 a1 f x2 x3 M) x2 x3 (fun x2 x3 M r h => ih x2 x3 M r h) _ _ h)
      · cases h
        exact FM3
theorem fr_X11_picked (a1 : Int32) : ∀ (M : PM) (r : Int32 × PM), f_X11_picked a1 M = some r → hr_fr hW_X11_picked M r.2 := by
  intro M r h
  unfold f_X11_picked at h
  refine hr_Fb h (fun v2 M2 e h => ?_)
  have FM2 : hr_fr hW_X11_picked M M2 := hr_fr.tr (hr_fr.rf _ M) (hr_fr.mono (W := hW_X11_ones) rfl (fr_X11_ones a1 _ _ e))
  refine hr_Fb h (fun v3 M3 e h => ?_)
  have FM3 : hr_fr hW_X11_picked M M3 := hr_fr.tr FM2 (hr_fr.mono (W := hW_X11_draw) rfl (fr_X11_draw v2 _ _ e))
  exact hr_fr.tr FM3 (fr_X11_picked_11 a1 FU v3 0 _ _ h)
def hW_X11_evening : List (Nat × Nat) := [(275, 54), (303, 0)]
theorem fr_X11_evening_37  : ∀ (f : Nat) (x1 : Int32) (x2 : Int32) (x3 : Int32) (M : PM) (r : Int32 × PM), f_X11_evening_37 f x1 x2 x3 M = some r → hr_fr hW_X11_evening M r.2 := by
  intro f
  induction f with
  | zero => intro x1 x2 x3 M r h; cases h
  | succ f ih =>
    intro x1 x2 x3 M r h
    rw [f_X11_evening_37.eq_2] at h
    refine hr_Fi h (fun _ h => ?_) (fun _ h => ?_)
    · refine hr_Fi h (fun _ h => ?_) (fun _ h => ?_)
      · refine hr_Fg h (fun _ h => ?_)
        refine hr_Fg h (fun _ h => ?_)
        refine hr_Fg h (fun _ h => ?_)
        cases h
        exact (hr_fr.rf _ M)
      · cases h
        exact (hr_fr.rf _ M)
    · refine hr_Fg h (fun _ h => ?_)
      refine hr_Fg h (fun _ h => ?_)
      refine hr_Fg h (fun _ h => ?_)
      exact hr_fr.tr (hr_fr.rf _ M) (ih x1 (x2 + (M.1 288 ((10 * (M.1 303 x3.toNatClampNeg)) + (M.1 303 (x3 + 1).toNatClampNeg)).toNatClampNeg)) (x3 + 1) _ _ h)
theorem fr_X11_evening_7  : ∀ (f : Nat) (x1 : Int32) (x2 : Int32) (M : PM) (r : Int32 × PM), f_X11_evening_7 f x1 x2 M = some r → hr_fr hW_X11_evening M r.2 := by
  intro f
  induction f with
  | zero => intro x1 x2 M r h; cases h
  | succ f ih =>
    intro x1 x2 M r h
    rw [f_X11_evening_7.eq_2] at h
    refine hr_Fi h (fun _ h => ?_) (fun _ h => ?_)
    · exact hr_fr.tr (hr_fr.rf _ M) (fr_X11_evening_37 FU x1 0 0 _ _ h)
    · refine hr_Fb h (fun v4 M4 e h => ?_)
      have FM4 : hr_fr hW_X11_evening M M4 := hr_fr.tr (hr_fr.rf _ M) (hr_fr.mono (W := hW_X11_worn) rfl (fr_X11_worn x2 _ _ e))
      refine hr_Fb h (fun v5 M5 e h => ?_)
      have FM5 : hr_fr hW_X11_evening M M5 := hr_fr.tr FM4 (hr_fr.mono (W := hW_X11_picked) rfl (fr_X11_picked v4 _ _ e))
      refine hr_Fg h (fun _ h => ?_)
      exact hr_fr.tr (hr_fr.si rfl FM5) (ih x1 (x2 + 1) _ _ h)
theorem fr_X11_evening  : ∀ (M : PM) (r : Int32 × PM), f_X11_evening M = some r → hr_fr hW_X11_evening M r.2 := by
  intro M r h
  unfold f_X11_evening at h
  refine hr_Fb h (fun v2 M2 e h => ?_)
  have FM2 : hr_fr hW_X11_evening M M2 := hr_fr.tr (hr_fr.rf _ M) (hr_fr.mono (W := hW_X11_guests) rfl (fr_X11_guests  _ _ e))
  exact hr_fr.tr FM2 (fr_X11_evening_7 FU v2 0 _ _ h)
def hW_X11_drawn : List (Nat × Nat) := [(275, 1), (275, 25), (275, 26), (275, 52), (275, 54), (288, 0), (289, 0), (303, 0)]
theorem fr_X11_drawn_51 (a1 : Int32) (a2 : Int32) (a3 : Int32) (a4 : Int32) (a5 : Int32) : ∀ (f : Nat) (x6 : Int32) (x7 : Int32) (x8 : Int32) (M : PM) (r : Int32 × PM), f_X11_drawn_51 a1 a2 a3 a4 a5 f x6 x7 x8 M = some r → hr_fr hW_X11_drawn M r.2 := by
  intro f
  induction f with
  | zero => intro x6 x7 x8 M r h; cases h
  | succ f ih =>
    intro x6 x7 x8 M r h
    rw [f_X11_drawn_51.eq_2] at h
    refine hr_Fi h (fun _ h => ?_) (fun _ h => ?_)
    · refine hr_Fi h (fun _ h => ?_) (fun _ h => ?_)
      · cases h
        exact (hr_fr.rf _ M)
      · cases h
        exact (hr_fr.rf _ M)
    · refine hr_Fb h (fun v6 M6 e h => ?_)
      have FM6 : hr_fr hW_X11_drawn M M6 := hr_fr.tr (hr_fr.rf _ M) (hr_fr.mono (W := hW_X11_evening) rfl (fr_X11_evening  _ _ e))
      refine hr_Fi h (fun _ h => ?_) (fun _ h => ?_)
      · exact hr_fr.tr FM6 (ih (x6 + 1) (x7 + v6) (x8 + 1) _ _ h)
      · exact hr_fr.tr FM6 (ih (x6 + 0) (x7 + v6) (x8 + 1) _ _ h)
theorem fr_X11_drawn (a1 : Int32) (a2 : Int32) (a3 : Int32) (a4 : Int32) (a5 : Int32) : ∀ (M : PM) (r : Int32 × PM), f_X11_drawn a1 a2 a3 a4 a5 M = some r → hr_fr hW_X11_drawn M r.2 := by
  intro M r h
  unfold f_X11_drawn at h
  refine hr_Fb h (fun v2 M2 e h => ?_)
  have FM2 : hr_fr hW_X11_drawn M M2 := hr_fr.tr (hr_fr.si rfl (hr_fr.rf _ M)) (hr_fr.mono (W := hW_X11_in) rfl (fr_X11_in a4 0 40 _ _ e))
  refine hr_Fi h (fun _ h => ?_) (fun _ h => ?_)
  · cases h
    exact FM2
  · refine hr_Fb h (fun v6 M6 e h => ?_)
    have FM6 : hr_fr hW_X11_drawn M M6 := hr_fr.tr FM2 (hr_fr.mono (W := hW_X11_in) rfl (fr_X11_in a5 0 1 _ _ e))
    refine hr_Fi h (fun _ h => ?_) (fun _ h => ?_)
    · cases h
      exact FM6
    · refine hr_Fb h (fun v10 M10 e h => ?_)
      have FM10 : hr_fr hW_X11_drawn M M10 := hr_fr.tr FM6 (hr_fr.mono (W := hW_X11_layDinner) rfl (fr_X11_layDinner a1 a2 _ _ e))
      refine hr_Fi h (fun _ h => ?_) (fun _ h => ?_)
      · cases h
        exact FM10
      · exact hr_fr.tr (hr_fr.si rfl FM10) (fr_X11_drawn_51 a1 a2 a3 a4 a5 FU 0 0 0 _ _ h)
def hW_X11_count : List (Nat × Nat) := [(275, 1)]
theorem fr_X11_count (a1 : Int32) : ∀ (M : PM) (r : Int32 × PM), f_X11_count a1 M = some r → hr_fr hW_X11_count M r.2 := by
  intro M r h
  unfold f_X11_count at h
  refine hr_Fb h (fun v2 M2 e h => ?_)
  have FM2 : hr_fr hW_X11_count M M2 := hr_fr.tr (hr_fr.si rfl (hr_fr.rf _ M)) (hr_fr.mono (W := hW_X11_in) rfl (fr_X11_in a1 0 4 _ _ e))
  refine hr_Fi h (fun _ h => ?_) (fun _ h => ?_)
  · cases h
    exact FM2
  · refine hr_Fg h (fun _ h => ?_)
    cases h
    exact FM2
def hW_X11_image : List (Nat × Nat) := [(275, 1), (276, 0), (277, 0), (278, 0), (279, 0), (280, 0), (281, 0), (282, 0), (283, 0), (284, 0), (285, 0), (304, 0)]
theorem fr_X11_image (a1 : Int32) : ∀ (M : PM) (r : Int32 × PM), f_X11_image a1 M = some r → hr_fr hW_X11_image M r.2 := by
  intro M r h
  unfold f_X11_image at h
  refine hr_Fb h (fun v2 M2 e h => ?_)
  have FM2 : hr_fr hW_X11_image M M2 := hr_fr.tr (hr_fr.si rfl (hr_fr.rf _ M)) (hr_fr.mono (W := hW_X11_in) rfl (fr_X11_in a1 0 2 _ _ e))
  refine hr_Fi h (fun _ h => ?_) (fun _ h => ?_)
  · cases h
    exact FM2
  · refine hr_Fb h (fun v6 M6 e h => ?_)
    have FM6 : hr_fr hW_X11_image M M6 := hr_fr.tr FM2 (hr_fr.mono (W := hW_X11_copyAll) rfl (fr_X11_copyAll 0 (a1 + 1) _ _ e))
    refine hr_Fg h (fun _ h => ?_)
    cases h
    exact (hr_fr.si rfl FM6)
def hW_X11_again : List (Nat × Nat) := [(275, 1), (276, 0), (277, 0), (278, 0), (279, 0), (280, 0), (281, 0), (282, 0), (283, 0), (284, 0), (285, 0)]
theorem fr_X11_again (a1 : Int32) : ∀ (M : PM) (r : Int32 × PM), f_X11_again a1 M = some r → hr_fr hW_X11_again M r.2 := by
  intro M r h
  unfold f_X11_again at h
  refine hr_Fb h (fun v2 M2 e h => ?_)
  have FM2 : hr_fr hW_X11_again M M2 := hr_fr.tr (hr_fr.si rfl (hr_fr.rf _ M)) (hr_fr.mono (W := hW_X11_in) rfl (fr_X11_in a1 0 2 _ _ e))
  refine hr_Fi h (fun _ h => ?_) (fun _ h => ?_)
  · cases h
    exact FM2
  · refine hr_Fg h (fun _ h => ?_)
    refine hr_Fi h (fun _ h => ?_) (fun _ h => ?_)
    · cases h
      exact FM2
    · refine hr_Fb h (fun v8 M8 e h => ?_)
      have FM8 : hr_fr hW_X11_again M M8 := hr_fr.tr FM2 (hr_fr.mono (W := hW_X11_copyAll) rfl (fr_X11_copyAll (a1 + 1) 0 _ _ e))
      cases h
      exact FM8
