/-! printed by wip/whole/gen/gen40.py: what the functions may write -/
def hW_X11_galleryLine : List (Nat × Nat) := [(275, 12), (275, 14), (275, 15), (275, 16), (275, 17), (275, 18), (275, 19), (275, 20), (275, 24), (286, 0), (287, 0)]
theorem fr_X11_galleryLine_37 (a1 : Int64) (a3 : Int32) : ∀ (M : PM) (r : Int32 × PM), f_X11_galleryLine_37 a1 a3 M = some r → hr_fr hW_X11_galleryLine M r.2 := by
  intro M r h
  unfold f_X11_galleryLine_37 at h
  refine hr_Fb h (fun v2 M2 e h => ?_)
  have FM2 : hr_fr hW_X11_galleryLine M M2 := hr_fr.tr (hr_fr.rf _ M) (hr_fr.mono (W := hW_X11_token) rfl (fr_X11_token  _ _ e))
  refine hr_Fi h (fun _ h => ?_) (fun _ h => ?_)
  · refine hr_Fb h (fun v5 M5 e h => ?_)
    have FM5 : hr_fr hW_X11_galleryLine M M5 := hr_fr.tr FM2 (hr_fr.mono (W := hW_X11_take) rfl (fr_X11_take 0 0 99 _ _ e))
    refine hr_Fi h (fun _ h => ?_) (fun _ h => ?_)
    · cases h
      exact FM5
    · refine hr_Fg h (fun _ h => ?_)
      refine hr_Fg h (fun _ h => ?_)
      cases h
      exact (hr_fr.si rfl FM5)
  · refine hr_Fb h (fun v10 M10 e h => ?_)
    have FM10 : hr_fr hW_X11_galleryLine M M10 := hr_fr.tr FM2 (hr_fr.mono (W := hW_X11_take) rfl (fr_X11_take 0 0 9 _ _ e))
    refine hr_Fi h (fun _ h => ?_) (fun _ h => ?_)
    · cases h
      exact FM10
    · refine hr_Fb h (fun v14 M14 e h => ?_)
      have FM14 : hr_fr hW_X11_galleryLine M M14 := hr_fr.tr FM10 (hr_fr.mono (W := hW_X11_take) rfl (fr_X11_take 1 1 9 _ _ e))
      refine hr_Fi h (fun _ h => ?_) (fun _ h => ?_)
      · cases h
        exact FM14
      · refine hr_Fb h (fun v18 M18 e h => ?_)
        have FM18 : hr_fr hW_X11_galleryLine M M18 := hr_fr.tr FM14 (hr_fr.mono (W := hW_X11_keep) rfl (fr_X11_keep 0 2 2 9 _ _ e))
        cases h
        exact FM18
theorem fr_X11_galleryLine_21 (a1 : Int64) (a3 : Int32) : ∀ (M : PM) (r : Int32 × PM), f_X11_galleryLine_21 a1 a3 M = some r → hr_fr hW_X11_galleryLine M r.2 := by
  intro M r h
  unfold f_X11_galleryLine_21 at h
  refine hr_Fi h (fun _ h => ?_) (fun _ h => ?_)
  · refine hr_Fb h (fun v3 M3 e h => ?_)
    have FM3 : hr_fr hW_X11_galleryLine M M3 := hr_fr.tr (hr_fr.rf _ M) (hr_fr.mono (W := hW_X11_full) rfl (fr_X11_full 0 9 a3 _ _ e))
    exact hr_fr.tr FM3 (fr_X11_galleryLine_37 a1 a3 _ _ h)
  · exact hr_fr.tr (hr_fr.rf _ M) (fr_X11_galleryLine_37 a1 a3 _ _ h)
theorem fr_X11_galleryLine (a1 : Int64) (a3 : Int32) : ∀ (M : PM) (r : Int32 × PM), f_X11_galleryLine a1 a3 M = some r → hr_fr hW_X11_galleryLine M r.2 := by
  intro M r h
  unfold f_X11_galleryLine at h
  refine hr_Fi h (fun _ h => ?_) (fun _ h => ?_)
  · exact hr_fr.tr (hr_fr.rf _ M) (fr_X11_galleryLine_21 a1 a3 _ _ h)
  · refine hr_Fi h (fun _ h => ?_) (fun _ h => ?_)
    · exact hr_fr.tr (hr_fr.rf _ M) (fr_X11_galleryLine_21 a1 a3 _ _ h)
    · refine hr_Fb h (fun v4 M4 e h => ?_)
      have FM4 : hr_fr hW_X11_galleryLine M M4 := hr_fr.tr (hr_fr.rf _ M) (hr_fr.mono (W := hW_X11_fails) rfl (fr_X11_fails  _ _ e))
      refine hr_Fg h (fun _ h => ?_)
      cases h
      exact FM4
def hW_X11_deedBy : List (Nat × Nat) := []
theorem fr_X11_deedBy (a0 : Int64) : ∀ (M : PM) (r : Int32 × PM), f_X11_deedBy a0 M = some r → hr_fr hW_X11_deedBy M r.2 := by
  intro M r h
  unfold f_X11_deedBy at h
  refine hr_Fi h (fun _ h => ?_) (fun _ h => ?_)
  · cases h
    exact (hr_fr.rf _ M)
  · refine hr_Fi h (fun _ h => ?_) (fun _ h => ?_)
    · cases h
      exact (hr_fr.rf _ M)
    · refine hr_Fi h (fun _ h => ?_) (fun _ h => ?_)
      · cases h
        exact (hr_fr.rf _ M)
      · refine hr_Fi h (fun _ h => ?_) (fun _ h => ?_)
        · cases h
          exact (hr_fr.rf _ M)
        · refine hr_Fi h (fun _ h => ?_) (fun _ h => ?_)
          · cases h
            exact (hr_fr.rf _ M)
          · refine hr_Fi h (fun _ h => ?_) (fun _ h => ?_)
            · cases h
              exact (hr_fr.rf _ M)
            · cases h
              exact (hr_fr.rf _ M)
def hW_X11_deedNumbers : List (Nat × Nat) := [(275, 12), (275, 14), (275, 15), (275, 16), (275, 17), (275, 18), (275, 19), (275, 20), (275, 24), (287, 0)]
theorem fr_X11_deedNumbers (a1 : Int32) : ∀ (M : PM) (r : Int32 × PM), f_X11_deedNumbers a1 M = some r → hr_fr hW_X11_deedNumbers M r.2 := by
  intro M r h
  unfold f_X11_deedNumbers at h
  refine hr_Fi h (fun _ h => ?_) (fun _ h => ?_)
  · refine hr_Fb h (fun v3 M3 e h => ?_)
    have FM3 : hr_fr hW_X11_deedNumbers M M3 := hr_fr.tr (hr_fr.rf _ M) (hr_fr.mono (W := hW_X11_take) rfl (fr_X11_take 1 0 8 _ _ e))
    refine hr_Fi h (fun _ h => ?_) (fun _ h => ?_)
    · cases h
      exact FM3
    · refine hr_Fb h (fun v7 M7 e h => ?_)
      have FM7 : hr_fr hW_X11_deedNumbers M M7 := hr_fr.tr FM3 (hr_fr.mono (W := hW_X11_take) rfl (fr_X11_take 2 0 3 _ _ e))
      refine hr_Fi h (fun _ h => ?_) (fun _ h => ?_)
      · cases h
        exact FM7
      · cases h
        exact FM7
  · refine hr_Fi h (fun _ h => ?_) (fun _ h => ?_)
    · refine hr_Fb h (fun v12 M12 e h => ?_)
      have FM12 : hr_fr hW_X11_deedNumbers M M12 := hr_fr.tr (hr_fr.rf _ M) (hr_fr.mono (W := hW_X11_take) rfl (fr_X11_take 1 0 8 _ _ e))
      refine hr_Fg h (fun _ h => ?_)
      cases h
      exact FM12
    · refine hr_Fi h (fun _ h => ?_) (fun _ h => ?_)
      · refine hr_Fb h (fun v14 M14 e h => ?_)
        have FM14 : hr_fr hW_X11_deedNumbers M M14 := hr_fr.tr (hr_fr.rf _ M) (hr_fr.mono (W := hW_X11_take) rfl (fr_X11_take 1 0 5 _ _ e))
        refine hr_Fi h (fun _ h => ?_) (fun _ h => ?_)
        · cases h
          exact FM14
        · refine hr_Fb h (fun v18 M18 e h => ?_)
          have FM18 : hr_fr hW_X11_deedNumbers M M18 := hr_fr.tr FM14 (hr_fr.mono (W := hW_X11_take) rfl (fr_X11_take 2 0 9 _ _ e))
          refine hr_Fi h (fun _ h => ?_) (fun _ h => ?_)
          · cases h
            exact FM18
          · cases h
            exact FM18
      · refine hr_Fi h (fun _ h => ?_) (fun _ h => ?_)
        · refine hr_Fb h (fun v23 M23 e h => ?_)
          have FM23 : hr_fr hW_X11_deedNumbers M M23 := hr_fr.tr (hr_fr.rf _ M) (hr_fr.mono (W := hW_X11_take) rfl (fr_X11_take 1 0 5 _ _ e))
          refine hr_Fi h (fun _ h => ?_) (fun _ h => ?_)
          · cases h
            exact FM23
          · refine hr_Fb h (fun v27 M27 e h => ?_)
            have FM27 : hr_fr hW_X11_deedNumbers M M27 := hr_fr.tr FM23 (hr_fr.mono (W := hW_X11_take) rfl (fr_X11_take 2 0 3 _ _ e))
            refine hr_Fi h (fun _ h => ?_) (fun _ h => ?_)
            · cases h
              exact FM27
            · cases h
              exact FM27
        · refine hr_Fi h (fun _ h => ?_) (fun _ h => ?_)
          · refine hr_Fb h (fun v32 M32 e h => ?_)
            have FM32 : hr_fr hW_X11_deedNumbers M M32 := hr_fr.tr (hr_fr.rf _ M) (hr_fr.mono (W := hW_X11_take) rfl (fr_X11_take 1 0 5 _ _ e))
            refine hr_Fg h (fun _ h => ?_)
            cases h
            exact FM32
          · cases h
            exact (hr_fr.rf _ M)
def hW_X11_dayLine : List (Nat × Nat) := [(275, 12), (275, 14), (275, 15), (275, 16), (275, 17), (275, 18), (275, 19), (275, 20), (275, 24), (286, 0), (287, 0)]
theorem fr_X11_dayLine (a1 : Int64) (a3 : Int32) : ∀ (M : PM) (r : Int32 × PM), f_X11_dayLine a1 a3 M = some r → hr_fr hW_X11_dayLine M r.2 := by
  intro M r h
  unfold f_X11_dayLine at h
  refine hr_Fb h (fun v2 M2 e h => ?_)
  have FM2 : hr_fr hW_X11_dayLine M M2 := hr_fr.tr (hr_fr.rf _ M) (hr_fr.mono (W := hW_X11_deedBy) rfl (fr_X11_deedBy a1 _ _ e))
  refine hr_Fi h (fun _ h => ?_) (fun _ h => ?_)
  · refine hr_Fb h (fun v5 M5 e h => ?_)
    have FM5 : hr_fr hW_X11_dayLine M M5 := hr_fr.tr FM2 (hr_fr.mono (W := hW_X11_fails) rfl (fr_X11_fails  _ _ e))
    refine hr_Fg h (fun _ h => ?_)
    cases h
    exact FM5
  · refine hr_Fb h (fun v7 M7 e h => ?_)
    have FM7 : hr_fr hW_X11_dayLine M M7 := hr_fr.tr FM2 (hr_fr.mono (W := hW_X11_full) rfl (fr_X11_full 0 40 a3 _ _ e))
    refine hr_Fb h (fun v9 M9 e h => ?_)
    have FM9 : hr_fr hW_X11_dayLine M M9 := hr_fr.tr FM7 (hr_fr.mono (W := hW_X11_token) rfl (fr_X11_token  _ _ e))
    refine hr_Fg h (fun _ h => ?_)
    refine hr_Fg h (fun _ h => ?_)
    refine hr_Fb h (fun v11 M11 e h => ?_)
    have FM11 : hr_fr hW_X11_dayLine M M11 := hr_fr.tr (hr_fr.si rfl (hr_fr.si rfl FM9)) (hr_fr.mono (W := hW_X11_deedNumbers) rfl (fr_X11_deedNumbers v2 _ _ e))
    refine hr_Fi h (fun _ h => ?_) (fun _ h => ?_)
    · cases h
      exact FM11
    · refine hr_Fg h (fun _ h => ?_)
      refine hr_Fb h (fun v15 M15 e h => ?_)
      have FM15 : hr_fr hW_X11_dayLine M M15 := hr_fr.tr (hr_fr.si rfl FM11) (hr_fr.mono (W := hW_X11_keep) rfl (fr_X11_keep 0 1 3 40 _ _ e))
      cases h
      exact FM15
def hW_X11_sightLine : List (Nat × Nat) := [(275, 12), (275, 14), (275, 15), (275, 16), (275, 17), (275, 18), (275, 19), (275, 20), (275, 24), (286, 0), (287, 0)]
theorem fr_X11_sightLine_81 (a1 : Int64) (a3 : Int32) (s0 : Int32) (s1 : Int32) : ∀ (M : PM) (r : Int32 × PM), f_X11_sightLine_81 a1 a3 s0 s1 M = some r → hr_fr hW_X11_sightLine M r.2 := by
  intro M r h
  unfold f_X11_sightLine_81 at h
  refine hr_Fg h (fun _ h => ?_)
  refine hr_Fb h (fun v2 M2 e h => ?_)
  have FM2 : hr_fr hW_X11_sightLine M M2 := hr_fr.tr (hr_fr.si rfl (hr_fr.rf _ M)) (hr_fr.mono (W := hW_X11_keep) rfl (fr_X11_keep 0 1 3 12 _ _ e))
  cases h
  exact FM2
theorem fr_X11_sightLine_21 (a1 : Int64) (a3 : Int32) : ∀ (M : PM) (r : Int32 × PM), f_X11_sightLine_21 a1 a3 M = some r → hr_fr hW_X11_sightLine M r.2 := by
  intro M r h
  unfold f_X11_sightLine_21 at h
  refine hr_Fb h (fun v2 M2 e h => ?_)
  have FM2 : hr_fr hW_X11_sightLine M M2 := hr_fr.tr (hr_fr.rf _ M) (hr_fr.mono (W := hW_X11_full) rfl (fr_X11_full 0 12 a3 _ _ e))
  refine hr_Fb h (fun v4 M4 e h => ?_)
  have FM4 : hr_fr hW_X11_sightLine M M4 := hr_fr.tr FM2 (hr_fr.mono (W := hW_X11_token) rfl (fr_X11_token  _ _ e))
  refine hr_Fb h (fun v6 M6 e h => ?_)
  have FM6 : hr_fr hW_X11_sightLine M M6 := hr_fr.tr FM4 (hr_fr.mono (W := hW_X11_take) rfl (fr_X11_take 1 0 9 _ _ e))
  refine hr_Fi h (fun _ h => ?_) (fun _ h => ?_)
  · cases h
    exact FM6
  · refine hr_Fg h (fun _ h => ?_)
    refine hr_Fb h (fun v10 M10 e h => ?_)
    have FM10 : hr_fr hW_X11_sightLine M M10 := hr_fr.tr FM6 (hr_fr.mono (W := hW_X11_takeBut) rfl (fr_X11_takeBut 2 0 9 (M6.1 287 (1 : Int32).toNatClampNeg) _ _ e))
    refine hr_Fi h (fun _ h => ?_) (fun _ h => ?_)
    · cases h
      exact FM10
    · refine hr_Fi h (fun _ h => ?_) (fun _ h => ?_)
      · exact hr_fr.tr FM10 (fr_X11_sightLine_81 a1 a3 1 0 _ _ h)
      · exact hr_fr.tr FM10 (fr_X11_sightLine_81 a1 a3 0 0 _ _ h)
theorem fr_X11_sightLine (a1 : Int64) (a3 : Int32) : ∀ (M : PM) (r : Int32 × PM), f_X11_sightLine a1 a3 M = some r → hr_fr hW_X11_sightLine M r.2 := by
  intro M r h
  unfold f_X11_sightLine at h
  refine hr_Fi h (fun _ h => ?_) (fun _ h => ?_)
  · exact hr_fr.tr (hr_fr.rf _ M) (fr_X11_sightLine_21 a1 a3 _ _ h)
  · refine hr_Fi h (fun _ h => ?_) (fun _ h => ?_)
    · exact hr_fr.tr (hr_fr.rf _ M) (fr_X11_sightLine_21 a1 a3 _ _ h)
    · refine hr_Fb h (fun v4 M4 e h => ?_)
      have FM4 : hr_fr hW_X11_sightLine M M4 := hr_fr.tr (hr_fr.rf _ M) (hr_fr.mono (W := hW_X11_fails) rfl (fr_X11_fails  _ _ e))
      refine hr_Fg h (fun _ h => ?_)
      cases h
      exact FM4
def hW_X11_dinnerLine : List (Nat × Nat) := [(275, 12), (275, 14), (275, 15), (275, 16), (275, 17), (275, 18), (275, 19), (275, 20), (275, 24), (286, 0), (287, 0)]
theorem fr_X11_dinnerLine_104 (a1 : Int64) (a3 : Int32) (k28 : Int32 → PM → Option (Int32 × PM)) (s0 : Int32) (s1 : Int32) (hk28 : ∀ (y0 : Int32) (M : PM) (r : Int32 × PM), k28 y0 M = some r → hr_fr hW_X11_dinnerLine M r.2) : ∀ (M : PM) (r : Int32 × PM), f_X11_dinnerLine_104 a1 a3 k28 s0 s1 M = some r → hr_fr hW_X11_dinnerLine M r.2 := by
  intro M r h
  unfold f_X11_dinnerLine_104 at h
  refine hr_Fi h (fun _ h => ?_) (fun _ h => ?_)
  · exact hr_fr.tr (hr_fr.rf _ M) (hk28 (s1 ||| s0) _ _ h)
  · refine hr_Fg h (fun _ h => ?_)
    refine hr_Fb h (fun v3 M3 e h => ?_)
    have FM3 : hr_fr hW_X11_dinnerLine M M3 := hr_fr.tr (hr_fr.si rfl (hr_fr.rf _ M)) (hr_fr.mono (W := hW_X11_keep) rfl (fr_X11_keep 0 1 1 8 _ _ e))
    cases h
    exact FM3
theorem fr_X11_dinnerLine_79 (a1 : Int64) (a3 : Int32) (k28 : Int32 → PM → Option (Int32 × PM)) (x4 : Int32) (hk28 : ∀ (y0 : Int32) (M : PM) (r : Int32 × PM), k28 y0 M = some r → hr_fr hW_X11_dinnerLine M r.2) : ∀ (M : PM) (r : Int32 × PM), f_X11_dinnerLine_79 a1 a3 k28 x4 M = some r → hr_fr hW_X11_dinnerLine M r.2 := by
  intro M r h
  unfold f_X11_dinnerLine_79 at h
  refine hr_Fg h (fun _ h => ?_)
  refine hr_Fi h (fun _ h => ?_) (fun _ h => ?_)
  · exact hr_fr.tr (hr_fr.rf _ M) (fr_X11_dinnerLine_104 a1 a3 k28 0 x4 hk28 _ _ h)
  · refine hr_Fg h (fun _ h => ?_)
    exact hr_fr.tr (hr_fr.rf _ M) (fr_X11_dinnerLine_104 a1 a3 k28 (jl 1 (M.1 287 (1 : Int32).toNatClampNeg)) x4 hk28 _ _ h)
theorem fr_X11_dinnerLine_28 (a1 : Int64) (a3 : Int32) : ∀ (f : Nat) (x4 : Int32) (M : PM) (r : Int32 × PM), f_X11_dinnerLine_28 a1 a3 f x4 M = some r → hr_fr hW_X11_dinnerLine M r.2 := by
  intro f
  induction f with
  | zero => intro x4 M r h; cases h
  | succ f ih =>
    intro x4 M r h
    rw [f_X11_dinnerLine_28.eq_2] at h
    refine hr_Fb h (fun v2 M2 e h => ?_)
    have FM2 : hr_fr hW_X11_dinnerLine M M2 := hr_fr.tr (hr_fr.rf _ M) (hr_fr.mono (W := hW_X11_take) rfl (fr_X11_take 1 0 9 _ _ e))
    refine hr_Fi h (fun _ h => ?_) (fun _ h => ?_)
    · cases h
      exact FM2
    · refine hr_Fg h (fun _ h => ?_)
      refine hr_Fi h (fun _ h => ?_) (fun _ h => ?_)
      · exact hr_fr.tr FM2 (fr_X11_dinnerLine_79 a1 a3 (fun x4 M => f_X11_dinnerLine_28 a1 a3 f x4 M) x4 (fun x4 M r h => ih x4 M r h) _ _ h)
      · refine hr_Fg h (fun _ h => ?_)
        refine hr_Fb h (fun v7 M7 e h => ?_)
        have FM7 : hr_fr hW_X11_dinnerLine M M7 := hr_fr.tr FM2 (hr_fr.mono (W := hW_X11_has) rfl (fr_X11_has x4 (M2.1 287 (1 : Int32).toNatClampNeg) _ _ e))
        refine hr_Fi h (fun _ h => ?_) (fun _ h => ?_)
        · exact hr_fr.tr FM7 (fr_X11_dinnerLine_79 a1 a3 (fun x4 M => f_X11_dinnerLine_28 a1 a3 f x4 M) x4 (fun x4 M r h => ih x4 M r h) _ _ h)
        · refine hr_Fb h (fun v10 M10 e h => ?_)
          have FM10 : hr_fr hW_X11_dinnerLine M M10 := hr_fr.tr FM7 (hr_fr.mono (W := hW_X11_later) rfl (fr_X11_later 2 (M.1 275 13) _ _ e))
          exact hr_fr.tr FM10 (fr_X11_dinnerLine_79 a1 a3 (fun x4 M => f_X11_dinnerLine_28 a1 a3 f x4 M) x4 (fun x4 M r h => ih x4 M r h) _ _ h)
theorem fr_X11_dinnerLine (a1 : Int64) (a3 : Int32) : ∀ (M : PM) (r : Int32 × PM), f_X11_dinnerLine a1 a3 M = some r → hr_fr hW_X11_dinnerLine M r.2 := by
  intro M r h
  unfold f_X11_dinnerLine at h
  refine hr_Fi h (fun _ h => ?_) (fun _ h => ?_)
  · refine hr_Fb h (fun v3 M3 e h => ?_)
    have FM3 : hr_fr hW_X11_dinnerLine M M3 := hr_fr.tr (hr_fr.rf _ M) (hr_fr.mono (W := hW_X11_full) rfl (fr_X11_full 0 8 a3 _ _ e))
    refine hr_Fb h (fun v5 M5 e h => ?_)
    have FM5 : hr_fr hW_X11_dinnerLine M M5 := hr_fr.tr FM3 (hr_fr.mono (W := hW_X11_token) rfl (fr_X11_token  _ _ e))
    exact hr_fr.tr FM5 (fr_X11_dinnerLine_28 a1 a3 FU 0 _ _ h)
  · refine hr_Fb h (fun v8 M8 e h => ?_)
    have FM8 : hr_fr hW_X11_dinnerLine M M8 := hr_fr.tr (hr_fr.rf _ M) (hr_fr.mono (W := hW_X11_fails) rfl (fr_X11_fails  _ _ e))
    refine hr_Fg h (fun _ h => ?_)
    cases h
    exact FM8
def hW_X11_lineOf : List (Nat × Nat) := [(275, 12), (275, 14), (275, 15), (275, 16), (275, 17), (275, 18), (275, 19), (275, 20), (275, 23), (275, 24), (286, 0), (287, 0)]
theorem fr_X11_lineOf (a1 : Int32) (a2 : Int64) (a4 : Int32) : ∀ (M : PM) (r : Int32 × PM), f_X11_lineOf a1 a2 a4 M = some r → hr_fr hW_X11_lineOf M r.2 := by
  intro M r h
  unfold f_X11_lineOf at h
  refine hr_Fi h (fun _ h => ?_) (fun _ h => ?_)
  · refine hr_Fb h (fun v3 M3 e h => ?_)
    have FM3 : hr_fr hW_X11_lineOf M M3 := hr_fr.tr (hr_fr.rf _ M) (hr_fr.mono (W := hW_X11_paletteLine) rfl (fr_X11_paletteLine a2 a4 _ _ e))
    refine hr_Fg h (fun _ h => ?_)
    cases h
    exact FM3
  · refine hr_Fi h (fun _ h => ?_) (fun _ h => ?_)
    · refine hr_Fb h (fun v5 M5 e h => ?_)
      have FM5 : hr_fr hW_X11_lineOf M M5 := hr_fr.tr (hr_fr.rf _ M) (hr_fr.mono (W := hW_X11_galleryLine) rfl (fr_X11_galleryLine a2 a4 _ _ e))
      refine hr_Fg h (fun _ h => ?_)
      cases h
      exact FM5
    · refine hr_Fi h (fun _ h => ?_) (fun _ h => ?_)
      · refine hr_Fb h (fun v7 M7 e h => ?_)
        have FM7 : hr_fr hW_X11_lineOf M M7 := hr_fr.tr (hr_fr.rf _ M) (hr_fr.mono (W := hW_X11_dayLine) rfl (fr_X11_dayLine a2 a4 _ _ e))
        refine hr_Fg h (fun _ h => ?_)
        cases h
        exact FM7
      · refine hr_Fi h (fun _ h => ?_) (fun _ h => ?_)
        · refine hr_Fb h (fun v9 M9 e h => ?_)
          have FM9 : hr_fr hW_X11_lineOf M M9 := hr_fr.tr (hr_fr.rf _ M) (hr_fr.mono (W := hW_X11_sightLine) rfl (fr_X11_sightLine a2 a4 _ _ e))
          refine hr_Fg h (fun _ h => ?_)
          cases h
          exact FM9
        · refine hr_Fb h (fun v11 M11 e h => ?_)
          have FM11 : hr_fr hW_X11_lineOf M M11 := hr_fr.tr (hr_fr.rf _ M) (hr_fr.mono (W := hW_X11_dinnerLine) rfl (fr_X11_dinnerLine a2 a4 _ _ e))
          refine hr_Fg h (fun _ h => ?_)
          cases h
          exact FM11
def hW_X11_lines : List (Nat × Nat) := [(275, 12), (275, 14), (275, 15), (275, 16), (275, 17), (275, 18), (275, 19), (275, 20), (275, 23), (275, 24), (286, 0), (287, 0)]
theorem fr_X11_lines_63 (a1 : Int32) (k2 : Int32 → PM → Option (Int32 × PM)) (x2 : Int32) (hk2 : ∀ (y0 : Int32) (M : PM) (r : Int32 × PM), k2 y0 M = some r → hr_fr hW_X11_lines M r.2) : ∀ (M : PM) (r : Int32 × PM), f_X11_lines_63 a1 k2 x2 M = some r → hr_fr hW_X11_lines M r.2 := by
  intro M r h
  unfold f_X11_lines_63 at h
  refine hr_Fi h (fun _ h => ?_) (fun _ h => ?_)
  · exact hr_fr.tr (hr_fr.rf _ M) (hk2 x2 _ _ h)
  · refine hr_Fb h (fun v4 M4 e h => ?_)
    have FM4 : hr_fr hW_X11_lines M M4 := hr_fr.tr (hr_fr.rf _ M) (hr_fr.mono (W := hW_X11_token) rfl (fr_X11_token  _ _ e))
    exact hr_fr.tr FM4 (hk2 x2 _ _ h)
theorem fr_X11_lines_41 (a1 : Int32) (k2 : Int32 → PM → Option (Int32 × PM)) (x3 : Int32) (s0 : Int64) (s1 : Int32) (hk2 : ∀ (y0 : Int32) (M : PM) (r : Int32 × PM), k2 y0 M = some r → hr_fr hW_X11_lines M r.2) : ∀ (M : PM) (r : Int32 × PM), f_X11_lines_41 a1 k2 x3 s0 s1 M = some r → hr_fr hW_X11_lines M r.2 := by
  intro M r h
  unfold f_X11_lines_41 at h
  refine hr_Fb h (fun v2 M2 e h => ?_)
  have FM2 : hr_fr hW_X11_lines M M2 := hr_fr.tr (hr_fr.rf _ M) (hr_fr.mono (W := hW_X11_lineOf) rfl (fr_X11_lineOf s1 s0 x3 _ _ e))
  refine hr_Fi h (fun _ h => ?_) (fun _ h => ?_)
  · exact hr_fr.tr FM2 (fr_X11_lines_63 a1 k2 v2 hk2 _ _ h)
  · refine hr_Fi h (fun _ h => ?_) (fun _ h => ?_)
    · exact hr_fr.tr FM2 (fr_X11_lines_63 a1 k2 v2 hk2 _ _ h)
    · refine hr_Fb h (fun v6 M6 e h => ?_)
      have FM6 : hr_fr hW_X11_lines M M6 := hr_fr.tr FM2 (hr_fr.mono (W := hW_X11_fails) rfl (fr_X11_fails  _ _ e))
      exact hr_fr.tr FM6 (fr_X11_lines_63 a1 k2 v6 hk2 _ _ h)
theorem fr_X11_lines_2 (a1 : Int32) : ∀ (f : Nat) (x2 : Int32) (M : PM) (r : Int32 × PM), f_X11_lines_2 a1 f x2 M = some r → hr_fr hW_X11_lines M r.2 := by
  intro f
  induction f with
  | zero => intro x2 M r h; cases h
  | succ f ih =>
    intro x2 M r h
    rw [f_X11_lines_2.eq_2] at h
    refine hr_Fi h (fun _ h => ?_) (fun _ h => ?_)
    · refine hr_Fg h (fun _ h => ?_)
      cases h
      exact (hr_fr.rf _ M)
    · refine hr_Fi h (fun _ h => ?_) (fun _ h => ?_)
      · refine hr_Fg h (fun _ h => ?_)
        cases h
        exact (hr_fr.rf _ M)
      · refine hr_Fi h (fun _ h => ?_) (fun _ h => ?_)
        · exact hr_fr.tr (hr_fr.si rfl (hr_fr.rf _ M)) (fr_X11_lines_41 a1 (fun x2 M => f_X11_lines_2 a1 f x2 M) (M.1 275 13) ((hr_si M 275 23 1).2.1 275 16) a1 (fun x2 M r h => ih x2 M r h) _ _ h)
        · exact hr_fr.tr (hr_fr.si rfl (hr_fr.rf _ M)) (fr_X11_lines_41 a1 (fun x2 M => f_X11_lines_2 a1 f x2 M) (M.1 275 13) 0 a1 (fun x2 M r h => ih x2 M r h) _ _ h)
theorem fr_X11_lines (a1 : Int32) : ∀ (M : PM) (r : Int32 × PM), f_X11_lines a1 M = some r → hr_fr hW_X11_lines M r.2 := by
  intro M r h
  unfold f_X11_lines at h
  exact hr_fr.tr (hr_fr.rf _ M) (fr_X11_lines_2 a1 FU 1 _ _ h)
def hW_X11_readText : List (Nat × Nat) := [(275, 12), (275, 14), (275, 15), (275, 16), (275, 17), (275, 18), (275, 19), (275, 20), (275, 23), (275, 24), (278, 0), (279, 0), (286, 0), (287, 0)]
theorem fr_X11_readText_149 (a1 : Int32) (s0 : Int32) (s1 : Int32) : ∀ (M : PM) (r : Int32 × PM), f_X11_readText_149 a1 s0 s1 M = some r → hr_fr hW_X11_readText M r.2 := by
  intro M r h
  unfold f_X11_readText_149 at h
  refine hr_Fg h (fun _ h => ?_)
  refine hr_Fg h (fun _ h => ?_)
  refine hr_Fi h (fun _ h => ?_) (fun _ h => ?_)
  · cases h
    exact (hr_fr.si rfl (hr_fr.rf _ M))
  · cases h
    exact (hr_fr.si rfl (hr_fr.rf _ M))
theorem fr_X11_readText_117 (a1 : Int32) (x2 : Int32) (s0 : Int32) (s1 : Int32) : ∀ (M : PM) (r : Int32 × PM), f_X11_readText_117 a1 x2 s0 s1 M = some r → hr_fr hW_X11_readText M r.2 := by
  intro M r h
  unfold f_X11_readText_117 at h
  refine hr_Fg h (fun _ h => ?_)
  refine hr_Fi h (fun _ h => ?_) (fun _ h => ?_)
  · exact hr_fr.tr (hr_fr.si rfl (hr_fr.rf _ M)) (fr_X11_readText_149 a1 ((hr_si M 278 s1.toNatClampNeg s0).1 275 17) 0 _ _ h)
  · refine hr_Fi h (fun _ h => ?_) (fun _ h => ?_)
    · exact hr_fr.tr (hr_fr.si rfl (hr_fr.rf _ M)) (fr_X11_readText_149 a1 (-1) 0 _ _ h)
    · exact hr_fr.tr (hr_fr.si rfl (hr_fr.rf _ M)) (fr_X11_readText_149 a1 ((hr_si M 278 s1.toNatClampNeg s0).1 275 19) 0 _ _ h)
theorem fr_X11_readText_100 (a1 : Int32) (x2 : Int32) : ∀ (M : PM) (r : Int32 × PM), f_X11_readText_100 a1 x2 M = some r → hr_fr hW_X11_readText M r.2 := by
  intro M r h
  unfold f_X11_readText_100 at h
  refine hr_Fi h (fun _ h => ?_) (fun _ h => ?_)
  · exact hr_fr.tr (hr_fr.rf _ M) (fr_X11_readText_117 a1 x2 1 0 _ _ h)
  · exact hr_fr.tr (hr_fr.rf _ M) (fr_X11_readText_117 a1 x2 (M.1 275 18) 0 _ _ h)
theorem fr_X11_readText_37 (a1 : Int32) (s0 : Int32) (s1 : Int32) : ∀ (M : PM) (r : Int32 × PM), f_X11_readText_37 a1 s0 s1 M = some r → hr_fr hW_X11_readText M r.2 := by
  intro M r h
  unfold f_X11_readText_37 at h
  refine hr_Fg h (fun _ h => ?_)
  refine hr_Fb h (fun v2 M2 e h => ?_)
  have FM2 : hr_fr hW_X11_readText M M2 := hr_fr.tr (hr_fr.si rfl (hr_fr.si rfl (hr_fr.si rfl (hr_fr.si rfl (hr_fr.rf _ M))))) (hr_fr.mono (W := hW_X11_token) rfl (fr_X11_token  _ _ e))
  refine hr_Fb h (fun v4 M4 e h => ?_)
  have FM4 : hr_fr hW_X11_readText M M4 := hr_fr.tr FM2 (hr_fr.mono (W := hW_X11_lines) rfl (fr_X11_lines a1 _ _ e))
  refine hr_Fi h (fun _ h => ?_) (fun _ h => ?_)
  · exact hr_fr.tr FM4 (fr_X11_readText_100 a1 v4 _ _ h)
  · refine hr_Fi h (fun _ h => ?_) (fun _ h => ?_)
    · refine hr_Fi h (fun _ h => ?_) (fun _ h => ?_)
      · refine hr_Fg h (fun _ h => ?_)
        refine hr_Fi h (fun _ h => ?_) (fun _ h => ?_)
        · exact hr_fr.tr FM4 (fr_X11_readText_100 a1 v4 _ _ h)
        · refine hr_Fb h (fun v10 M10 e h => ?_)
          have FM10 : hr_fr hW_X11_readText M M10 := hr_fr.tr FM4 (hr_fr.mono (W := hW_X11_later) rfl (fr_X11_later 4 (M4.1 275 13) _ _ e))
          exact hr_fr.tr FM10 (fr_X11_readText_100 a1 v4 _ _ h)
      · exact hr_fr.tr FM4 (fr_X11_readText_100 a1 v4 _ _ h)
    · exact hr_fr.tr FM4 (fr_X11_readText_100 a1 v4 _ _ h)
theorem fr_X11_readText_2 (a1 : Int32) : ∀ (f : Nat) (x2 : Int32) (M : PM) (r : Int32 × PM), f_X11_readText_2 a1 f x2 M = some r → hr_fr hW_X11_readText M r.2 := by
  intro f
  induction f with
  | zero => intro x2 M r h; cases h
  | succ f ih =>
    intro x2 M r h
    rw [f_X11_readText_2.eq_2] at h
    refine hr_Fi h (fun _ h => ?_) (fun _ h => ?_)
    · refine hr_Fi h (fun _ h => ?_) (fun _ h => ?_)
      · exact hr_fr.tr (hr_fr.rf _ M) (fr_X11_readText_37 a1 10 1 _ _ h)
      · exact hr_fr.tr (hr_fr.rf _ M) (fr_X11_readText_37 a1 0 1 _ _ h)
    · refine hr_Fg h (fun _ h => ?_)
      exact hr_fr.tr (hr_fr.si rfl (hr_fr.rf _ M)) (ih (x2 + 1) _ _ h)
theorem fr_X11_readText (a1 : Int32) : ∀ (M : PM) (r : Int32 × PM), f_X11_readText a1 M = some r → hr_fr hW_X11_readText M r.2 := by
  intro M r h
  unfold f_X11_readText at h
  exact hr_fr.tr (hr_fr.rf _ M) (fr_X11_readText_2 a1 FU 0 _ _ h)
def hW_X11_store (a1 : Nat) : List (Nat × Nat) := [(a1, 0)]
theorem fr_X11_store_3 (a1 : Nat) (a2 : Int32) (a3 : Int32) : ∀ (f : Nat) (x4 : Int32) (M : PM) (r : Unit × PM), f_X11_store_3 a1 a2 a3 f x4 M = some r → hr_fr (hW_X11_store a1) M r.2 := by
  intro f
  induction f with
  | zero => intro x4 M r h; cases h
  | succ f ih =>
    intro x4 M r h
    rw [f_X11_store_3.eq_2] at h
    refine hr_Fi h (fun _ h => ?_) (fun _ h => ?_)
    · cases h
      exact (hr_fr.rf _ M)
    · refine hr_Fg h (fun _ h => ?_)
      refine hr_Fg h (fun _ h => ?_)
      exact hr_fr.tr (hr_fr.si (by simp [hr_in, hW_X11_store]) (hr_fr.rf _ M)) (ih (x4 + 1) _ _ h)
theorem fr_X11_store (a1 : Nat) (a2 : Int32) (a3 : Int32) : ∀ (M : PM) (r : Unit × PM), f_X11_store a1 a2 a3 M = some r → hr_fr (hW_X11_store a1) M r.2 := by
  intro M r h
  unfold f_X11_store at h
  refine hr_Fg h (fun _ h => ?_)
  exact hr_fr.tr (hr_fr.rf _ M) (fr_X11_store_3 a1 a2 a3 FU 0 _ _ h)
def hW_X11_storeAll : List (Nat × Nat) := [(281, 0), (282, 0), (283, 0), (284, 0), (285, 0)]
theorem fr_X11_storeAll (a1 : Int32) (a2 : Int32) : ∀ (M : PM) (r : Unit × PM), f_X11_storeAll a1 a2 M = some r → hr_fr hW_X11_storeAll M r.2 := by
  intro M r h
  unfold f_X11_storeAll at h
  refine hr_Fi h (fun _ h => ?_) (fun _ h => ?_)
  · refine hr_Fb h (fun v3 M3 e h => ?_)
    have FM3 : hr_fr hW_X11_storeAll M M3 := hr_fr.tr (hr_fr.rf _ M) (hr_fr.mono (W := (hW_X11_store 281)) rfl (fr_X11_store 281 70 a2 _ _ e))
    cases h
    exact FM3
  · refine hr_Fi h (fun _ h => ?_) (fun _ h => ?_)
    · refine hr_Fb h (fun v5 M5 e h => ?_)
      have FM5 : hr_fr hW_X11_storeAll M M5 := hr_fr.tr (hr_fr.rf _ M) (hr_fr.mono (W := (hW_X11_store 282)) rfl (fr_X11_store 282 20 a2 _ _ e))
      cases h
      exact FM5
    · refine hr_Fi h (fun _ h => ?_) (fun _ h => ?_)
      · refine hr_Fb h (fun v7 M7 e h => ?_)
        have FM7 : hr_fr hW_X11_storeAll M M7 := hr_fr.tr (hr_fr.rf _ M) (hr_fr.mono (W := (hW_X11_store 283)) rfl (fr_X11_store 283 121 a2 _ _ e))
        cases h
        exact FM7
      · refine hr_Fi h (fun _ h => ?_) (fun _ h => ?_)
        · refine hr_Fb h (fun v9 M9 e h => ?_)
          have FM9 : hr_fr hW_X11_storeAll M M9 := hr_fr.tr (hr_fr.rf _ M) (hr_fr.mono (W := (hW_X11_store 284)) rfl (fr_X11_store 284 37 a2 _ _ e))
          cases h
          exact FM9
        · refine hr_Fb h (fun v11 M11 e h => ?_)
          have FM11 : hr_fr hW_X11_storeAll M M11 := hr_fr.tr (hr_fr.rf _ M) (hr_fr.mono (W := (hW_X11_store 285)) rfl (fr_X11_store 285 9 a2 _ _ e))
          cases h
          exact FM11
def hW_X11_text : List (Nat × Nat) := [(275, 1), (275, 12), (275, 13), (275, 14), (275, 15), (275, 16), (275, 17), (275, 18), (275, 19), (275, 20), (275, 23), (275, 24), (277, 0), (278, 0), (279, 0), (280, 0), (281, 0), (282, 0), (283, 0), (284, 0), (285, 0), (286, 0), (287, 0)]
theorem fr_X11_text_118 (a1 : Int32) (a2 : Int32) (x3 : Int32) (s0 : Int32) (s1 : Int32) (s2 : Int32) : ∀ (M : PM) (r : Int32 × PM), f_X11_text_118 a1 a2 x3 s0 s1 s2 M = some r → hr_fr hW_X11_text M r.2 := by
  intro M r h
  unfold f_X11_text_118 at h
  refine hr_Fg h (fun _ h => ?_)
  refine hr_Fb h (fun v2 M2 e h => ?_)
  have FM2 : hr_fr hW_X11_text M M2 := hr_fr.tr (hr_fr.si rfl (hr_fr.rf _ M)) (hr_fr.mono (W := hW_X11_storeAll) rfl (fr_X11_storeAll a1 x3 _ _ e))
  cases h
  exact FM2
theorem fr_X11_text_100 (a1 : Int32) (a2 : Int32) (s0 : Int32) : ∀ (M : PM) (r : Int32 × PM), f_X11_text_100 a1 a2 s0 M = some r → hr_fr hW_X11_text M r.2 := by
  intro M r h
  unfold f_X11_text_100 at h
  refine hr_Fg h (fun _ h => ?_)
  refine hr_Fi h (fun _ h => ?_) (fun _ h => ?_)
  · exact hr_fr.tr (hr_fr.rf _ M) (fr_X11_text_118 a1 a2 s0 1 (M.1 280 a1.toNatClampNeg) a1 _ _ h)
  · exact hr_fr.tr (hr_fr.rf _ M) (fr_X11_text_118 a1 a2 s0 0 (M.1 280 a1.toNatClampNeg) a1 _ _ h)
theorem fr_X11_text_75 (a1 : Int32) (a2 : Int32) : ∀ (M : PM) (r : Int32 × PM), f_X11_text_75 a1 a2 M = some r → hr_fr hW_X11_text M r.2 := by
  intro M r h
  unfold f_X11_text_75 at h
  refine hr_Fb h (fun v2 M2 e h => ?_)
  have FM2 : hr_fr hW_X11_text M M2 := hr_fr.tr (hr_fr.rf _ M) (hr_fr.mono (W := hW_X11_readText) rfl (fr_X11_readText a1 _ _ e))
  refine hr_Fi h (fun _ h => ?_) (fun _ h => ?_)
  · cases h
    exact FM2
  · refine hr_Fi h (fun _ h => ?_) (fun _ h => ?_)
    · refine hr_Fg h (fun _ h => ?_)
      exact hr_fr.tr FM2 (fr_X11_text_100 a1 a2 (M2.1 280 a1.toNatClampNeg) _ _ h)
    · exact hr_fr.tr FM2 (fr_X11_text_100 a1 a2 a2 _ _ h)
theorem fr_X11_text (a1 : Int32) (a2 : Int32) : ∀ (M : PM) (r : Int32 × PM), f_X11_text a1 a2 M = some r → hr_fr hW_X11_text M r.2 := by
  intro M r h
  unfold f_X11_text at h
  refine hr_Fg h (fun _ h => ?_)
  refine hr_Fg h (fun _ h => ?_)
  refine hr_Fg h (fun _ h => ?_)
  refine hr_Fg h (fun _ h => ?_)
  refine hr_Fb h (fun v2 M2 e h => ?_)
  have FM2 : hr_fr hW_X11_text M M2 := hr_fr.tr (hr_fr.si rfl (hr_fr.si rfl (hr_fr.si rfl (hr_fr.si rfl (hr_fr.si rfl (hr_fr.rf _ M)))))) (hr_fr.mono (W := hW_X11_in) rfl (fr_X11_in a1 0 4 _ _ e))
  refine hr_Fi h (fun _ h => ?_) (fun _ h => ?_)
  · cases h
    exact FM2
  · refine hr_Fi h (fun _ h => ?_) (fun _ h => ?_)
    · refine hr_Fg h (fun _ h => ?_)
      refine hr_Fi h (fun _ h => ?_) (fun _ h => ?_)
      · cases h
        exact FM2
      · exact hr_fr.tr FM2 (fr_X11_text_75 a1 a2 _ _ h)
    · refine hr_Fb h (fun v10 M10 e h => ?_)
      have FM10 : hr_fr hW_X11_text M M10 := hr_fr.tr FM2 (hr_fr.mono (W := hW_X11_is) rfl (fr_X11_is a1 a2 _ _ e))
      refine hr_Fi h (fun _ h => ?_) (fun _ h => ?_)
      · cases h
        exact FM10
      · exact hr_fr.tr FM10 (fr_X11_text_75 a1 a2 _ _ h)
def hW_X11_fault : List (Nat × Nat) := [(275, 1)]
theorem fr_X11_fault (a1 : Int32) : ∀ (M : PM) (r : Int32 × PM), f_X11_fault a1 M = some r → hr_fr hW_X11_fault M r.2 := by
  intro M r h
  unfold f_X11_fault at h
  refine hr_Fi h (fun _ h => ?_) (fun _ h => ?_)
  · refine hr_Fg h (fun _ h => ?_)
    cases h
    exact (hr_fr.si rfl (hr_fr.rf _ M))
  · refine hr_Fi h (fun _ h => ?_) (fun _ h => ?_)
    · refine hr_Fg h (fun _ h => ?_)
      cases h
      exact (hr_fr.si rfl (hr_fr.rf _ M))
    · cases h
      exact (hr_fr.si rfl (hr_fr.rf _ M))
def hW_X11_of : List (Nat × Nat) := []
theorem fr_X11_of (a1 : Int32) : ∀ (M : PM) (r : Int32 × PM), f_X11_of a1 M = some r → hr_fr hW_X11_of M r.2 := by
  intro M r h
  unfold f_X11_of at h
  refine hr_Fg h (fun _ h => ?_)
  cases h
  exact (hr_fr.rf _ M)
def hW_X11_part : List (Nat × Nat) := []
theorem fr_X11_part (a1 : Int32) (a2 : Int32) : ∀ (M : PM) (r : Int32 × PM), f_X11_part a1 a2 M = some r → hr_fr hW_X11_part M r.2 := by
  intro M r h
  unfold f_X11_part at h
  refine hr_Fb h (fun v2 M2 e h => ?_)
  have FM2 : hr_fr hW_X11_part M M2 := hr_fr.tr (hr_fr.rf _ M) (hr_fr.mono (W := hW_X11_of) rfl (fr_X11_of ((2 + (3 * a1)) + a2) _ _ e))
  cases h
  exact FM2
def hW_X11_ruleOf : List (Nat × Nat) := []
theorem fr_X11_ruleOf (a1 : Int32) (a2 : Int32) : ∀ (M : PM) (r : Int32 × PM), f_X11_ruleOf a1 a2 M = some r → hr_fr hW_X11_ruleOf M r.2 := by
  intro M r h
  unfold f_X11_ruleOf at h
  refine hr_Fb h (fun v2 M2 e h => ?_)
  have FM2 : hr_fr hW_X11_ruleOf M M2 := hr_fr.tr (hr_fr.rf _ M) (hr_fr.mono (W := hW_X11_of) rfl (fr_X11_of ((32 + (3 * a1)) + a2) _ _ e))
  cases h
  exact FM2
def hW_X11_layHue : List (Nat × Nat) := [(289, 0)]
theorem fr_X11_layHue_2 (a1 : Int32) (a2 : Int32) : ∀ (f : Nat) (x3 : Int32) (M : PM) (r : Unit × PM), f_X11_layHue_2 a1 a2 f x3 M = some r → hr_fr hW_X11_layHue M r.2 := by
  intro f
  induction f with
  | zero => intro x3 M r h; cases h
  | succ f ih =>
    intro x3 M r h
    rw [f_X11_layHue_2.eq_2] at h
    refine hr_Fi h (fun _ h => ?_) (fun _ h => ?_)
    · cases h
      exact (hr_fr.rf _ M)
    · refine hr_Fb h (fun v3 M3 e h => ?_)
      have FM3 : hr_fr hW_X11_layHue M M3 := hr_fr.tr (hr_fr.rf _ M) (hr_fr.mono (W := hW_X11_part) rfl (fr_X11_part a2 x3 _ _ e))
      refine hr_Fg h (fun _ h => ?_)
      exact hr_fr.tr (hr_fr.si rfl FM3) (ih (x3 + 1) _ _ h)
theorem fr_X11_layHue (a1 : Int32) (a2 : Int32) : ∀ (M : PM) (r : Unit × PM), f_X11_layHue a1 a2 M = some r → hr_fr hW_X11_layHue M r.2 := by
  intro M r h
  unfold f_X11_layHue at h
  exact hr_fr.tr (hr_fr.rf _ M) (fr_X11_layHue_2 a1 a2 FU 0 _ _ h)
def hW_X11_layColour : List (Nat × Nat) := [(289, 0)]
theorem fr_X11_layColour (a1 : Int32) (a2 : Int32) : ∀ (M : PM) (r : Unit × PM), f_X11_layColour a1 a2 M = some r → hr_fr hW_X11_layColour M r.2 := by
  intro M r h
  unfold f_X11_layColour at h
  refine hr_Fg h (fun _ h => ?_)
  refine hr_Fg h (fun _ h => ?_)
  refine hr_Fg h (fun _ h => ?_)
  cases h
  exact (hr_fr.si rfl (hr_fr.si rfl (hr_fr.si rfl (hr_fr.rf _ M))))
def hW_X11_allParts : List (Nat × Nat) := []
theorem fr_X11_allParts_4  : ∀ (f : Nat) (x1 : Int32) (x2 : Int32) (M : PM) (r : Int32 × PM), f_X11_allParts_4 f x1 x2 M = some r → hr_fr hW_X11_allParts M r.2 := by
  intro f
  induction f with
  | zero => intro x1 x2 M r h; cases h
  | succ f ih =>
    intro x1 x2 M r h
    rw [f_X11_allParts_4.eq_2] at h
    refine hr_Fi h (fun _ h => ?_) (fun _ h => ?_)
    · cases h
      exact (hr_fr.rf _ M)
    · refine hr_Fg h (fun _ h => ?_)
      exact hr_fr.tr (hr_fr.rf _ M) (ih (x1 + (M.1 289 x2.toNatClampNeg)) (x2 + 1) _ _ h)
theorem fr_X11_allParts  : ∀ (M : PM) (r : Int32 × PM), f_X11_allParts M = some r → hr_fr hW_X11_allParts M r.2 := by
  intro M r h
  unfold f_X11_allParts at h
  exact hr_fr.tr (hr_fr.rf _ M) (fr_X11_allParts_4 FU 0 0 _ _ h)
def hW_X11_holds : List (Nat × Nat) := []
theorem fr_X11_holds (a1 : Int32) (a2 : Int32) (a3 : Int32) : ∀ (M : PM) (r : Int32 × PM), f_X11_holds a1 a2 a3 M = some r → hr_fr hW_X11_holds M r.2 := by
  intro M r h
  unfold f_X11_holds at h
  refine hr_Fi h (fun _ h => ?_) (fun _ h => ?_)
  · refine hr_Fb h (fun v3 M3 e h => ?_)
    have FM3 : hr_fr hW_X11_holds M M3 := hr_fr.tr (hr_fr.rf _ M) (hr_fr.mono (W := hW_X11_allParts) rfl (fr_X11_allParts  _ _ e))
    refine hr_Fb h (fun v5 M5 e h => ?_)
    have FM5 : hr_fr hW_X11_holds M M5 := hr_fr.tr FM3 (hr_fr.mono (W := hW_X11_in) rfl (fr_X11_in v3 a2 a3 _ _ e))
    refine hr_Fg h (fun _ h => ?_)
    cases h
    exact FM5
  · refine hr_Fi h (fun _ h => ?_) (fun _ h => ?_)
    · refine hr_Fg h (fun _ h => ?_)
      refine hr_Fg h (fun _ h => ?_)
      refine hr_Fb h (fun v7 M7 e h => ?_)
      have FM7 : hr_fr hW_X11_holds M M7 := hr_fr.tr (hr_fr.rf _ M) (hr_fr.mono (W := hW_X11_size) rfl (fr_X11_size ((M.1 289 a2.toNatClampNeg) - (M.1 289 (3 + a2).toNatClampNeg)) _ _ e))
      refine hr_Fi h (fun _ h => ?_) (fun _ h => ?_)
      · cases h
        exact FM7
      · cases h
        exact FM7
    · refine hr_Fi h (fun _ h => ?_) (fun _ h => ?_)
      · refine hr_Fg h (fun _ h => ?_)
        refine hr_Fg h (fun _ h => ?_)
        refine hr_Fi h (fun _ h => ?_) (fun _ h => ?_)
        · refine hr_Fg h (fun _ h => ?_)
          refine hr_Fi h (fun _ h => ?_) (fun _ h => ?_)
          · cases h
            exact (hr_fr.rf _ M)
          · cases h
            exact (hr_fr.rf _ M)
        · cases h
          exact (hr_fr.rf _ M)
      · refine hr_Fi h (fun _ h => ?_) (fun _ h => ?_)
        · cases h
          exact (hr_fr.rf _ M)
        · refine hr_Fi h (fun _ h => ?_) (fun _ h => ?_)
          · refine hr_Fg h (fun _ h => ?_)
            refine hr_Fg h (fun _ h => ?_)
            refine hr_Fi h (fun _ h => ?_) (fun _ h => ?_)
            · cases h
              exact (hr_fr.rf _ M)
            · cases h
              exact (hr_fr.rf _ M)
          · cases h
            exact (hr_fr.rf _ M)
def hW_X11_strengthOf : List (Nat × Nat) := []
theorem fr_X11_strengthOf_116 (a1 : Int32) (a2 : Int32) (k8 : Int32 → Int32 → Int32 → PM → Option (Int32 × PM)) (x3 : Int32) (x5 : Int32) (x6 : Int32) (x9 : Int32) (s0 : Int32) (hk8 : ∀ (y0 : Int32) (y1 : Int32) (y2 : Int32) (M : PM) (r : Int32 × PM), k8 y0 y1 y2 M = some r → hr_fr hW_X11_strengthOf M r.2) : ∀ (M : PM) (r : Int32 × PM), f_X11_strengthOf_116 a1 a2 k8 x3 x5 x6 x9 s0 M = some r → hr_fr hW_X11_strengthOf M r.2 := by
  intro M r h
  unfold f_X11_strengthOf_116 at h
  refine hr_Fi h (fun _ h => ?_) (fun _ h => ?_)
  · exact hr_fr.tr (hr_fr.rf _ M) (hk8 (x3 + 0) s0 (x5 + 1) _ _ h)
  · refine hr_Fi h (fun _ h => ?_) (fun _ h => ?_)
    · exact hr_fr.tr (hr_fr.rf _ M) (hk8 (x3 + 0) s0 (x5 + 1) _ _ h)
    · exact hr_fr.tr (hr_fr.rf _ M) (hk8 (x3 + 1) s0 (x5 + 1) _ _ h)
theorem fr_X11_strengthOf_93 (a1 : Int32) (a2 : Int32) (k8 : Int32 → Int32 → Int32 → PM → Option (Int32 × PM)) (x3 : Int32) (x4 : Int32) (x5 : Int32) (x6 : Int32) (s0 : Int32) (hk8 : ∀ (y0 : Int32) (y1 : Int32) (y2 : Int32) (M : PM) (r : Int32 × PM), k8 y0 y1 y2 M = some r → hr_fr hW_X11_strengthOf M r.2) : ∀ (M : PM) (r : Int32 × PM), f_X11_strengthOf_93 a1 a2 k8 x3 x4 x5 x6 s0 M = some r → hr_fr hW_X11_strengthOf M r.2 := by
  intro M r h
  unfold f_X11_strengthOf_93 at h
  refine hr_Fi h (fun _ h => ?_) (fun _ h => ?_)
  · refine hr_Fi h (fun _ h => ?_) (fun _ h => ?_)
    · exact hr_fr.tr (hr_fr.rf _ M) (fr_X11_strengthOf_116 a1 a2 k8 x3 x5 x6 s0 0 hk8 _ _ h)
    · refine hr_Fi h (fun _ h => ?_) (fun _ h => ?_)
      · exact hr_fr.tr (hr_fr.rf _ M) (fr_X11_strengthOf_116 a1 a2 k8 x3 x5 x6 s0 1 hk8 _ _ h)
      · exact hr_fr.tr (hr_fr.rf _ M) (fr_X11_strengthOf_116 a1 a2 k8 x3 x5 x6 s0 0 hk8 _ _ h)
  · exact hr_fr.tr (hr_fr.rf _ M) (fr_X11_strengthOf_116 a1 a2 k8 x3 x5 x6 s0 1 hk8 _ _ h)
theorem fr_X11_strengthOf_63 (a1 : Int32) (a2 : Int32) (k8 : Int32 → Int32 → Int32 → PM → Option (Int32 × PM)) (x3 : Int32) (x4 : Int32) (x5 : Int32) (x6 : Int32) (x7 : Int32) (x8 : Int32) (hk8 : ∀ (y0 : Int32) (y1 : Int32) (y2 : Int32) (M : PM) (r : Int32 × PM), k8 y0 y1 y2 M = some r → hr_fr hW_X11_strengthOf M r.2) : ∀ (M : PM) (r : Int32 × PM), f_X11_strengthOf_63 a1 a2 k8 x3 x4 x5 x6 x7 x8 M = some r → hr_fr hW_X11_strengthOf M r.2 := by
  intro M r h
  unfold f_X11_strengthOf_63 at h
  refine hr_Fi h (fun _ h => ?_) (fun _ h => ?_)
  · refine hr_Fi h (fun _ h => ?_) (fun _ h => ?_)
    · exact hr_fr.tr (hr_fr.rf _ M) (fr_X11_strengthOf_93 a1 a2 k8 x3 x4 x5 x6 1 hk8 _ _ h)
    · exact hr_fr.tr (hr_fr.rf _ M) (fr_X11_strengthOf_93 a1 a2 k8 x3 x4 x5 x6 0 hk8 _ _ h)
  · exact hr_fr.tr (hr_fr.rf _ M) (fr_X11_strengthOf_93 a1 a2 k8 x3 x4 x5 x6 0 hk8 _ _ h)
theorem fr_X11_strengthOf_8 (a1 : Int32) (a2 : Int32) : ∀ (f : Nat) (x3 : Int32) (x4 : Int32) (x5 : Int32) (M : PM) (r : Int32 × PM), f_X11_strengthOf_8 a1 a2 f x3 x4 x5 M = some r → hr_fr hW_X11_strengthOf M r.2 := by
  intro f
  induction f with
  | zero => intro x3 x4 x5 M r h; cases h
  | succ f ih =>
    intro x3 x4 x5 M r h
    rw [f_X11_strengthOf_8.eq_2] at h
    refine hr_Fb h (fun v2 M2 e h => ?_)
    have FM2 : hr_fr hW_X11_strengthOf M M2 := hr_fr.tr (hr_fr.rf _ M) (hr_fr.mono (W := hW_X11_of) rfl (fr_X11_of 1 _ _ e))
    refine hr_Fi h (fun _ h => ?_) (fun _ h => ?_)
    · refine hr_Fi h (fun _ h => ?_) (fun _ h => ?_)
      · cases h
        exact FM2
      · cases h
        exact FM2
    · refine hr_Fb h (fun v8 M8 e h => ?_)
      have FM8 : hr_fr hW_X11_strengthOf M M8 := hr_fr.tr FM2 (hr_fr.mono (W := hW_X11_ruleOf) rfl (fr_X11_ruleOf x5 0 _ _ e))
      refine hr_Fb h (fun v10 M10 e h => ?_)
      have FM10 : hr_fr hW_X11_strengthOf M M10 := hr_fr.tr FM8 (hr_fr.mono (W := hW_X11_ruleOf) rfl (fr_X11_ruleOf x5 1 _ _ e))
      refine hr_Fb h (fun v12 M12 e h => ?_)
      have FM12 : hr_fr hW_X11_strengthOf M M12 := hr_fr.tr FM10 (hr_fr.mono (W := hW_X11_ruleOf) rfl (fr_X11_ruleOf x5 2 _ _ e))
      refine hr_Fi h (fun _ h => ?_) (fun _ h => ?_)
      · refine hr_Fi h (fun _ h => ?_) (fun _ h => ?_)
        · refine hr_Fi h (fun _ h => ?_) (fun _ h => ?_)
          · exact hr_fr.tr FM12 (fr_X11_strengthOf_93 a1 a2 (fun x3 x4 x5 M => f_X11_strengthOf_8 a1 a2 f x3 x4 x5 M) x3 x4 x5 v8 1 (fun x3 x4 x5 M r h => ih x3 x4 x5 M r h) _ _ h)
          · exact hr_fr.tr FM12 (fr_X11_strengthOf_63 a1 a2 (fun x3 x4 x5 M => f_X11_strengthOf_8 a1 a2 f x3 x4 x5 M) x3 x4 x5 v8 v10 v12 (fun x3 x4 x5 M r h => ih x3 x4 x5 M r h) _ _ h)
        · exact hr_fr.tr FM12 (fr_X11_strengthOf_63 a1 a2 (fun x3 x4 x5 M => f_X11_strengthOf_8 a1 a2 f x3 x4 x5 M) x3 x4 x5 v8 v10 v12 (fun x3 x4 x5 M r h => ih x3 x4 x5 M r h) _ _ h)
      · refine hr_Fb h (fun v18 M18 e h => ?_)
        have FM18 : hr_fr hW_X11_strengthOf M M18 := hr_fr.tr FM12 (hr_fr.mono (W := hW_X11_holds) rfl (fr_X11_holds v8 v10 v12 _ _ e))
        exact hr_fr.tr FM18 (fr_X11_strengthOf_93 a1 a2 (fun x3 x4 x5 M => f_X11_strengthOf_8 a1 a2 f x3 x4 x5 M) x3 x4 x5 v8 v18 (fun x3 x4 x5 M r h => ih x3 x4 x5 M r h) _ _ h)
theorem fr_X11_strengthOf (a1 : Int32) (a2 : Int32) : ∀ (M : PM) (r : Int32 × PM), f_X11_strengthOf a1 a2 M = some r → hr_fr hW_X11_strengthOf M r.2 := by
  intro M r h
  unfold f_X11_strengthOf at h
  exact hr_fr.tr (hr_fr.rf _ M) (fr_X11_strengthOf_8 a1 a2 FU 0 0 0 _ _ h)
def hW_X11_hand : List (Nat × Nat) := [(275, 25), (275, 26), (288, 0), (289, 0)]
theorem fr_X11_hand_37 (a1 : Int32) (k27 : Int32 → PM → Option (Int32 × PM)) (hk27 : ∀ (y0 : Int32) (M : PM) (r : Int32 × PM), k27 y0 M = some r → hr_fr hW_X11_hand M r.2) : ∀ (f : Nat) (x2 : Int32) (x3 : Int32) (M : PM) (r : Int32 × PM), f_X11_hand_37 a1 k27 f x2 x3 M = some r → hr_fr hW_X11_hand M r.2 := by
  intro f
  induction f with
  | zero => intro x2 x3 M r h; cases h
  | succ f ih =>
    intro x2 x3 M r h
    rw [f_X11_hand_37.eq_2] at h
    refine hr_Fi h (fun _ h => ?_) (fun _ h => ?_)
    · exact hr_fr.tr (hr_fr.rf _ M) (hk27 (x2 + 1) _ _ h)
    · refine hr_Fb h (fun v4 M4 e h => ?_)
      have FM4 : hr_fr hW_X11_hand M M4 := hr_fr.tr (hr_fr.rf _ M) (hr_fr.mono (W := hW_X11_layHue) rfl (fr_X11_layHue 0 x2 _ _ e))
      refine hr_Fb h (fun v6 M6 e h => ?_)
      have FM6 : hr_fr hW_X11_hand M M6 := hr_fr.tr FM4 (hr_fr.mono (W := hW_X11_layHue) rfl (fr_X11_layHue 3 x3 _ _ e))
      refine hr_Fi h (fun _ h => ?_) (fun _ h => ?_)
      · refine hr_Fg h (fun _ h => ?_)
        exact hr_fr.tr (hr_fr.si rfl FM6) (ih x2 (x3 + 1) _ _ h)
      · refine hr_Fb h (fun v11 M11 e h => ?_)
        have FM11 : hr_fr hW_X11_hand M M11 := hr_fr.tr FM6 (hr_fr.mono (W := hW_X11_strengthOf) rfl (fr_X11_strengthOf x2 x3 _ _ e))
        refine hr_Fg h (fun _ h => ?_)
        exact hr_fr.tr (hr_fr.si rfl FM11) (ih x2 (x3 + 1) _ _ h)
theorem fr_X11_hand_27 (a1 : Int32) : ∀ (f : Nat) (x2 : Int32) (M : PM) (r : Int32 × PM), f_X11_hand_27 a1 f x2 M = some r → hr_fr hW_X11_hand M r.2 := by
  intro f
  induction f with
  | zero => intro x2 M r h; cases h
  | succ f ih =>
    intro x2 M r h
    rw [f_X11_hand_27.eq_2] at h
    refine hr_Fi h (fun _ h => ?_) (fun _ h => ?_)
    · cases h
      exact (hr_fr.rf _ M)
    · exact hr_fr.tr (hr_fr.rf _ M) (fr_X11_hand_37 a1 (fun x2 M => f_X11_hand_27 a1 f x2 M) (fun x2 M r h => ih x2 M r h) FU x2 0 _ _ h)
theorem fr_X11_hand (a1 : Int32) : ∀ (M : PM) (r : Int32 × PM), f_X11_hand a1 M = some r → hr_fr hW_X11_hand M r.2 := by
  intro M r h
  unfold f_X11_hand at h
  refine hr_Fb h (fun v2 M2 e h => ?_)
  have FM2 : hr_fr hW_X11_hand M M2 := hr_fr.tr (hr_fr.rf _ M) (hr_fr.mono (W := hW_X11_is) rfl (fr_X11_is 0 a1 _ _ e))
  refine hr_Fi h (fun _ h => ?_) (fun _ h => ?_)
  · cases h
    exact FM2
  · refine hr_Fb h (fun v6 M6 e h => ?_)
    have FM6 : hr_fr hW_X11_hand M M6 := hr_fr.tr (hr_fr.si rfl FM2) (hr_fr.mono (W := hW_X11_of) rfl (fr_X11_of 0 _ _ e))
    exact hr_fr.tr (hr_fr.si rfl FM6) (fr_X11_hand_27 a1 FU 0 _ _ h)
def hW_X11_isHue : List (Nat × Nat) := []
theorem fr_X11_isHue (a1 : Int32) : ∀ (M : PM) (r : Int32 × PM), f_X11_isHue a1 M = some r → hr_fr hW_X11_isHue M r.2 := by
  intro M r h
  unfold f_X11_isHue at h
  refine hr_Fb h (fun v2 M2 e h => ?_)
  have FM2 : hr_fr hW_X11_isHue M M2 := hr_fr.tr (hr_fr.rf _ M) (hr_fr.mono (W := hW_X11_in) rfl (fr_X11_in a1 0 ((M.1 275 25) - 1) _ _ e))
  refine hr_Fg h (fun _ h => ?_)
  cases h
  exact FM2
def hW_X11_clash : List (Nat × Nat) := []
theorem fr_X11_clash (a1 : Int32) (a2 : Int32) : ∀ (M : PM) (r : Int32 × PM), f_X11_clash a1 a2 M = some r → hr_fr hW_X11_clash M r.2 := by
  intro M r h
  unfold f_X11_clash at h
  refine hr_Fg h (fun _ h => ?_)
  refine hr_Fi h (fun _ h => ?_) (fun _ h => ?_)
  · cases h
    exact (hr_fr.rf _ M)
  · cases h
    exact (hr_fr.rf _ M)
def hW_X11_mindsColour : List (Nat × Nat) := [(289, 0)]
theorem fr_X11_mindsColour (a1 : Int32) (a2 : Int32) : ∀ (M : PM) (r : Int32 × PM), f_X11_mindsColour a1 a2 M = some r → hr_fr hW_X11_mindsColour M r.2 := by
  intro M r h
  unfold f_X11_mindsColour at h
  refine hr_Fb h (fun v2 M2 e h => ?_)
  have FM2 : hr_fr hW_X11_mindsColour M M2 := hr_fr.tr (hr_fr.rf _ M) (hr_fr.mono (W := hW_X11_layHue) rfl (fr_X11_layHue 0 a1 _ _ e))
  refine hr_Fb h (fun v4 M4 e h => ?_)
  have FM4 : hr_fr hW_X11_mindsColour M M4 := hr_fr.tr FM2 (hr_fr.mono (W := hW_X11_layColour) rfl (fr_X11_layColour 3 a2 _ _ e))
  refine hr_Fb h (fun v6 M6 e h => ?_)
  have FM6 : hr_fr hW_X11_mindsColour M M6 := hr_fr.tr FM4 (hr_fr.mono (W := hW_X11_strengthOf) rfl (fr_X11_strengthOf (-1) (-1) _ _ e))
  cases h
  exact FM6
def hW_X11_isBorne : List (Nat × Nat) := [(289, 0)]
theorem fr_X11_isBorne_2 (a1 : Int32) (a2 : Int32) : ∀ (f : Nat) (x3 : Int32) (M : PM) (r : Int32 × PM), f_X11_isBorne_2 a1 a2 f x3 M = some r → hr_fr hW_X11_isBorne M r.2 := by
  intro f
  induction f with
  | zero => intro x3 M r h; cases h
  | succ f ih =>
    intro x3 M r h
    rw [f_X11_isBorne_2.eq_2] at h
    refine hr_Fi h (fun _ h => ?_) (fun _ h => ?_)
    · cases h
      exact (hr_fr.rf _ M)
    · refine hr_Fb h (fun v4 M4 e h => ?_)
      have FM4 : hr_fr hW_X11_isBorne M M4 := hr_fr.tr (hr_fr.rf _ M) (hr_fr.mono (W := hW_X11_has) rfl (fr_X11_has a2 x3 _ _ e))
      refine hr_Fi h (fun _ h => ?_) (fun _ h => ?_)
      · exact hr_fr.tr FM4 (ih (x3 + 1) _ _ h)
      · refine hr_Fb h (fun v8 M8 e h => ?_)
        have FM8 : hr_fr hW_X11_isBorne M M8 := hr_fr.tr FM4 (hr_fr.mono (W := hW_X11_mindsColour) rfl (fr_X11_mindsColour x3 a1 _ _ e))
        refine hr_Fi h (fun _ h => ?_) (fun _ h => ?_)
        · exact hr_fr.tr FM8 (ih (x3 + 1) _ _ h)
        · cases h
          exact FM8
theorem fr_X11_isBorne (a1 : Int32) (a2 : Int32) : ∀ (M : PM) (r : Int32 × PM), f_X11_isBorne a1 a2 M = some r → hr_fr hW_X11_isBorne M r.2 := by
  intro M r h
  unfold f_X11_isBorne at h
  exact hr_fr.tr (hr_fr.rf _ M) (fr_X11_isBorne_2 a1 a2 FU 0 _ _ h)
def hW_X11_clashes : List (Nat × Nat) := []
theorem fr_X11_clashes_4 (a1 : Int32) : ∀ (f : Nat) (x2 : Int32) (x3 : Int32) (M : PM) (r : Int32 × PM), f_X11_clashes_4 a1 f x2 x3 M = some r → hr_fr hW_X11_clashes M r.2 := by
  intro f
  induction f with
  | zero => intro x2 x3 M r h; cases h
  | succ f ih =>
    intro x2 x3 M r h
    rw [f_X11_clashes_4.eq_2] at h
    refine hr_Fi h (fun _ h => ?_) (fun _ h => ?_)
    · cases h
      exact (hr_fr.rf _ M)
    · refine hr_Fb h (fun v4 M4 e h => ?_)
      have FM4 : hr_fr hW_X11_clashes M M4 := hr_fr.tr (hr_fr.rf _ M) (hr_fr.mono (W := hW_X11_clash) rfl (fr_X11_clash a1 x3 _ _ e))
      refine hr_Fi h (fun _ h => ?_) (fun _ h => ?_)
      · exact hr_fr.tr FM4 (ih (x2 + 0) (x3 + 1) _ _ h)
      · exact hr_fr.tr FM4 (ih (x2 + 1) (x3 + 1) _ _ h)
theorem fr_X11_clashes (a1 : Int32) : ∀ (M : PM) (r : Int32 × PM), f_X11_clashes a1 M = some r → hr_fr hW_X11_clashes M r.2 := by
  intro M r h
  unfold f_X11_clashes at h
  exact hr_fr.tr (hr_fr.rf _ M) (fr_X11_clashes_4 a1 FU 0 0 _ _ h)
def hW_X11_meek : List (Nat × Nat) := []
theorem fr_X11_meek_4  : ∀ (f : Nat) (x1 : Int32) (x2 : Int32) (M : PM) (r : Int32 × PM), f_X11_meek_4 f x1 x2 M = some r → hr_fr hW_X11_meek M r.2 := by
  intro f
  induction f with
  | zero => intro x1 x2 M r h; cases h
  | succ f ih =>
    intro x1 x2 M r h
    rw [f_X11_meek_4.eq_2] at h
    refine hr_Fi h (fun _ h => ?_) (fun _ h => ?_)
    · cases h
      exact (hr_fr.rf _ M)
    · refine hr_Fb h (fun v4 M4 e h => ?_)
      have FM4 : hr_fr hW_X11_meek M M4 := hr_fr.tr (hr_fr.rf _ M) (hr_fr.mono (W := hW_X11_clashes) rfl (fr_X11_clashes x2 _ _ e))
      refine hr_Fi h (fun _ h => ?_) (fun _ h => ?_)
      · exact hr_fr.tr FM4 (ih (x1 ||| (jl 1 x2)) (x2 + 1) _ _ h)
      · exact hr_fr.tr FM4 (ih (x1 ||| 0) (x2 + 1) _ _ h)
theorem fr_X11_meek  : ∀ (M : PM) (r : Int32 × PM), f_X11_meek M = some r → hr_fr hW_X11_meek M r.2 := by
  intro M r h
  unfold f_X11_meek at h
  exact hr_fr.tr (hr_fr.rf _ M) (fr_X11_meek_4 FU 0 0 _ _ h)
def hW_X11_fierce : List (Nat × Nat) := []
theorem fr_X11_fierce_4  : ∀ (f : Nat) (x1 : Int32) (x2 : Int32) (M : PM) (r : Int32 × PM), f_X11_fierce_4 f x1 x2 M = some r → hr_fr hW_X11_fierce M r.2 := by
  intro f
  induction f with
  | zero => intro x1 x2 M r h; cases h
  | succ f ih =>
    intro x1 x2 M r h
    rw [f_X11_fierce_4.eq_2] at h
    refine hr_Fi h (fun _ h => ?_) (fun _ h => ?_)
    · cases h
      exact (hr_fr.rf _ M)
    · refine hr_Fi h (fun _ h => ?_) (fun _ h => ?_)
      · exact hr_fr.tr (hr_fr.rf _ M) (ih x2 (x2 + 1) _ _ h)
      · refine hr_Fb h (fun v7 M7 e h => ?_)
        have FM7 : hr_fr hW_X11_fierce M M7 := hr_fr.tr (hr_fr.rf _ M) (hr_fr.mono (W := hW_X11_clashes) rfl (fr_X11_clashes x2 _ _ e))
        refine hr_Fb h (fun v9 M9 e h => ?_)
        have FM9 : hr_fr hW_X11_fierce M M9 := hr_fr.tr FM7 (hr_fr.mono (W := hW_X11_clashes) rfl (fr_X11_clashes x1 _ _ e))
        refine hr_Fi h (fun _ h => ?_) (fun _ h => ?_)
        · exact hr_fr.tr FM9 (ih x1 (x2 + 1) _ _ h)
        · exact hr_fr.tr FM9 (ih x2 (x2 + 1) _ _ h)
theorem fr_X11_fierce  : ∀ (M : PM) (r : Int32 × PM), f_X11_fierce M = some r → hr_fr hW_X11_fierce M r.2 := by
  intro M r h
  unfold f_X11_fierce at h
  exact hr_fr.tr (hr_fr.rf _ M) (fr_X11_fierce_4 FU (-1) 0 _ _ h)
def hW_X11_partsOf : List (Nat × Nat) := []
theorem fr_X11_partsOf (a0 : Int32) : ∀ (M : PM) (r : Int32 × PM), f_X11_partsOf a0 M = some r → hr_fr hW_X11_partsOf M r.2 := by
  intro M r h
  unfold f_X11_partsOf at h
  cases h
  exact (hr_fr.rf _ M)
def hW_X11_dot : List (Nat × Nat) := [(289, 0)]
theorem fr_X11_dot_27 (k4 : Int32 → Int32 → PM → Option (Int32 × PM)) (x1 : Int32) (x2 : Int32) (hk4 : ∀ (y0 : Int32) (y1 : Int32) (M : PM) (r : Int32 × PM), k4 y0 y1 M = some r → hr_fr hW_X11_dot M r.2) : ∀ (M : PM) (r : Int32 × PM), f_X11_dot_27 k4 x1 x2 M = some r → hr_fr hW_X11_dot M r.2 := by
  intro M r h
  unfold f_X11_dot_27 at h
  refine hr_Fb h (fun v2 M2 e h => ?_)
  have FM2 : hr_fr hW_X11_dot M M2 := hr_fr.tr (hr_fr.rf _ M) (hr_fr.mono (W := hW_X11_isBorne) rfl (fr_X11_isBorne x2 1023 _ _ e))
  refine hr_Fi h (fun _ h => ?_) (fun _ h => ?_)
  · exact hr_fr.tr FM2 (hk4 x1 (x2 + 1) _ _ h)
  · exact hr_fr.tr FM2 (hk4 x2 (x2 + 1) _ _ h)
theorem fr_X11_dot_4  : ∀ (f : Nat) (x1 : Int32) (x2 : Int32) (M : PM) (r : Int32 × PM), f_X11_dot_4 f x1 x2 M = some r → hr_fr hW_X11_dot M r.2 := by
  intro f
  induction f with
  | zero => intro x1 x2 M r h; cases h
  | succ f ih =>
    intro x1 x2 M r h
    rw [f_X11_dot_4.eq_2] at h
    refine hr_Fi h (fun _ h => ?_) (fun _ h => ?_)
    · cases h
      exact (hr_fr.rf _ M)
    · refine hr_Fi h (fun _ h => ?_) (fun _ h => ?_)
      · exact hr_fr.tr (hr_fr.rf _ M) (fr_X11_dot_27 (fun x1 x2 M => f_X11_dot_4 f x1 x2 M) x1 x2 (fun x1 x2 M r h => ih x1 x2 M r h) _ _ h)
      · refine hr_Fb h (fun v5 M5 e h => ?_)
        have FM5 : hr_fr hW_X11_dot M M5 := hr_fr.tr (hr_fr.rf _ M) (hr_fr.mono (W := hW_X11_partsOf) rfl (fr_X11_partsOf x2 _ _ e))
        refine hr_Fb h (fun v7 M7 e h => ?_)
        have FM7 : hr_fr hW_X11_dot M M7 := hr_fr.tr FM5 (hr_fr.mono (W := hW_X11_partsOf) rfl (fr_X11_partsOf x1 _ _ e))
        refine hr_Fi h (fun _ h => ?_) (fun _ h => ?_)
        · exact hr_fr.tr FM7 (ih x1 (x2 + 1) _ _ h)
        · exact hr_fr.tr FM7 (fr_X11_dot_27 (fun x1 x2 M => f_X11_dot_4 f x1 x2 M) x1 x2 (fun x1 x2 M r h => ih x1 x2 M r h) _ _ h)
theorem fr_X11_dot  : ∀ (M : PM) (r : Int32 × PM), f_X11_dot M = some r → hr_fr hW_X11_dot M r.2 := by
  intro M r h
  unfold f_X11_dot at h
  exact hr_fr.tr (hr_fr.rf _ M) (fr_X11_dot_4 FU (-1) 0 _ _ h)
def hW_X11_palette : List (Nat × Nat) := [(275, 1), (275, 25), (275, 26), (288, 0), (289, 0)]
theorem fr_X11_palette (a1 : Int32) (a2 : Int32) : ∀ (M : PM) (r : Int32 × PM), f_X11_palette a1 a2 M = some r → hr_fr hW_X11_palette M r.2 := by
  intro M r h
  unfold f_X11_palette at h
  refine hr_Fb h (fun v2 M2 e h => ?_)
  have FM2 : hr_fr hW_X11_palette M M2 := hr_fr.tr (hr_fr.si rfl (hr_fr.rf _ M)) (hr_fr.mono (W := hW_X11_hand) rfl (fr_X11_hand a1 _ _ e))
  refine hr_Fi h (fun _ h => ?_) (fun _ h => ?_)
  · cases h
    exact FM2
  · refine hr_Fb h (fun v6 M6 e h => ?_)
    have FM6 : hr_fr hW_X11_palette M M6 := hr_fr.tr FM2 (hr_fr.mono (W := hW_X11_in) rfl (fr_X11_in a2 100 199 _ _ e))
    refine hr_Fi h (fun _ h => ?_) (fun _ h => ?_)
    · refine hr_Fb h (fun v9 M9 e h => ?_)
      have FM9 : hr_fr hW_X11_palette M M9 := hr_fr.tr FM6 (hr_fr.mono (W := hW_X11_in) rfl (fr_X11_in a2 200 219 _ _ e))
      refine hr_Fi h (fun _ h => ?_) (fun _ h => ?_)
      · refine hr_Fi h (fun _ h => ?_) (fun _ h => ?_)
        · cases h
          exact FM9
        · refine hr_Fi h (fun _ h => ?_) (fun _ h => ?_)
          · refine hr_Fb h (fun v15 M15 e h => ?_)
            have FM15 : hr_fr hW_X11_palette M M15 := hr_fr.tr FM9 (hr_fr.mono (W := hW_X11_of) rfl (fr_X11_of 1 _ _ e))
            cases h
            exact FM15
          · refine hr_Fi h (fun _ h => ?_) (fun _ h => ?_)
            · refine hr_Fb h (fun v19 M19 e h => ?_)
              have FM19 : hr_fr hW_X11_palette M M19 := hr_fr.tr FM9 (hr_fr.mono (W := hW_X11_meek) rfl (fr_X11_meek  _ _ e))
              cases h
              exact FM19
            · refine hr_Fi h (fun _ h => ?_) (fun _ h => ?_)
              · refine hr_Fb h (fun v23 M23 e h => ?_)
                have FM23 : hr_fr hW_X11_palette M M23 := hr_fr.tr FM9 (hr_fr.mono (W := hW_X11_fierce) rfl (fr_X11_fierce  _ _ e))
                cases h
                exact FM23
              · refine hr_Fi h (fun _ h => ?_) (fun _ h => ?_)
                · refine hr_Fb h (fun v27 M27 e h => ?_)
                  have FM27 : hr_fr hW_X11_palette M M27 := hr_fr.tr FM9 (hr_fr.mono (W := hW_X11_dot) rfl (fr_X11_dot  _ _ e))
                  cases h
                  exact FM27
                · cases h
                  exact FM9
      · refine hr_Fb h (fun v31 M31 e h => ?_)
        have FM31 : hr_fr hW_X11_palette M M31 := hr_fr.tr FM9 (hr_fr.mono (W := hW_X11_isHue) rfl (fr_X11_isHue (jr a2 10) _ _ e))
        refine hr_Fi h (fun _ h => ?_) (fun _ h => ?_)
        · cases h
          exact FM31
        · refine hr_Fb h (fun v35 M35 e h => ?_)
          have FM35 : hr_fr hW_X11_palette M M35 := hr_fr.tr FM31 (hr_fr.mono (W := hW_X11_of) rfl (fr_X11_of ((50 + a2) - 200) _ _ e))
          cases h
          exact FM35
    · refine hr_Fb h (fun v38 M38 e h => ?_)
      have FM38 : hr_fr hW_X11_palette M M38 := hr_fr.tr FM6 (hr_fr.mono (W := hW_X11_isHue) rfl (fr_X11_isHue ((a2 - 100) / 10) _ _ e))
      refine hr_Fi h (fun _ h => ?_) (fun _ h => ?_)
      · cases h
        exact FM38
      · refine hr_Fi h (fun _ h => ?_) (fun _ h => ?_)
        · cases h
          exact FM38
        · refine hr_Fb h (fun v44 M44 e h => ?_)
          have FM44 : hr_fr hW_X11_palette M M44 := hr_fr.tr FM38 (hr_fr.mono (W := hW_X11_part) rfl (fr_X11_part ((a2 - 100) / 10) (jr a2 10) _ _ e))
          cases h
          exact FM44
def hW_X11_rule : List (Nat × Nat) := [(275, 1), (275, 25), (275, 26), (288, 0), (289, 0)]
theorem fr_X11_rule (a1 : Int32) (a2 : Int32) (a3 : Int32) : ∀ (M : PM) (r : Int32 × PM), f_X11_rule a1 a2 a3 M = some r → hr_fr hW_X11_rule M r.2 := by
  intro M r h
  unfold f_X11_rule at h
  refine hr_Fb h (fun v2 M2 e h => ?_)
  have FM2 : hr_fr hW_X11_rule M M2 := hr_fr.tr (hr_fr.si rfl (hr_fr.rf _ M)) (hr_fr.mono (W := hW_X11_hand) rfl (fr_X11_hand a1 _ _ e))
  refine hr_Fi h (fun _ h => ?_) (fun _ h => ?_)
  · cases h
    exact FM2
  · refine hr_Fb h (fun v6 M6 e h => ?_)
    have FM6 : hr_fr hW_X11_rule M M6 := hr_fr.tr FM2 (hr_fr.mono (W := hW_X11_of) rfl (fr_X11_of 1 _ _ e))
    refine hr_Fb h (fun v8 M8 e h => ?_)
    have FM8 : hr_fr hW_X11_rule M M8 := hr_fr.tr FM6 (hr_fr.mono (W := hW_X11_in) rfl (fr_X11_in a2 0 (v6 - 1) _ _ e))
    refine hr_Fi h (fun _ h => ?_) (fun _ h => ?_)
    · cases h
      exact FM8
    · refine hr_Fb h (fun v12 M12 e h => ?_)
      have FM12 : hr_fr hW_X11_rule M M12 := hr_fr.tr FM8 (hr_fr.mono (W := hW_X11_in) rfl (fr_X11_in a3 0 2 _ _ e))
      refine hr_Fi h (fun _ h => ?_) (fun _ h => ?_)
      · cases h
        exact FM12
      · refine hr_Fb h (fun v16 M16 e h => ?_)
        have FM16 : hr_fr hW_X11_rule M M16 := hr_fr.tr FM12 (hr_fr.mono (W := hW_X11_ruleOf) rfl (fr_X11_ruleOf a2 a3 _ _ e))
        cases h
        exact FM16
def hW_X11_strength : List (Nat × Nat) := [(275, 1), (275, 25), (275, 26), (288, 0), (289, 0)]
theorem fr_X11_strength (a1 : Int32) (a2 : Int32) (a3 : Int32) : ∀ (M : PM) (r : Int32 × PM), f_X11_strength a1 a2 a3 M = some r → hr_fr hW_X11_strength M r.2 := by
  intro M r h
  unfold f_X11_strength at h
  refine hr_Fb h (fun v2 M2 e h => ?_)
  have FM2 : hr_fr hW_X11_strength M M2 := hr_fr.tr (hr_fr.si rfl (hr_fr.rf _ M)) (hr_fr.mono (W := hW_X11_hand) rfl (fr_X11_hand a1 _ _ e))
  refine hr_Fi h (fun _ h => ?_) (fun _ h => ?_)
  · cases h
    exact FM2
  · refine hr_Fb h (fun v6 M6 e h => ?_)
    have FM6 : hr_fr hW_X11_strength M M6 := hr_fr.tr FM2 (hr_fr.mono (W := hW_X11_isHue) rfl (fr_X11_isHue a2 _ _ e))
    refine hr_Fi h (fun _ h => ?_) (fun _ h => ?_)
    · cases h
      exact FM6
    · refine hr_Fb h (fun v10 M10 e h => ?_)
      have FM10 : hr_fr hW_X11_strength M M10 := hr_fr.tr FM6 (hr_fr.mono (W := hW_X11_isHue) rfl (fr_X11_isHue a3 _ _ e))
      refine hr_Fi h (fun _ h => ?_) (fun _ h => ?_)
      · cases h
        exact FM10
      · refine hr_Fg h (fun _ h => ?_)
        cases h
        exact FM10
def hW_X11_minds : List (Nat × Nat) := [(275, 1), (275, 25), (275, 26), (288, 0), (289, 0)]
theorem fr_X11_minds (a1 : Int32) (a2 : Int32) (a3 : Int32) (a4 : Int32) (a5 : Int32) : ∀ (M : PM) (r : Int32 × PM), f_X11_minds a1 a2 a3 a4 a5 M = some r → hr_fr hW_X11_minds M r.2 := by
  intro M r h
  unfold f_X11_minds at h
  refine hr_Fb h (fun v2 M2 e h => ?_)
  have FM2 : hr_fr hW_X11_minds M M2 := hr_fr.tr (hr_fr.si rfl (hr_fr.rf _ M)) (hr_fr.mono (W := hW_X11_hand) rfl (fr_X11_hand a1 _ _ e))
  refine hr_Fi h (fun _ h => ?_) (fun _ h => ?_)
  · cases h
    exact FM2
  · refine hr_Fb h (fun v6 M6 e h => ?_)
    have FM6 : hr_fr hW_X11_minds M M6 := hr_fr.tr FM2 (hr_fr.mono (W := hW_X11_isHue) rfl (fr_X11_isHue a2 _ _ e))
    refine hr_Fi h (fun _ h => ?_) (fun _ h => ?_)
    · cases h
      exact FM6
    · refine hr_Fb h (fun v10 M10 e h => ?_)
      have FM10 : hr_fr hW_X11_minds M M10 := hr_fr.tr FM6 (hr_fr.mono (W := hW_X11_in) rfl (fr_X11_in a3 0 9 _ _ e))
      refine hr_Fi h (fun _ h => ?_) (fun _ h => ?_)
      · cases h
        exact FM10
      · refine hr_Fb h (fun v14 M14 e h => ?_)
        have FM14 : hr_fr hW_X11_minds M M14 := hr_fr.tr FM10 (hr_fr.mono (W := hW_X11_in) rfl (fr_X11_in a4 0 9 _ _ e))
        refine hr_Fi h (fun _ h => ?_) (fun _ h => ?_)
        · cases h
          exact FM14
        · refine hr_Fb h (fun v18 M18 e h => ?_)
          have FM18 : hr_fr hW_X11_minds M M18 := hr_fr.tr FM14 (hr_fr.mono (W := hW_X11_in) rfl (fr_X11_in a5 0 9 _ _ e))
          refine hr_Fi h (fun _ h => ?_) (fun _ h => ?_)
          · cases h
            exact FM18
          · refine hr_Fb h (fun v22 M22 e h => ?_)
            have FM22 : hr_fr hW_X11_minds M M22 := hr_fr.tr FM18 (hr_fr.mono (W := hW_X11_mindsColour) rfl (fr_X11_mindsColour a2 (((100 * a3) + (10 * a4)) + a5) _ _ e))
            cases h
            exact FM22
def hW_X11_pictures : List (Nat × Nat) := []
theorem fr_X11_pictures  : ∀ (M : PM) (r : Int32 × PM), f_X11_pictures M = some r → hr_fr hW_X11_pictures M r.2 := by
  intro M r h
  unfold f_X11_pictures at h
  refine hr_Fg h (fun _ h => ?_)
  cases h
  exact (hr_fr.rf _ M)
def hW_X11_limit : List (Nat × Nat) := []
theorem fr_X11_limit  : ∀ (M : PM) (r : Int32 × PM), f_X11_limit M = some r → hr_fr hW_X11_limit M r.2 := by
  intro M r h
  unfold f_X11_limit at h
  refine hr_Fg h (fun _ h => ?_)
  cases h
  exact (hr_fr.rf _ M)
def hW_X11_hueOf : List (Nat × Nat) := []
theorem fr_X11_hueOf (a1 : Int32) : ∀ (M : PM) (r : Int32 × PM), f_X11_hueOf a1 M = some r → hr_fr hW_X11_hueOf M r.2 := by
  intro M r h
  unfold f_X11_hueOf at h
  refine hr_Fg h (fun _ h => ?_)
  cases h
  exact (hr_fr.rf _ M)
def hW_X11_areaOf : List (Nat × Nat) := []
theorem fr_X11_areaOf (a1 : Int32) : ∀ (M : PM) (r : Int32 × PM), f_X11_areaOf a1 M = some r → hr_fr hW_X11_areaOf M r.2 := by
  intro M r h
  unfold f_X11_areaOf at h
  refine hr_Fg h (fun _ h => ?_)
  cases h
  exact (hr_fr.rf _ M)
def hW_X11_hasGallery : List (Nat × Nat) := [(275, 29)]
theorem fr_X11_hasGallery (a1 : Int32) : ∀ (M : PM) (r : Int32 × PM), f_X11_hasGallery a1 M = some r → hr_fr hW_X11_hasGallery M r.2 := by
  intro M r h
  unfold f_X11_hasGallery at h
  refine hr_Fb h (fun v2 M2 e h => ?_)
  have FM2 : hr_fr hW_X11_hasGallery M M2 := hr_fr.tr (hr_fr.si rfl (hr_fr.rf _ M)) (hr_fr.mono (W := hW_X11_is) rfl (fr_X11_is 1 a1 _ _ e))
  refine hr_Fg h (fun _ h => ?_)
  cases h
  exact FM2
def hW_X11_gallery : List (Nat × Nat) := [(275, 1), (275, 29)]
theorem fr_X11_gallery (a1 : Int32) (a2 : Int32) : ∀ (M : PM) (r : Int32 × PM), f_X11_gallery a1 a2 M = some r → hr_fr hW_X11_gallery M r.2 := by
  intro M r h
  unfold f_X11_gallery at h
  refine hr_Fb h (fun v2 M2 e h => ?_)
  have FM2 : hr_fr hW_X11_gallery M M2 := hr_fr.tr (hr_fr.si rfl (hr_fr.rf _ M)) (hr_fr.mono (W := hW_X11_hasGallery) rfl (fr_X11_hasGallery a1 _ _ e))
  refine hr_Fi h (fun _ h => ?_) (fun _ h => ?_)
  · cases h
    exact FM2
  · refine hr_Fb h (fun v6 M6 e h => ?_)
    have FM6 : hr_fr hW_X11_gallery M M6 := hr_fr.tr FM2 (hr_fr.mono (W := hW_X11_pictures) rfl (fr_X11_pictures  _ _ e))
    refine hr_Fi h (fun _ h => ?_) (fun _ h => ?_)
    · cases h
      exact FM6
    · refine hr_Fi h (fun _ h => ?_) (fun _ h => ?_)
      · refine hr_Fb h (fun v11 M11 e h => ?_)
        have FM11 : hr_fr hW_X11_gallery M M11 := hr_fr.tr FM6 (hr_fr.mono (W := hW_X11_limit) rfl (fr_X11_limit  _ _ e))
        cases h
        exact FM11
      · refine hr_Fb h (fun v14 M14 e h => ?_)
        have FM14 : hr_fr hW_X11_gallery M M14 := hr_fr.tr FM6 (hr_fr.mono (W := hW_X11_in) rfl (fr_X11_in a2 10 (9 + v6) _ _ e))
        refine hr_Fi h (fun _ h => ?_) (fun _ h => ?_)
        · refine hr_Fb h (fun v17 M17 e h => ?_)
          have FM17 : hr_fr hW_X11_gallery M M17 := hr_fr.tr FM14 (hr_fr.mono (W := hW_X11_in) rfl (fr_X11_in a2 20 (19 + v6) _ _ e))
          refine hr_Fi h (fun _ h => ?_) (fun _ h => ?_)
          · cases h
            exact FM17
          · refine hr_Fb h (fun v21 M21 e h => ?_)
            have FM21 : hr_fr hW_X11_gallery M M21 := hr_fr.tr FM17 (hr_fr.mono (W := hW_X11_areaOf) rfl (fr_X11_areaOf (a2 - 20) _ _ e))
            cases h
            exact FM21
        · refine hr_Fb h (fun v24 M24 e h => ?_)
          have FM24 : hr_fr hW_X11_gallery M M24 := hr_fr.tr FM14 (hr_fr.mono (W := hW_X11_hueOf) rfl (fr_X11_hueOf (a2 - 10) _ _ e))
          cases h
          exact FM24
def hW_X11_layGallery : List (Nat × Nat) := [(275, 25), (275, 26), (275, 29), (288, 0), (289, 0)]
theorem fr_X11_layGallery_20 (a1 : Int32) (a2 : Int32) : ∀ (f : Nat) (x3 : Int32) (M : PM) (r : Int32 × PM), f_X11_layGallery_20 a1 a2 f x3 M = some r → hr_fr hW_X11_layGallery M r.2 := by
  intro f
  induction f with
  | zero => intro x3 M r h; cases h
  | succ f ih =>
    intro x3 M r h
    rw [f_X11_layGallery_20.eq_2] at h
    refine hr_Fb h (fun v2 M2 e h => ?_)
    have FM2 : hr_fr hW_X11_layGallery M M2 := hr_fr.tr (hr_fr.rf _ M) (hr_fr.mono (W := hW_X11_pictures) rfl (fr_X11_pictures  _ _ e))
    refine hr_Fi h (fun _ h => ?_) (fun _ h => ?_)
    · cases h
      exact FM2
    · refine hr_Fb h (fun v6 M6 e h => ?_)
      have FM6 : hr_fr hW_X11_layGallery M M6 := hr_fr.tr FM2 (hr_fr.mono (W := hW_X11_hueOf) rfl (fr_X11_hueOf x3 _ _ e))
      refine hr_Fb h (fun v7 M7 e h => ?_)
      have FM7 : hr_fr hW_X11_layGallery M M7 := hr_fr.tr FM6 (hr_fr.mono (W := hW_X11_isHue) rfl (fr_X11_isHue v6 _ _ e))
      refine hr_Fi h (fun _ h => ?_) (fun _ h => ?_)
      · cases h
        exact FM7
      · exact hr_fr.tr FM7 (ih (x3 + 1) _ _ h)
theorem fr_X11_layGallery (a1 : Int32) (a2 : Int32) : ∀ (M : PM) (r : Int32 × PM), f_X11_layGallery a1 a2 M = some r → hr_fr hW_X11_layGallery M r.2 := by
  intro M r h
  unfold f_X11_layGallery at h
  refine hr_Fb h (fun v2 M2 e h => ?_)
  have FM2 : hr_fr hW_X11_layGallery M M2 := hr_fr.tr (hr_fr.rf _ M) (hr_fr.mono (W := hW_X11_hasGallery) rfl (fr_X11_hasGallery a2 _ _ e))
  refine hr_Fi h (fun _ h => ?_) (fun _ h => ?_)
  · cases h
    exact FM2
  · refine hr_Fb h (fun v6 M6 e h => ?_)
    have FM6 : hr_fr hW_X11_layGallery M M6 := hr_fr.tr FM2 (hr_fr.mono (W := hW_X11_hand) rfl (fr_X11_hand a1 _ _ e))
    refine hr_Fi h (fun _ h => ?_) (fun _ h => ?_)
    · cases h
      exact FM6
    · exact hr_fr.tr FM6 (fr_X11_layGallery_20 a1 a2 FU 0 _ _ h)
def hW_X11_deeds : List (Nat × Nat) := []
theorem fr_X11_deeds  : ∀ (M : PM) (r : Int32 × PM), f_X11_deeds M = some r → hr_fr hW_X11_deeds M r.2 := by
  intro M r h
  unfold f_X11_deeds at h
  refine hr_Fg h (fun _ h => ?_)
  cases h
  exact (hr_fr.rf _ M)
def hW_X11_deedOf : List (Nat × Nat) := []
theorem fr_X11_deedOf (a1 : Int32) (a2 : Int32) : ∀ (M : PM) (r : Int32 × PM), f_X11_deedOf a1 a2 M = some r → hr_fr hW_X11_deedOf M r.2 := by
  intro M r h
  unfold f_X11_deedOf at h
  refine hr_Fg h (fun _ h => ?_)
  cases h
  exact (hr_fr.rf _ M)
def hW_X11_hasDay : List (Nat × Nat) := [(275, 30)]
theorem fr_X11_hasDay (a1 : Int32) : ∀ (M : PM) (r : Int32 × PM), f_X11_hasDay a1 M = some r → hr_fr hW_X11_hasDay M r.2 := by
  intro M r h
  unfold f_X11_hasDay at h
  refine hr_Fb h (fun v2 M2 e h => ?_)
  have FM2 : hr_fr hW_X11_hasDay M M2 := hr_fr.tr (hr_fr.si rfl (hr_fr.rf _ M)) (hr_fr.mono (W := hW_X11_is) rfl (fr_X11_is 2 a1 _ _ e))
  refine hr_Fg h (fun _ h => ?_)
  cases h
  exact FM2
def hW_X11_deed : List (Nat × Nat) := [(275, 1), (275, 30)]
theorem fr_X11_deed (a1 : Int32) (a2 : Int32) (a3 : Int32) : ∀ (M : PM) (r : Int32 × PM), f_X11_deed a1 a2 a3 M = some r → hr_fr hW_X11_deed M r.2 := by
  intro M r h
  unfold f_X11_deed at h
  refine hr_Fb h (fun v2 M2 e h => ?_)
  have FM2 : hr_fr hW_X11_deed M M2 := hr_fr.tr (hr_fr.si rfl (hr_fr.rf _ M)) (hr_fr.mono (W := hW_X11_hasDay) rfl (fr_X11_hasDay a1 _ _ e))
  refine hr_Fi h (fun _ h => ?_) (fun _ h => ?_)
  · cases h
    exact FM2
  · refine hr_Fi h (fun _ h => ?_) (fun _ h => ?_)
    · refine hr_Fi h (fun _ h => ?_) (fun _ h => ?_)
      · refine hr_Fb h (fun v8 M8 e h => ?_)
        have FM8 : hr_fr hW_X11_deed M M8 := hr_fr.tr FM2 (hr_fr.mono (W := hW_X11_deeds) rfl (fr_X11_deeds  _ _ e))
        cases h
        exact FM8
      · cases h
        exact FM2
    · refine hr_Fb h (fun v12 M12 e h => ?_)
      have FM12 : hr_fr hW_X11_deed M M12 := hr_fr.tr FM2 (hr_fr.mono (W := hW_X11_deeds) rfl (fr_X11_deeds  _ _ e))
      refine hr_Fb h (fun v14 M14 e h => ?_)
      have FM14 : hr_fr hW_X11_deed M M14 := hr_fr.tr FM12 (hr_fr.mono (W := hW_X11_in) rfl (fr_X11_in a2 0 (v12 - 1) _ _ e))
      refine hr_Fi h (fun _ h => ?_) (fun _ h => ?_)
      · cases h
        exact FM14
      · refine hr_Fb h (fun v18 M18 e h => ?_)
        have FM18 : hr_fr hW_X11_deed M M18 := hr_fr.tr FM14 (hr_fr.mono (W := hW_X11_in) rfl (fr_X11_in a3 0 2 _ _ e))
        refine hr_Fi h (fun _ h => ?_) (fun _ h => ?_)
        · cases h
          exact FM18
        · refine hr_Fb h (fun v22 M22 e h => ?_)
          have FM22 : hr_fr hW_X11_deed M M22 := hr_fr.tr FM18 (hr_fr.mono (W := hW_X11_deedOf) rfl (fr_X11_deedOf a2 a3 _ _ e))
          cases h
          exact FM22
def hW_X11_begin : List (Nat × Nat) := [(275, 36), (275, 37), (275, 38), (275, 39), (290, 0), (291, 0), (292, 0), (293, 0), (294, 0)]
theorem fr_X11_begin_34  : ∀ (f : Nat) (x1 : Int32) (M : PM) (r : Unit × PM), f_X11_begin_34 f x1 M = some r → hr_fr hW_X11_begin M r.2 := by
  intro f
  induction f with
  | zero => intro x1 M r h; cases h
  | succ f ih =>
    intro x1 M r h
    rw [f_X11_begin_34.eq_2] at h
    refine hr_Fi h (fun _ h => ?_) (fun _ h => ?_)
    · cases h
      exact (hr_fr.si rfl (hr_fr.si rfl (hr_fr.si rfl (hr_fr.si rfl (hr_fr.rf _ M)))))
    · refine hr_Fg h (fun _ h => ?_)
      refine hr_Fg h (fun _ h => ?_)
      refine hr_Fg h (fun _ h => ?_)
      exact hr_fr.tr (hr_fr.si rfl (hr_fr.si rfl (hr_fr.si rfl (hr_fr.rf _ M)))) (ih (x1 + 1) _ _ h)
theorem fr_X11_begin_2  : ∀ (f : Nat) (x1 : Int32) (M : PM) (r : Unit × PM), f_X11_begin_2 f x1 M = some r → hr_fr hW_X11_begin M r.2 := by
  intro f
  induction f with
  | zero => intro x1 M r h; cases h
  | succ f ih =>
    intro x1 M r h
    rw [f_X11_begin_2.eq_2] at h
    refine hr_Fi h (fun _ h => ?_) (fun _ h => ?_)
    · exact hr_fr.tr (hr_fr.rf _ M) (fr_X11_begin_34 FU 0 _ _ h)
    · refine hr_Fg h (fun _ h => ?_)
      refine hr_Fb h (fun v4 M4 e h => ?_)
      have FM4 : hr_fr hW_X11_begin M M4 := hr_fr.tr (hr_fr.si rfl (hr_fr.rf _ M)) (hr_fr.mono (W := hW_X11_areaOf) rfl (fr_X11_areaOf x1 _ _ e))
      refine hr_Fg h (fun _ h => ?_)
      exact hr_fr.tr (hr_fr.si rfl FM4) (ih (x1 + 1) _ _ h)
theorem fr_X11_begin  : ∀ (M : PM) (r : Unit × PM), f_X11_begin M = some r → hr_fr hW_X11_begin M r.2 := by
  intro M r h
  unfold f_X11_begin at h
  exact hr_fr.tr (hr_fr.rf _ M) (fr_X11_begin_2 FU 0 _ _ h)
def hW_X11_thing : List (Nat × Nat) := []
theorem fr_X11_thing (a1 : Int32) (a2 : Int32) : ∀ (M : PM) (r : Int32 × PM), f_X11_thing a1 a2 M = some r → hr_fr hW_X11_thing M r.2 := by
  intro M r h
  unfold f_X11_thing at h
  refine hr_Fi h (fun _ h => ?_) (fun _ h => ?_)
  · refine hr_Fg h (fun _ h => ?_)
    refine hr_Fi h (fun _ h => ?_) (fun _ h => ?_)
    · refine hr_Fg h (fun _ h => ?_)
      cases h
      exact (hr_fr.rf _ M)
    · cases h
      exact (hr_fr.rf _ M)
  · refine hr_Fb h (fun v6 M6 e h => ?_)
    have FM6 : hr_fr hW_X11_thing M M6 := hr_fr.tr (hr_fr.rf _ M) (hr_fr.mono (W := hW_X11_pictures) rfl (fr_X11_pictures  _ _ e))
    refine hr_Fi h (fun _ h => ?_) (fun _ h => ?_)
    · cases h
      exact FM6
    · refine hr_Fg h (fun _ h => ?_)
      refine hr_Fi h (fun _ h => ?_) (fun _ h => ?_)
      · refine hr_Fg h (fun _ h => ?_)
        refine hr_Fi h (fun _ h => ?_) (fun _ h => ?_)
        · cases h
          exact FM6
        · refine hr_Fb h (fun v13 M13 e h => ?_)
          have FM13 : hr_fr hW_X11_thing M M13 := hr_fr.tr FM6 (hr_fr.mono (W := hW_X11_hueOf) rfl (fr_X11_hueOf a2 _ _ e))
          cases h
          exact FM13
      · cases h
        exact FM6
def hW_X11_rash : List (Nat × Nat) := []
theorem fr_X11_rash_13 (a1 : Int32) (k4 : Int32 → Int32 → PM → Option (Int32 × PM)) (hk4 : ∀ (y0 : Int32) (y1 : Int32) (M : PM) (r : Int32 × PM), k4 y0 y1 M = some r → hr_fr hW_X11_rash M r.2) : ∀ (f : Nat) (x2 : Int32) (x3 : Int32) (x4 : Int32) (M : PM) (r : Int32 × PM), f_X11_rash_13 a1 k4 f x2 x3 x4 M = some r → hr_fr hW_X11_rash M r.2 := by
  intro f
  induction f with
  | zero => intro x2 x3 x4 M r h; cases h
  | succ f ih =>
    intro x2 x3 x4 M r h
    rw [f_X11_rash_13.eq_2] at h
    refine hr_Fi h (fun _ h => ?_) (fun _ h => ?_)
    · exact hr_fr.tr (hr_fr.rf _ M) (hk4 x2 (x3 + 1) _ _ h)
    · refine hr_Fb h (fun v4 M4 e h => ?_)
      have FM4 : hr_fr hW_X11_rash M M4 := hr_fr.tr (hr_fr.rf _ M) (hr_fr.mono (W := hW_X11_thing) rfl (fr_X11_thing a1 x3 _ _ e))
      refine hr_Fb h (fun v6 M6 e h => ?_)
      have FM6 : hr_fr hW_X11_rash M M6 := hr_fr.tr FM4 (hr_fr.mono (W := hW_X11_thing) rfl (fr_X11_thing a1 x4 _ _ e))
      refine hr_Fi h (fun _ h => ?_) (fun _ h => ?_)
      · exact hr_fr.tr FM6 (ih (x2 + 0) x3 (x4 + 1) _ _ h)
      · refine hr_Fi h (fun _ h => ?_) (fun _ h => ?_)
        · exact hr_fr.tr FM6 (ih (x2 + 0) x3 (x4 + 1) _ _ h)
        · refine hr_Fg h (fun _ h => ?_)
          exact hr_fr.tr FM6 (ih (x2 + (M6.1 288 ((10 * v4) + v6).toNatClampNeg)) x3 (x4 + 1) _ _ h)
theorem fr_X11_rash_4 (a1 : Int32) : ∀ (f : Nat) (x2 : Int32) (x3 : Int32) (M : PM) (r : Int32 × PM), f_X11_rash_4 a1 f x2 x3 M = some r → hr_fr hW_X11_rash M r.2 := by
  intro f
  induction f with
  | zero => intro x2 x3 M r h; cases h
  | succ f ih =>
    intro x2 x3 M r h
    rw [f_X11_rash_4.eq_2] at h
    refine hr_Fi h (fun _ h => ?_) (fun _ h => ?_)
    · cases h
      exact (hr_fr.rf _ M)
    · exact hr_fr.tr (hr_fr.rf _ M) (fr_X11_rash_13 a1 (fun x2 x3 M => f_X11_rash_4 a1 f x2 x3 M) (fun x2 x3 M r h => ih x2 x3 M r h) FU x2 x3 0 _ _ h)
theorem fr_X11_rash (a1 : Int32) : ∀ (M : PM) (r : Int32 × PM), f_X11_rash a1 M = some r → hr_fr hW_X11_rash M r.2 := by
  intro M r h
  unfold f_X11_rash at h
  exact hr_fr.tr (hr_fr.rf _ M) (fr_X11_rash_4 a1 FU 0 0 _ _ h)
def hW_X11_isClashing : List (Nat × Nat) := []
theorem fr_X11_isClashing_2 (a1 : Int32) : ∀ (f : Nat) (x2 : Int32) (M : PM) (r : Int32 × PM), f_X11_isClashing_2 a1 f x2 M = some r → hr_fr hW_X11_isClashing M r.2 := by
  intro f
  induction f with
  | zero => intro x2 M r h; cases h
  | succ f ih =>
    intro x2 M r h
    rw [f_X11_isClashing_2.eq_2] at h
    refine hr_Fi h (fun _ h => ?_) (fun _ h => ?_)
    · cases h
      exact (hr_fr.rf _ M)
    · refine hr_Fg h (fun _ h => ?_)
      refine hr_Fb h (fun v4 M4 e h => ?_)
      have FM4 : hr_fr hW_X11_isClashing M M4 := hr_fr.tr (hr_fr.rf _ M) (hr_fr.mono (W := hW_X11_thing) rfl (fr_X11_thing (M.1 290 a1.toNatClampNeg) x2 _ _ e))
      refine hr_Fi h (fun _ h => ?_) (fun _ h => ?_)
      · exact hr_fr.tr FM4 (ih (x2 + 1) _ _ h)
      · refine hr_Fi h (fun _ h => ?_) (fun _ h => ?_)
        · exact hr_fr.tr FM4 (ih (x2 + 1) _ _ h)
        · refine hr_Fb h (fun v10 M10 e h => ?_)
          have FM10 : hr_fr hW_X11_isClashing M M10 := hr_fr.tr FM4 (hr_fr.mono (W := hW_X11_hueOf) rfl (fr_X11_hueOf a1 _ _ e))
          refine hr_Fb h (fun v12 M12 e h => ?_)
          have FM12 : hr_fr hW_X11_isClashing M M12 := hr_fr.tr FM10 (hr_fr.mono (W := hW_X11_clash) rfl (fr_X11_clash v10 v4 _ _ e))
          refine hr_Fi h (fun _ h => ?_) (fun _ h => ?_)
          · exact hr_fr.tr FM12 (ih (x2 + 1) _ _ h)
          · cases h
            exact FM12
theorem fr_X11_isClashing (a1 : Int32) : ∀ (M : PM) (r : Int32 × PM), f_X11_isClashing a1 M = some r → hr_fr hW_X11_isClashing M r.2 := by
  intro M r h
  unfold f_X11_isClashing at h
  exact hr_fr.tr (hr_fr.rf _ M) (fr_X11_isClashing_2 a1 FU 0 _ _ h)
def hW_X11_hour : List (Nat × Nat) := [(275, 36), (275, 37), (275, 38), (275, 39), (291, 0), (294, 0)]
theorem fr_X11_hour_157  : ∀ (f : Nat) (x1 : Int32) (x2 : Int32) (M : PM) (r : Unit × PM), f_X11_hour_157 f x1 x2 M = some r → hr_fr hW_X11_hour M r.2 := by
  intro f
  induction f with
  | zero => intro x1 x2 M r h; cases h
  | succ f ih =>
    intro x1 x2 M r h
    rw [f_X11_hour_157.eq_2] at h
    refine hr_Fb h (fun v2 M2 e h => ?_)
    have FM2 : hr_fr hW_X11_hour M M2 := hr_fr.tr (hr_fr.rf _ M) (hr_fr.mono (W := hW_X11_pictures) rfl (fr_X11_pictures  _ _ e))
    refine hr_Fi h (fun _ h => ?_) (fun _ h => ?_)
    · cases h
      exact (hr_fr.si rfl FM2)
    · refine hr_Fg h (fun _ h => ?_)
      refine hr_Fb h (fun v6 M6 e h => ?_)
      have FM6 : hr_fr hW_X11_hour M M6 := hr_fr.tr FM2 (hr_fr.mono (W := hW_X11_has) rfl (fr_X11_has x1 x2 _ _ e))
      refine hr_Fi h (fun _ h => ?_) (fun _ h => ?_)
      · refine hr_Fg h (fun _ h => ?_)
        exact hr_fr.tr (hr_fr.si rfl FM6) (ih x1 (x2 + 1) _ _ h)
      · refine hr_Fg h (fun _ h => ?_)
        exact hr_fr.tr (hr_fr.si rfl FM6) (ih x1 (x2 + 1) _ _ h)
theorem fr_X11_hour_104  : ∀ (f : Nat) (x1 : Int32) (x2 : Int32) (M : PM) (r : Unit × PM), f_X11_hour_104 f x1 x2 M = some r → hr_fr hW_X11_hour M r.2 := by
  intro f
  induction f with
  | zero => intro x1 x2 M r h; cases h
  | succ f ih =>
    intro x1 x2 M r h
    rw [f_X11_hour_104.eq_2] at h
    refine hr_Fb h (fun v2 M2 e h => ?_)
    have FM2 : hr_fr hW_X11_hour M M2 := hr_fr.tr (hr_fr.rf _ M) (hr_fr.mono (W := hW_X11_pictures) rfl (fr_X11_pictures  _ _ e))
    refine hr_Fi h (fun _ h => ?_) (fun _ h => ?_)
    · exact hr_fr.tr FM2 (fr_X11_hour_157 FU x1 0 _ _ h)
    · refine hr_Fg h (fun _ h => ?_)
      refine hr_Fi h (fun _ h => ?_) (fun _ h => ?_)
      · exact hr_fr.tr FM2 (ih (x1 ||| 0) (x2 + 1) _ _ h)
      · refine hr_Fg h (fun _ h => ?_)
        refine hr_Fi h (fun _ h => ?_) (fun _ h => ?_)
        · exact hr_fr.tr FM2 (ih (x1 ||| 0) (x2 + 1) _ _ h)
        · refine hr_Fb h (fun v12 M12 e h => ?_)
          have FM12 : hr_fr hW_X11_hour M M12 := hr_fr.tr FM2 (hr_fr.mono (W := hW_X11_isClashing) rfl (fr_X11_isClashing x2 _ _ e))
          refine hr_Fi h (fun _ h => ?_) (fun _ h => ?_)
          · exact hr_fr.tr FM12 (ih (x1 ||| 0) (x2 + 1) _ _ h)
          · exact hr_fr.tr FM12 (ih (x1 ||| (jl 1 x2)) (x2 + 1) _ _ h)
theorem fr_X11_hour_57 (k4 : Int32 → Int32 → PM → Option (Unit × PM)) (hk4 : ∀ (y0 : Int32) (y1 : Int32) (M : PM) (r : Unit × PM), k4 y0 y1 M = some r → hr_fr hW_X11_hour M r.2) : ∀ (f : Nat) (x1 : Int32) (x2 : Int32) (x3 : Int32) (x4 : Int32) (M : PM) (r : Unit × PM), f_X11_hour_57 k4 f x1 x2 x3 x4 M = some r → hr_fr hW_X11_hour M r.2 := by
  intro f
  induction f with
  | zero => intro x1 x2 x3 x4 M r h; cases h
  | succ f ih =>
    intro x1 x2 x3 x4 M r h
    rw [f_X11_hour_57.eq_2] at h
    refine hr_Fi h (fun _ h => ?_) (fun _ h => ?_)
    · exact hr_fr.tr (hr_fr.rf _ M) (hk4 x1 (x2 + 1) _ _ h)
    · refine hr_Fg h (fun _ h => ?_)
      refine hr_Fg h (fun _ h => ?_)
      refine hr_Fi h (fun _ h => ?_) (fun _ h => ?_)
      · refine hr_Fg h (fun _ h => ?_)
        exact hr_fr.tr (hr_fr.si rfl (hr_fr.rf _ M)) (ih x1 x2 x3 (x4 + 1) _ _ h)
      · refine hr_Fg h (fun _ h => ?_)
        exact hr_fr.tr (hr_fr.si rfl (hr_fr.rf _ M)) (ih x1 x2 x3 (x4 + 1) _ _ h)
theorem fr_X11_hour_4  : ∀ (f : Nat) (x1 : Int32) (x2 : Int32) (M : PM) (r : Unit × PM), f_X11_hour_4 f x1 x2 M = some r → hr_fr hW_X11_hour M r.2 := by
  intro f
  induction f with
  | zero => intro x1 x2 M r h; cases h
  | succ f ih =>
    intro x1 x2 M r h
    rw [f_X11_hour_4.eq_2] at h
    refine hr_Fi h (fun _ h => ?_) (fun _ h => ?_)
    · exact hr_fr.tr (hr_fr.rf _ M) (fr_X11_hour_104 FU x1 0 _ _ h)
    · refine hr_Fb h (fun v4 M4 e h => ?_)
      have FM4 : hr_fr hW_X11_hour M M4 := hr_fr.tr (hr_fr.rf _ M) (hr_fr.mono (W := hW_X11_rash) rfl (fr_X11_rash x2 _ _ e))
      refine hr_Fb h (fun v6 M6 e h => ?_)
      have FM6 : hr_fr hW_X11_hour M M6 := hr_fr.tr (hr_fr.si rfl FM4) (hr_fr.mono (W := hW_X11_limit) rfl (fr_X11_limit  _ _ e))
      refine hr_Fi h (fun _ h => ?_) (fun _ h => ?_)
      · exact hr_fr.tr FM6 (fr_X11_hour_57 (fun x1 x2 M => f_X11_hour_4 f x1 x2 M) (fun x1 x2 M r h => ih x1 x2 M r h) FU x1 x2 v4 0 _ _ h)
      · refine hr_Fi h (fun _ h => ?_) (fun _ h => ?_)
        · exact hr_fr.tr (hr_fr.si rfl (hr_fr.si rfl FM6)) (fr_X11_hour_57 (fun x1 x2 M => f_X11_hour_4 f x1 x2 M) (fun x1 x2 M r h => ih x1 x2 M r h) FU x1 x2 v4 0 _ _ h)
        · exact hr_fr.tr FM6 (fr_X11_hour_57 (fun x1 x2 M => f_X11_hour_4 f x1 x2 M) (fun x1 x2 M r h => ih x1 x2 M r h) FU x1 x2 v4 0 _ _ h)
theorem fr_X11_hour  : ∀ (M : PM) (r : Unit × PM), f_X11_hour M = some r → hr_fr hW_X11_hour M r.2 := by
  intro M r h
  unfold f_X11_hour at h
  exact hr_fr.tr (hr_fr.rf _ M) (fr_X11_hour_4 FU 0 0 _ _ h)
def hW_X11_does : List (Nat × Nat) := [(275, 36), (275, 37), (275, 38), (275, 39), (290, 0), (291, 0), (292, 0), (293, 0), (294, 0)]
theorem fr_X11_does (a1 : Int32) : ∀ (M : PM) (r : Int32 × PM), f_X11_does a1 M = some r → hr_fr hW_X11_does M r.2 := by
  intro M r h
  unfold f_X11_does at h
  refine hr_Fb h (fun v2 M2 e h => ?_)
  have FM2 : hr_fr hW_X11_does M M2 := hr_fr.tr (hr_fr.rf _ M) (hr_fr.mono (W := hW_X11_deedOf) rfl (fr_X11_deedOf a1 1 _ _ e))
  refine hr_Fb h (fun v4 M4 e h => ?_)
  have FM4 : hr_fr hW_X11_does M M4 := hr_fr.tr FM2 (hr_fr.mono (W := hW_X11_deedOf) rfl (fr_X11_deedOf a1 2 _ _ e))
  refine hr_Fb h (fun v6 M6 e h => ?_)
  have FM6 : hr_fr hW_X11_does M M6 := hr_fr.tr FM4 (hr_fr.mono (W := hW_X11_deedOf) rfl (fr_X11_deedOf a1 0 _ _ e))
  refine hr_Fi h (fun _ h => ?_) (fun _ h => ?_)
  · refine hr_Fb h (fun v9 M9 e h => ?_)
    have FM9 : hr_fr hW_X11_does M M9 := hr_fr.tr FM6 (hr_fr.mono (W := hW_X11_pictures) rfl (fr_X11_pictures  _ _ e))
    refine hr_Fi h (fun _ h => ?_) (fun _ h => ?_)
    · cases h
      exact FM9
    · refine hr_Fg h (fun _ h => ?_)
      refine hr_Fi h (fun _ h => ?_) (fun _ h => ?_)
      · refine hr_Fg h (fun _ h => ?_)
        cases h
        exact (hr_fr.si rfl FM9)
      · cases h
        exact FM9
  · refine hr_Fi h (fun _ h => ?_) (fun _ h => ?_)
    · refine hr_Fb h (fun v16 M16 e h => ?_)
      have FM16 : hr_fr hW_X11_does M M16 := hr_fr.tr FM6 (hr_fr.mono (W := hW_X11_pictures) rfl (fr_X11_pictures  _ _ e))
      refine hr_Fi h (fun _ h => ?_) (fun _ h => ?_)
      · cases h
        exact FM16
      · refine hr_Fg h (fun _ h => ?_)
        refine hr_Fi h (fun _ h => ?_) (fun _ h => ?_)
        · cases h
          exact FM16
        · refine hr_Fg h (fun _ h => ?_)
          cases h
          exact (hr_fr.si rfl FM16)
    · refine hr_Fi h (fun _ h => ?_) (fun _ h => ?_)
      · refine hr_Fb h (fun v23 M23 e h => ?_)
        have FM23 : hr_fr hW_X11_does M M23 := hr_fr.tr FM6 (hr_fr.mono (W := hW_X11_isHue) rfl (fr_X11_isHue v4 _ _ e))
        refine hr_Fi h (fun _ h => ?_) (fun _ h => ?_)
        · cases h
          exact FM23
        · refine hr_Fg h (fun _ h => ?_)
          cases h
          exact (hr_fr.si rfl FM23)
      · refine hr_Fi h (fun _ h => ?_) (fun _ h => ?_)
        · refine hr_Fg h (fun _ h => ?_)
          refine hr_Fi h (fun _ h => ?_) (fun _ h => ?_)
          · refine hr_Fg h (fun _ h => ?_)
            cases h
            exact (hr_fr.si rfl FM6)
          · cases h
            exact FM6
        · refine hr_Fi h (fun _ h => ?_) (fun _ h => ?_)
          · refine hr_Fg h (fun _ h => ?_)
            refine hr_Fi h (fun _ h => ?_) (fun _ h => ?_)
            · cases h
              exact FM6
            · refine hr_Fg h (fun _ h => ?_)
              cases h
              exact (hr_fr.si rfl FM6)
          · refine hr_Fb h (fun v34 M34 e h => ?_)
            have FM34 : hr_fr hW_X11_does M M34 := hr_fr.tr FM6 (hr_fr.mono (W := hW_X11_hour) rfl (fr_X11_hour  _ _ e))
            cases h
            exact FM34
def hW_X11_play : List (Nat × Nat) := [(275, 36), (275, 37), (275, 38), (275, 39), (290, 0), (291, 0), (292, 0), (293, 0), (294, 0)]
theorem fr_X11_play_6 (a1 : Int32) : ∀ (f : Nat) (x2 : Int32) (M : PM) (r : Int32 × PM), f_X11_play_6 a1 f x2 M = some r → hr_fr hW_X11_play M r.2 := by
  intro f
  induction f with
  | zero => intro x2 M r h; cases h
  | succ f ih =>
    intro x2 M r h
    rw [f_X11_play_6.eq_2] at h
    refine hr_Fi h (fun _ h => ?_) (fun _ h => ?_)
    · cases h
      exact (hr_fr.rf _ M)
    · refine hr_Fb h (fun v4 M4 e h => ?_)
      have FM4 : hr_fr hW_X11_play M M4 := hr_fr.tr (hr_fr.rf _ M) (hr_fr.mono (W := hW_X11_does) rfl (fr_X11_does x2 _ _ e))
      refine hr_Fi h (fun _ h => ?_) (fun _ h => ?_)
      · cases h
        exact FM4
      · exact hr_fr.tr FM4 (ih (x2 + 1) _ _ h)
theorem fr_X11_play (a1 : Int32) : ∀ (M : PM) (r : Int32 × PM), f_X11_play a1 M = some r → hr_fr hW_X11_play M r.2 := by
  intro M r h
  unfold f_X11_play at h
  refine hr_Fb h (fun v2 M2 e h => ?_)
  have FM2 : hr_fr hW_X11_play M M2 := hr_fr.tr (hr_fr.rf _ M) (hr_fr.mono (W := hW_X11_begin) rfl (fr_X11_begin  _ _ e))
  exact hr_fr.tr FM2 (fr_X11_play_6 a1 FU 0 _ _ h)
def hW_X11_stop : List (Nat × Nat) := [(275, 1), (275, 25), (275, 26), (275, 29), (275, 30), (275, 36), (275, 37), (275, 38), (275, 39), (288, 0), (289, 0), (290, 0), (291, 0), (292, 0), (293, 0), (294, 0)]
theorem fr_X11_stop (a1 : Int32) (a2 : Int32) (a3 : Int32) : ∀ (M : PM) (r : Int32 × PM), f_X11_stop a1 a2 a3 M = some r → hr_fr hW_X11_stop M r.2 := by
  intro M r h
  unfold f_X11_stop at h
  refine hr_Fb h (fun v2 M2 e h => ?_)
  have FM2 : hr_fr hW_X11_stop M M2 := hr_fr.tr (hr_fr.si rfl (hr_fr.rf _ M)) (hr_fr.mono (W := hW_X11_hasDay) rfl (fr_X11_hasDay a3 _ _ e))
  refine hr_Fi h (fun _ h => ?_) (fun _ h => ?_)
  · cases h
    exact FM2
  · refine hr_Fb h (fun v6 M6 e h => ?_)
    have FM6 : hr_fr hW_X11_stop M M6 := hr_fr.tr FM2 (hr_fr.mono (W := hW_X11_layGallery) rfl (fr_X11_layGallery a1 a2 _ _ e))
    refine hr_Fi h (fun _ h => ?_) (fun _ h => ?_)
    · cases h
      exact FM6
    · refine hr_Fb h (fun v10 M10 e h => ?_)
      have FM10 : hr_fr hW_X11_stop M M10 := hr_fr.tr FM6 (hr_fr.mono (W := hW_X11_deeds) rfl (fr_X11_deeds  _ _ e))
      refine hr_Fb h (fun v11 M11 e h => ?_)
      have FM11 : hr_fr hW_X11_stop M M11 := hr_fr.tr FM10 (hr_fr.mono (W := hW_X11_play) rfl (fr_X11_play v10 _ _ e))
      cases h
      exact FM11
def hW_X11_state : List (Nat × Nat) := [(275, 1), (275, 25), (275, 26), (275, 29), (275, 30), (275, 36), (275, 37), (275, 38), (275, 39), (288, 0), (289, 0), (290, 0), (291, 0), (292, 0), (293, 0), (294, 0)]
theorem fr_X11_state (a1 : Int32) (a2 : Int32) (a3 : Int32) (a4 : Int32) (a5 : Int32) : ∀ (M : PM) (r : Int32 × PM), f_X11_state a1 a2 a3 a4 a5 M = some r → hr_fr hW_X11_state M r.2 := by
  intro M r h
  unfold f_X11_state at h
  refine hr_Fb h (fun v2 M2 e h => ?_)
  have FM2 : hr_fr hW_X11_state M M2 := hr_fr.tr (hr_fr.si rfl (hr_fr.rf _ M)) (hr_fr.mono (W := hW_X11_hasDay) rfl (fr_X11_hasDay a3 _ _ e))
  refine hr_Fi h (fun _ h => ?_) (fun _ h => ?_)
  · cases h
    exact FM2
  · refine hr_Fb h (fun v6 M6 e h => ?_)
    have FM6 : hr_fr hW_X11_state M M6 := hr_fr.tr FM2 (hr_fr.mono (W := hW_X11_layGallery) rfl (fr_X11_layGallery a1 a2 _ _ e))
    refine hr_Fi h (fun _ h => ?_) (fun _ h => ?_)
    · cases h
      exact FM6
    · refine hr_Fb h (fun v10 M10 e h => ?_)
      have FM10 : hr_fr hW_X11_state M M10 := hr_fr.tr FM6 (hr_fr.mono (W := hW_X11_deeds) rfl (fr_X11_deeds  _ _ e))
      refine hr_Fb h (fun v11 M11 e h => ?_)
      have FM11 : hr_fr hW_X11_state M M11 := hr_fr.tr FM10 (hr_fr.mono (W := hW_X11_in) rfl (fr_X11_in a4 0 v10 _ _ e))
      refine hr_Fi h (fun _ h => ?_) (fun _ h => ?_)
      · cases h
        exact FM11
      · refine hr_Fb h (fun v15 M15 e h => ?_)
        have FM15 : hr_fr hW_X11_state M M15 := hr_fr.tr FM11 (hr_fr.mono (W := hW_X11_play) rfl (fr_X11_play a4 _ _ e))
        refine hr_Fi h (fun _ h => ?_) (fun _ h => ?_)
        · refine hr_Fb h (fun v18 M18 e h => ?_)
          have FM18 : hr_fr hW_X11_state M M18 := hr_fr.tr FM15 (hr_fr.mono (W := hW_X11_pictures) rfl (fr_X11_pictures  _ _ e))
          refine hr_Fb h (fun v20 M20 e h => ?_)
          have FM20 : hr_fr hW_X11_state M M20 := hr_fr.tr FM18 (hr_fr.mono (W := hW_X11_in) rfl (fr_X11_in a5 10 (9 + v18) _ _ e))
          refine hr_Fi h (fun _ h => ?_) (fun _ h => ?_)
          · refine hr_Fb h (fun v23 M23 e h => ?_)
            have FM23 : hr_fr hW_X11_state M M23 := hr_fr.tr FM20 (hr_fr.mono (W := hW_X11_pictures) rfl (fr_X11_pictures  _ _ e))
            refine hr_Fb h (fun v25 M25 e h => ?_)
            have FM25 : hr_fr hW_X11_state M M25 := hr_fr.tr FM23 (hr_fr.mono (W := hW_X11_in) rfl (fr_X11_in a5 20 (19 + v23) _ _ e))
            refine hr_Fi h (fun _ h => ?_) (fun _ h => ?_)
            · refine hr_Fb h (fun v28 M28 e h => ?_)
              have FM28 : hr_fr hW_X11_state M M28 := hr_fr.tr FM25 (hr_fr.mono (W := hW_X11_in) rfl (fr_X11_in a5 30 35 _ _ e))
              refine hr_Fi h (fun _ h => ?_) (fun _ h => ?_)
              · refine hr_Fb h (fun v31 M31 e h => ?_)
                have FM31 : hr_fr hW_X11_state M M31 := hr_fr.tr FM28 (hr_fr.mono (W := hW_X11_in) rfl (fr_X11_in a5 40 45 _ _ e))
                refine hr_Fi h (fun _ h => ?_) (fun _ h => ?_)
                · refine hr_Fb h (fun v34 M34 e h => ?_)
                  have FM34 : hr_fr hW_X11_state M M34 := hr_fr.tr FM31 (hr_fr.mono (W := hW_X11_in) rfl (fr_X11_in a5 50 55 _ _ e))
                  refine hr_Fi h (fun _ h => ?_) (fun _ h => ?_)
                  · refine hr_Fb h (fun v37 M37 e h => ?_)
                    have FM37 : hr_fr hW_X11_state M M37 := hr_fr.tr FM34 (hr_fr.mono (W := hW_X11_in) rfl (fr_X11_in a5 60 63 _ _ e))
                    refine hr_Fi h (fun _ h => ?_) (fun _ h => ?_)
                    · refine hr_Fi h (fun _ h => ?_) (fun _ h => ?_)
                      · cases h
                        exact FM37
                      · refine hr_Fi h (fun _ h => ?_) (fun _ h => ?_)
                        · cases h
                          exact FM37
                        · refine hr_Fi h (fun _ h => ?_) (fun _ h => ?_)
                          · cases h
                            exact FM37
                          · refine hr_Fi h (fun _ h => ?_) (fun _ h => ?_)
                            · cases h
                              exact FM37
                            · cases h
                              exact FM37
                    · refine hr_Fb h (fun v49 M49 e h => ?_)
                      have FM49 : hr_fr hW_X11_state M M49 := hr_fr.tr FM37 (hr_fr.mono (W := hW_X11_rash) rfl (fr_X11_rash (a5 - 60) _ _ e))
                      cases h
                      exact FM49
                  · refine hr_Fg h (fun _ h => ?_)
                    cases h
                    exact FM34
                · refine hr_Fg h (fun _ h => ?_)
                  cases h
                  exact FM31
              · refine hr_Fg h (fun _ h => ?_)
                cases h
                exact FM28
            · refine hr_Fg h (fun _ h => ?_)
              cases h
              exact FM25
          · refine hr_Fg h (fun _ h => ?_)
            cases h
            exact FM20
        · cases h
          exact FM15
def hW_X11_mind : List (Nat × Nat) := []
theorem fr_X11_mind (a1 : Int32) (a2 : Int32) : ∀ (M : PM) (r : Int32 × PM), f_X11_mind a1 a2 M = some r → hr_fr hW_X11_mind M r.2 := by
  intro M r h
  unfold f_X11_mind at h
  refine hr_Fb h (fun v2 M2 e h => ?_)
  have FM2 : hr_fr hW_X11_mind M M2 := hr_fr.tr (hr_fr.rf _ M) (hr_fr.mono (W := hW_X11_hueOf) rfl (fr_X11_hueOf a1 _ _ e))
  refine hr_Fb h (fun v4 M4 e h => ?_)
  have FM4 : hr_fr hW_X11_mind M M4 := hr_fr.tr FM2 (hr_fr.mono (W := hW_X11_hueOf) rfl (fr_X11_hueOf a2 _ _ e))
  refine hr_Fb h (fun v5 M5 e h => ?_)
  have FM5 : hr_fr hW_X11_mind M M5 := hr_fr.tr FM4 (hr_fr.mono (W := hW_X11_clash) rfl (fr_X11_clash v2 v4 _ _ e))
  refine hr_Fg h (fun _ h => ?_)
  cases h
  exact FM5
def hW_X11_strengthsOf : List (Nat × Nat) := []
theorem fr_X11_strengthsOf_4 (a1 : Int32) : ∀ (f : Nat) (x2 : Int32) (x3 : Int32) (M : PM) (r : Int32 × PM), f_X11_strengthsOf_4 a1 f x2 x3 M = some r → hr_fr hW_X11_strengthsOf M r.2 := by
  intro f
  induction f with
  | zero => intro x2 x3 M r h; cases h
  | succ f ih =>
    intro x2 x3 M r h
    rw [f_X11_strengthsOf_4.eq_2] at h
    refine hr_Fb h (fun v2 M2 e h => ?_)
    have FM2 : hr_fr hW_X11_strengthsOf M M2 := hr_fr.tr (hr_fr.rf _ M) (hr_fr.mono (W := hW_X11_pictures) rfl (fr_X11_pictures  _ _ e))
    refine hr_Fi h (fun _ h => ?_) (fun _ h => ?_)
    · cases h
      exact FM2
    · refine hr_Fb h (fun v6 M6 e h => ?_)
      have FM6 : hr_fr hW_X11_strengthsOf M M6 := hr_fr.tr FM2 (hr_fr.mono (W := hW_X11_hueOf) rfl (fr_X11_hueOf a1 _ _ e))
      refine hr_Fb h (fun v8 M8 e h => ?_)
      have FM8 : hr_fr hW_X11_strengthsOf M M8 := hr_fr.tr FM6 (hr_fr.mono (W := hW_X11_hueOf) rfl (fr_X11_hueOf x3 _ _ e))
      refine hr_Fg h (fun _ h => ?_)
      exact hr_fr.tr FM8 (ih (x2 + (M8.1 288 ((10 * v6) + v8).toNatClampNeg)) (x3 + 1) _ _ h)
theorem fr_X11_strengthsOf (a1 : Int32) : ∀ (M : PM) (r : Int32 × PM), f_X11_strengthsOf a1 M = some r → hr_fr hW_X11_strengthsOf M r.2 := by
  intro M r h
  unfold f_X11_strengthsOf at h
  exact hr_fr.tr (hr_fr.rf _ M) (fr_X11_strengthsOf_4 a1 FU 0 0 _ _ h)
def hW_X11_isSet : List (Nat × Nat) := []
theorem fr_X11_isSet_13 (a1 : Int32) (a2 : Int32) (k2 : Int32 → PM → Option (Int32 × PM)) (hk2 : ∀ (y0 : Int32) (M : PM) (r : Int32 × PM), k2 y0 M = some r → hr_fr hW_X11_isSet M r.2) : ∀ (f : Nat) (x3 : Int32) (x4 : Int32) (M : PM) (r : Int32 × PM), f_X11_isSet_13 a1 a2 k2 f x3 x4 M = some r → hr_fr hW_X11_isSet M r.2 := by
  intro f
  induction f with
  | zero => intro x3 x4 M r h; cases h
  | succ f ih =>
    intro x3 x4 M r h
    rw [f_X11_isSet_13.eq_2] at h
    refine hr_Fi h (fun _ h => ?_) (fun _ h => ?_)
    · exact hr_fr.tr (hr_fr.rf _ M) (hk2 (x3 + 1) _ _ h)
    · refine hr_Fb h (fun v4 M4 e h => ?_)
      have FM4 : hr_fr hW_X11_isSet M M4 := hr_fr.tr (hr_fr.rf _ M) (hr_fr.mono (W := hW_X11_has) rfl (fr_X11_has a1 x3 _ _ e))
      refine hr_Fi h (fun _ h => ?_) (fun _ h => ?_)
      · exact hr_fr.tr FM4 (ih x3 (x4 + 1) _ _ h)
      · refine hr_Fb h (fun v8 M8 e h => ?_)
        have FM8 : hr_fr hW_X11_isSet M M8 := hr_fr.tr FM4 (hr_fr.mono (W := hW_X11_has) rfl (fr_X11_has a1 x4 _ _ e))
        refine hr_Fi h (fun _ h => ?_) (fun _ h => ?_)
        · exact hr_fr.tr FM8 (ih x3 (x4 + 1) _ _ h)
        · refine hr_Fb h (fun v12 M12 e h => ?_)
          have FM12 : hr_fr hW_X11_isSet M M12 := hr_fr.tr FM8 (hr_fr.mono (W := hW_X11_mind) rfl (fr_X11_mind x3 x4 _ _ e))
          refine hr_Fi h (fun _ h => ?_) (fun _ h => ?_)
          · exact hr_fr.tr FM12 (ih x3 (x4 + 1) _ _ h)
          · cases h
            exact FM12
theorem fr_X11_isSet_2 (a1 : Int32) (a2 : Int32) : ∀ (f : Nat) (x3 : Int32) (M : PM) (r : Int32 × PM), f_X11_isSet_2 a1 a2 f x3 M = some r → hr_fr hW_X11_isSet M r.2 := by
  intro f
  induction f with
  | zero => intro x3 M r h; cases h
  | succ f ih =>
    intro x3 M r h
    rw [f_X11_isSet_2.eq_2] at h
    refine hr_Fb h (fun v2 M2 e h => ?_)
    have FM2 : hr_fr hW_X11_isSet M M2 := hr_fr.tr (hr_fr.rf _ M) (hr_fr.mono (W := hW_X11_pictures) rfl (fr_X11_pictures  _ _ e))
    refine hr_Fi h (fun _ h => ?_) (fun _ h => ?_)
    · cases h
      exact FM2
    · exact hr_fr.tr FM2 (fr_X11_isSet_13 a1 a2 (fun x3 M => f_X11_isSet_2 a1 a2 f x3 M) (fun x3 M r h => ih x3 M r h) FU x3 0 _ _ h)
theorem fr_X11_isSet (a1 : Int32) (a2 : Int32) : ∀ (M : PM) (r : Int32 × PM), f_X11_isSet a1 a2 M = some r → hr_fr hW_X11_isSet M r.2 := by
  intro M r h
  unfold f_X11_isSet at h
  exact hr_fr.tr (hr_fr.rf _ M) (fr_X11_isSet_2 a1 a2 FU 0 _ _ h)
def hW_X11_greatestSet : List (Nat × Nat) := []
theorem fr_X11_greatestSet_4  : ∀ (f : Nat) (x1 : Int32) (x2 : Int32) (M : PM) (r : Int32 × PM), f_X11_greatestSet_4 f x1 x2 M = some r → hr_fr hW_X11_greatestSet M r.2 := by
  intro f
  induction f with
  | zero => intro x1 x2 M r h; cases h
  | succ f ih =>
    intro x1 x2 M r h
    rw [f_X11_greatestSet_4.eq_2] at h
    refine hr_Fb h (fun v2 M2 e h => ?_)
    have FM2 : hr_fr hW_X11_greatestSet M M2 := hr_fr.tr (hr_fr.rf _ M) (hr_fr.mono (W := hW_X11_pictures) rfl (fr_X11_pictures  _ _ e))
    refine hr_Fi h (fun _ h => ?_) (fun _ h => ?_)
    · cases h
      exact FM2
    · refine hr_Fb h (fun v6 M6 e h => ?_)
      have FM6 : hr_fr hW_X11_greatestSet M M6 := hr_fr.tr FM2 (hr_fr.mono (W := hW_X11_ones) rfl (fr_X11_ones x2 _ _ e))
      refine hr_Fb h (fun v8 M8 e h => ?_)
      have FM8 : hr_fr hW_X11_greatestSet M M8 := hr_fr.tr FM6 (hr_fr.mono (W := hW_X11_ones) rfl (fr_X11_ones x1 _ _ e))
      refine hr_Fi h (fun _ h => ?_) (fun _ h => ?_)
      · exact hr_fr.tr FM8 (ih x1 (x2 + 1) _ _ h)
      · refine hr_Fb h (fun v13 M13 e h => ?_)
        have FM13 : hr_fr hW_X11_greatestSet M M13 := hr_fr.tr FM8 (hr_fr.mono (W := hW_X11_isSet) rfl (fr_X11_isSet x2 1 _ _ e))
        refine hr_Fi h (fun _ h => ?_) (fun _ h => ?_)
        · exact hr_fr.tr FM13 (ih x1 (x2 + 1) _ _ h)
        · exact hr_fr.tr FM13 (ih x2 (x2 + 1) _ _ h)
theorem fr_X11_greatestSet  : ∀ (M : PM) (r : Int32 × PM), f_X11_greatestSet M = some r → hr_fr hW_X11_greatestSet M r.2 := by
  intro M r h
  unfold f_X11_greatestSet at h
  exact hr_fr.tr (hr_fr.rf _ M) (fr_X11_greatestSet_4 FU 0 1 _ _ h)
def hW_X11_curtains : List (Nat × Nat) := []
theorem fr_X11_curtains_15  : ∀ (f : Nat) (x1 : Int32) (x2 : Int32) (x3 : Int32) (M : PM) (r : Int32 × PM), f_X11_curtains_15 f x1 x2 x3 M = some r → hr_fr hW_X11_curtains M r.2 := by
  intro f
  induction f with
  | zero => intro x1 x2 x3 M r h; cases h
  | succ f ih =>
    intro x1 x2 x3 M r h
    rw [f_X11_curtains_15.eq_2] at h
    refine hr_Fi h (fun _ h => ?_) (fun _ h => ?_)
    · cases h
      exact (hr_fr.rf _ M)
    · refine hr_Fb h (fun v4 M4 e h => ?_)
      have FM4 : hr_fr hW_X11_curtains M M4 := hr_fr.tr (hr_fr.rf _ M) (hr_fr.mono (W := hW_X11_ones) rfl (fr_X11_ones x3 _ _ e))
      refine hr_Fb h (fun v6 M6 e h => ?_)
      have FM6 : hr_fr hW_X11_curtains M M6 := hr_fr.tr FM4 (hr_fr.mono (W := hW_X11_ones) rfl (fr_X11_ones x2 _ _ e))
      refine hr_Fi h (fun _ h => ?_) (fun _ h => ?_)
      · exact hr_fr.tr FM6 (ih x1 x2 (x3 + (-1)) _ _ h)
      · refine hr_Fb h (fun v11 M11 e h => ?_)
        have FM11 : hr_fr hW_X11_curtains M M11 := hr_fr.tr FM6 (hr_fr.mono (W := hW_X11_isSet) rfl (fr_X11_isSet (x1 &&& (x3 ^^^ (-1))) 0 _ _ e))
        refine hr_Fi h (fun _ h => ?_) (fun _ h => ?_)
        · exact hr_fr.tr FM11 (ih x1 x2 (x3 + (-1)) _ _ h)
        · exact hr_fr.tr FM11 (ih x1 x3 (x3 + (-1)) _ _ h)
theorem fr_X11_curtains  : ∀ (M : PM) (r : Int32 × PM), f_X11_curtains M = some r → hr_fr hW_X11_curtains M r.2 := by
  intro M r h
  unfold f_X11_curtains at h
  refine hr_Fb h (fun v2 M2 e h => ?_)
  have FM2 : hr_fr hW_X11_curtains M M2 := hr_fr.tr (hr_fr.rf _ M) (hr_fr.mono (W := hW_X11_pictures) rfl (fr_X11_pictures  _ _ e))
  exact hr_fr.tr FM2 (fr_X11_curtains_15 FU ((jl 1 v2) - 1) ((jl 1 v2) - 1) (((jl 1 v2) - 1) - 1) _ _ h)
