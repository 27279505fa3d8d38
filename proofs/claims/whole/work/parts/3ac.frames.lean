/-! printed by wip/whole/gen/gen40.py: what the functions may write -/
def hW_X9_answerOf : List (Nat × Nat) := [(249, 10), (249, 13), (255, 0), (256, 0)]
theorem fr_X9_answerOf (a1 : Nat) (a2 : Nat) (a3 : Int32) (a4 : Int32) : ∀ (M : PM) (r : Int32 × PM), f_X9_answerOf a1 a2 a3 a4 M = some r → hr_fr hW_X9_answerOf M r.2 := by
  intro M r h
  unfold f_X9_answerOf at h
  refine hr_Fg h (fun _ h => ?_)
  refine hr_Fg h (fun _ h => ?_)
  refine hr_Fi h (fun _ h => ?_) (fun _ h => ?_)
  · refine hr_Fb h (fun v3 M3 e h => ?_)
    have FM3 : hr_fr hW_X9_answerOf M M3 := hr_fr.tr (hr_fr.rf _ M) (hr_fr.mono (W := hW_X6_has) rfl (fr_X6_has a2 a4 _ _ e))
    refine hr_Fi h (fun _ h => ?_) (fun _ h => ?_)
    · cases h
      exact FM3
    · refine hr_Fg h (fun _ h => ?_)
      cases h
      exact FM3
  · refine hr_Fi h (fun _ h => ?_) (fun _ h => ?_)
    · refine hr_Fb h (fun v8 M8 e h => ?_)
      have FM8 : hr_fr hW_X9_answerOf M M8 := hr_fr.tr (hr_fr.rf _ M) (hr_fr.mono (W := hW_X6_has) rfl (fr_X6_has a2 a4 _ _ e))
      refine hr_Fi h (fun _ h => ?_) (fun _ h => ?_)
      · cases h
        exact FM8
      · refine hr_Fg h (fun _ h => ?_)
        cases h
        exact FM8
    · refine hr_Fi h (fun _ h => ?_) (fun _ h => ?_)
      · refine hr_Fi h (fun _ h => ?_) (fun _ h => ?_)
        · cases h
          exact (hr_fr.rf _ M)
        · refine hr_Fg h (fun _ h => ?_)
          cases h
          exact (hr_fr.rf _ M)
      · refine hr_Fi h (fun _ h => ?_) (fun _ h => ?_)
        · refine hr_Fi h (fun _ h => ?_) (fun _ h => ?_)
          · cases h
            exact (hr_fr.rf _ M)
          · refine hr_Fg h (fun _ h => ?_)
            cases h
            exact (hr_fr.rf _ M)
        · refine hr_Fi h (fun _ h => ?_) (fun _ h => ?_)
          · refine hr_Fi h (fun _ h => ?_) (fun _ h => ?_)
            · cases h
              exact (hr_fr.rf _ M)
            · refine hr_Fg h (fun _ h => ?_)
              cases h
              exact (hr_fr.rf _ M)
          · refine hr_Fi h (fun _ h => ?_) (fun _ h => ?_)
            · refine hr_Fi h (fun _ h => ?_) (fun _ h => ?_)
              · cases h
                exact (hr_fr.rf _ M)
              · refine hr_Fb h (fun v24 M24 e h => ?_)
                have FM24 : hr_fr hW_X9_answerOf M M24 := hr_fr.tr (hr_fr.rf _ M) (hr_fr.mono (W := hW_X9_rashOf) rfl (fr_X9_rashOf a1 a2 a4 _ _ e))
                cases h
                exact FM24
            · cases h
              exact (hr_fr.rf _ M)
def hW_X9_answer : List (Nat × Nat) := [(249, 10), (249, 13), (255, 0), (256, 0)]
theorem fr_X9_answer (a1 : Nat) (a2 : Nat) (a3 : Int32) : ∀ (M : PM) (r : Int32 × PM), f_X9_answer a1 a2 a3 M = some r → hr_fr hW_X9_answer M r.2 := by
  intro M r h
  unfold f_X9_answer at h
  refine hr_Fg h (fun _ h => ?_)
  refine hr_Fg h (fun _ h => ?_)
  refine hr_Fi h (fun _ h => ?_) (fun _ h => ?_)
  · cases h
    exact (hr_fr.rf _ M)
  · refine hr_Fi h (fun _ h => ?_) (fun _ h => ?_)
    · cases h
      exact (hr_fr.rf _ M)
    · refine hr_Fi h (fun _ h => ?_) (fun _ h => ?_)
      · cases h
        exact (hr_fr.rf _ M)
      · refine hr_Fi h (fun _ h => ?_) (fun _ h => ?_)
        · cases h
          exact (hr_fr.rf _ M)
        · refine hr_Fi h (fun _ h => ?_) (fun _ h => ?_)
          · refine hr_Fb h (fun v8 M8 e h => ?_)
            have FM8 : hr_fr hW_X9_answer M M8 := hr_fr.tr (hr_fr.rf _ M) (hr_fr.mono (W := hW_X9_answerOf) rfl (fr_X9_answerOf a1 a2 (a3 / 10) (jr a3 10) _ _ e))
            cases h
            exact FM8
          · cases h
            exact (hr_fr.rf _ M)
def hW_X10_feed : List (Nat × Nat) := [(1, 2), (2, 0)]
theorem fr_X10_feed (a1 : Int32) (a2 : Int32) (a3 : Int32) (a4 : Int32) (a5 : Int32) : ∀ (M : PM) (r : Int32 × PM), f_X10_feed a1 a2 a3 a4 a5 M = some r → hr_fr hW_X10_feed M r.2 := by
  intro M r h
  unfold f_X10_feed at h
  refine hr_Fi h (fun _ h => ?_) (fun _ h => ?_)
  · refine hr_Fb h (fun v3 M3 e h => ?_)
    have FM3 : hr_fr hW_X10_feed M M3 := hr_fr.tr (hr_fr.rf _ M) (hr_fr.mono (W := hW_X8_put) rfl (fr_X8_put a1 _ _ e))
    refine hr_Fb h (fun v5 M5 e h => ?_)
    have FM5 : hr_fr hW_X10_feed M M5 := hr_fr.tr FM3 (hr_fr.mono (W := hW_X8_put) rfl (fr_X8_put a2 _ _ e))
    refine hr_Fb h (fun v7 M7 e h => ?_)
    have FM7 : hr_fr hW_X10_feed M M7 := hr_fr.tr FM5 (hr_fr.mono (W := hW_X8_put) rfl (fr_X8_put a3 _ _ e))
    refine hr_Fb h (fun v9 M9 e h => ?_)
    have FM9 : hr_fr hW_X10_feed M M9 := hr_fr.tr FM7 (hr_fr.mono (W := hW_X8_put) rfl (fr_X8_put a4 _ _ e))
    refine hr_Fb h (fun v11 M11 e h => ?_)
    have FM11 : hr_fr hW_X10_feed M M11 := hr_fr.tr FM9 (hr_fr.mono (W := hW_X8_put) rfl (fr_X8_put a5 _ _ e))
    cases h
    exact FM11
  · cases h
    exact (hr_fr.rf _ M)
def hW_X10_end : List (Nat × Nat) := [(1, 2)]
theorem fr_X10_end (a1 : Int32) : ∀ (M : PM) (r : Int32 × PM), f_X10_end a1 M = some r → hr_fr hW_X10_end M r.2 := by
  intro M r h
  unfold f_X10_end at h
  refine hr_Fi h (fun _ h => ?_) (fun _ h => ?_)
  · cases h
    exact (hr_fr.rf _ M)
  · refine hr_Fi h (fun _ h => ?_) (fun _ h => ?_)
    · cases h
      exact (hr_fr.si rfl (hr_fr.rf _ M))
    · cases h
      exact (hr_fr.rf _ M)
def hW_X10_forgetAnswers : List (Nat × Nat) := [(240, 14), (240, 9), (265, 0)]
theorem fr_X10_forgetAnswers  : ∀ (M : PM) (r : Unit × PM), f_X10_forgetAnswers M = some r → hr_fr hW_X10_forgetAnswers M r.2 := by
  intro M r h
  unfold f_X10_forgetAnswers at h
  refine hr_Fb h (fun v2 M2 e h => ?_)
  have FM2 : hr_fr hW_X10_forgetAnswers M M2 := hr_fr.tr (hr_fr.rf _ M) (hr_fr.mono (W := hW_X1_forget) rfl (fr_X1_forget  _ _ e))
  refine hr_Fb h (fun v4 M4 e h => ?_)
  have FM4 : hr_fr hW_X10_forgetAnswers M M4 := hr_fr.tr FM2 (hr_fr.mono (W := hW_X2_forget) rfl (fr_X2_forget  _ _ e))
  cases h
  exact FM4
def hW_X10_fault : List (Nat × Nat) := []
theorem fr_X10_fault (a1 : Int32) : ∀ (M : PM) (r : Int32 × PM), f_X10_fault a1 M = some r → hr_fr hW_X10_fault M r.2 := by
  intro M r h
  unfold f_X10_fault at h
  refine hr_Fi h (fun _ h => ?_) (fun _ h => ?_)
  · cases h
    exact (hr_fr.rf _ M)
  · refine hr_Fi h (fun _ h => ?_) (fun _ h => ?_)
    · cases h
      exact (hr_fr.rf _ M)
    · cases h
      exact (hr_fr.rf _ M)
def hW_X10_rule : List (Nat × Nat) := []
theorem fr_X10_rule (a1 : Int32) (a2 : Int32) (a3 : Int32) : ∀ (M : PM) (r : Int32 × PM), f_X10_rule a1 a2 a3 M = some r → hr_fr hW_X10_rule M r.2 := by
  intro M r h
  unfold f_X10_rule at h
  refine hr_Fb h (fun v2 M2 e h => ?_)
  have FM2 : hr_fr hW_X10_rule M M2 := hr_fr.tr (hr_fr.rf _ M) (hr_fr.mono (W := hW_X8_paletteAt) rfl (fr_X8_paletteAt a1 _ _ e))
  refine hr_Fv h (fun hv h => ?_) (fun q2 hv h => ?_)
  · cases h
    exact FM2
  · refine hr_Fg h (fun _ h => ?_)
    refine hr_Fi h (fun _ h => ?_) (fun _ h => ?_)
    · cases h
      exact FM2
    · refine hr_Fi h (fun _ h => ?_) (fun _ h => ?_)
      · cases h
        exact FM2
      · refine hr_Fi h (fun _ h => ?_) (fun _ h => ?_)
        · cases h
          exact FM2
        · refine hr_Fi h (fun _ h => ?_) (fun _ h => ?_)
          · refine hr_Fg h (fun _ h => ?_)
            cases h
            exact FM2
          · cases h
            exact FM2
def hW_X10_strength : List (Nat × Nat) := []
theorem fr_X10_strength (a1 : Int32) (a2 : Int32) (a3 : Int32) : ∀ (M : PM) (r : Int32 × PM), f_X10_strength a1 a2 a3 M = some r → hr_fr hW_X10_strength M r.2 := by
  intro M r h
  unfold f_X10_strength at h
  refine hr_Fb h (fun v2 M2 e h => ?_)
  have FM2 : hr_fr hW_X10_strength M M2 := hr_fr.tr (hr_fr.rf _ M) (hr_fr.mono (W := hW_X8_paletteAt) rfl (fr_X8_paletteAt a1 _ _ e))
  refine hr_Fv h (fun hv h => ?_) (fun q2 hv h => ?_)
  · cases h
    exact FM2
  · refine hr_Fg h (fun _ h => ?_)
    refine hr_Fb h (fun v7 M7 e h => ?_)
    have FM7 : hr_fr hW_X10_strength M M7 := hr_fr.tr FM2 (hr_fr.mono (W := hW_X4_has) rfl (fr_X4_has q2 a2 _ _ e))
    refine hr_Fi h (fun _ h => ?_) (fun _ h => ?_)
    · cases h
      exact FM7
    · refine hr_Fb h (fun v11 M11 e h => ?_)
      have FM11 : hr_fr hW_X10_strength M M11 := hr_fr.tr FM7 (hr_fr.mono (W := hW_X4_has) rfl (fr_X4_has q2 a3 _ _ e))
      refine hr_Fi h (fun _ h => ?_) (fun _ h => ?_)
      · cases h
        exact FM11
      · refine hr_Fb h (fun v15 M15 e h => ?_)
        have FM15 : hr_fr hW_X10_strength M M15 := hr_fr.tr FM11 (hr_fr.mono (W := hW_X4_strengthOf) rfl (fr_X4_strengthOf q2 a2 a3 _ _ e))
        cases h
        exact FM15
def hW_X10_isTone : List (Nat × Nat) := []
theorem fr_X10_isTone (a0 : Int32) : ∀ (M : PM) (r : Int32 × PM), f_X10_isTone a0 M = some r → hr_fr hW_X10_isTone M r.2 := by
  intro M r h
  unfold f_X10_isTone at h
  refine hr_Fi h (fun _ h => ?_) (fun _ h => ?_)
  · cases h
    exact (hr_fr.rf _ M)
  · refine hr_Fi h (fun _ h => ?_) (fun _ h => ?_)
    · cases h
      exact (hr_fr.rf _ M)
    · cases h
      exact (hr_fr.rf _ M)
def hW_X10_minds : List (Nat × Nat) := []
theorem fr_X10_minds (a1 : Int32) (a2 : Int32) (a3 : Int32) (a4 : Int32) (a5 : Int32) : ∀ (M : PM) (r : Int32 × PM), f_X10_minds a1 a2 a3 a4 a5 M = some r → hr_fr hW_X10_minds M r.2 := by
  intro M r h
  unfold f_X10_minds at h
  refine hr_Fb h (fun v2 M2 e h => ?_)
  have FM2 : hr_fr hW_X10_minds M M2 := hr_fr.tr (hr_fr.rf _ M) (hr_fr.mono (W := hW_X8_paletteAt) rfl (fr_X8_paletteAt a1 _ _ e))
  refine hr_Fv h (fun hv h => ?_) (fun q2 hv h => ?_)
  · cases h
    exact FM2
  · refine hr_Fg h (fun _ h => ?_)
    refine hr_Fb h (fun v7 M7 e h => ?_)
    have FM7 : hr_fr hW_X10_minds M M7 := hr_fr.tr FM2 (hr_fr.mono (W := hW_X4_has) rfl (fr_X4_has q2 a2 _ _ e))
    refine hr_Fi h (fun _ h => ?_) (fun _ h => ?_)
    · cases h
      exact FM7
    · refine hr_Fb h (fun v11 M11 e h => ?_)
      have FM11 : hr_fr hW_X10_minds M M11 := hr_fr.tr FM7 (hr_fr.mono (W := hW_X10_isTone) rfl (fr_X10_isTone a3 _ _ e))
      refine hr_Fi h (fun _ h => ?_) (fun _ h => ?_)
      · cases h
        exact FM11
      · refine hr_Fb h (fun v15 M15 e h => ?_)
        have FM15 : hr_fr hW_X10_minds M M15 := hr_fr.tr FM11 (hr_fr.mono (W := hW_X10_isTone) rfl (fr_X10_isTone a4 _ _ e))
        refine hr_Fi h (fun _ h => ?_) (fun _ h => ?_)
        · cases h
          exact FM15
        · refine hr_Fb h (fun v19 M19 e h => ?_)
          have FM19 : hr_fr hW_X10_minds M M19 := hr_fr.tr FM15 (hr_fr.mono (W := hW_X10_isTone) rfl (fr_X10_isTone a5 _ _ e))
          refine hr_Fi h (fun _ h => ?_) (fun _ h => ?_)
          · cases h
            exact FM19
          · refine hr_Fb h (fun v23 M23 e h => ?_)
            have FM23 : hr_fr hW_X10_minds M M23 := hr_fr.tr FM19 (hr_fr.mono (W := hW_X4_strengthWith) rfl (fr_X4_strengthWith q2 a2 a3 a4 a5 _ _ e))
            cases h
            exact FM23
def hW_X10_gallery : List (Nat × Nat) := []
theorem fr_X10_gallery_62 (a1 : Int32) (a2 : Int32) (x3 : Nat) : ∀ (M : PM) (r : Int32 × PM), f_X10_gallery_62 a1 a2 x3 M = some r → hr_fr hW_X10_gallery M r.2 := by
  intro M r h
  unfold f_X10_gallery_62 at h
  refine hr_Fi h (fun _ h => ?_) (fun _ h => ?_)
  · cases h
    exact (hr_fr.rf _ M)
  · refine hr_Fi h (fun _ h => ?_) (fun _ h => ?_)
    · cases h
      exact (hr_fr.rf _ M)
    · refine hr_Fg h (fun _ h => ?_)
      cases h
      exact (hr_fr.rf _ M)
theorem fr_X10_gallery (a1 : Int32) (a2 : Int32) : ∀ (M : PM) (r : Int32 × PM), f_X10_gallery a1 a2 M = some r → hr_fr hW_X10_gallery M r.2 := by
  intro M r h
  unfold f_X10_gallery at h
  refine hr_Fb h (fun v2 M2 e h => ?_)
  have FM2 : hr_fr hW_X10_gallery M M2 := hr_fr.tr (hr_fr.rf _ M) (hr_fr.mono (W := hW_X8_rollAt) rfl (fr_X8_rollAt 1 a1 _ _ e))
  refine hr_Fv h (fun hv h => ?_) (fun q2 hv h => ?_)
  · cases h
    exact FM2
  · refine hr_Fg h (fun _ h => ?_)
    refine hr_Fi h (fun _ h => ?_) (fun _ h => ?_)
    · cases h
      exact FM2
    · refine hr_Fi h (fun _ h => ?_) (fun _ h => ?_)
      · cases h
        exact FM2
      · refine hr_Fi h (fun _ h => ?_) (fun _ h => ?_)
        · exact hr_fr.tr FM2 (fr_X10_gallery_62 a1 a2 q2 _ _ h)
        · refine hr_Fi h (fun _ h => ?_) (fun _ h => ?_)
          · exact hr_fr.tr FM2 (fr_X10_gallery_62 a1 a2 q2 _ _ h)
          · refine hr_Fg h (fun _ h => ?_)
            cases h
            exact FM2
def hW_X10_lineOf : List (Nat × Nat) := []
theorem fr_X10_lineOf (a0 : Value) (a1 : Int32) (a2 : Int32) : ∀ (M : PM) (r : Int32 × PM), f_X10_lineOf a0 a1 a2 M = some r → hr_fr hW_X10_lineOf M r.2 := by
  intro M r h
  unfold f_X10_lineOf at h
  refine hr_Fv h (fun hv h => ?_) (fun ra0 hv h => ?_)
  · cases h
    exact (hr_fr.rf _ M)
  · refine hr_Fg h (fun _ h => ?_)
    refine hr_Fi h (fun _ h => ?_) (fun _ h => ?_)
    · refine hr_Fi h (fun _ h => ?_) (fun _ h => ?_)
      · cases h
        exact (hr_fr.rf _ M)
      · cases h
        exact (hr_fr.rf _ M)
    · refine hr_Fb h (fun v9 M9 e h => ?_)
      have FM9 : hr_fr hW_X10_lineOf M M9 := hr_fr.tr (hr_fr.rf _ M) (hr_fr.mono (W := hW_X6_has) rfl (fr_X6_has ra0 a1 _ _ e))
      refine hr_Fi h (fun _ h => ?_) (fun _ h => ?_)
      · cases h
        exact FM9
      · refine hr_Fi h (fun _ h => ?_) (fun _ h => ?_)
        · refine hr_Fg h (fun _ h => ?_)
          cases h
          exact FM9
        · refine hr_Fi h (fun _ h => ?_) (fun _ h => ?_)
          · refine hr_Fg h (fun _ h => ?_)
            cases h
            exact FM9
          · refine hr_Fi h (fun _ h => ?_) (fun _ h => ?_)
            · refine hr_Fg h (fun _ h => ?_)
              cases h
              exact FM9
            · cases h
              exact FM9
def hW_X10_deed : List (Nat × Nat) := []
theorem fr_X10_deed (a1 : Int32) (a2 : Int32) (a3 : Int32) : ∀ (M : PM) (r : Int32 × PM), f_X10_deed a1 a2 a3 M = some r → hr_fr hW_X10_deed M r.2 := by
  intro M r h
  unfold f_X10_deed at h
  refine hr_Fb h (fun v2 M2 e h => ?_)
  have FM2 : hr_fr hW_X10_deed M M2 := hr_fr.tr (hr_fr.rf _ M) (hr_fr.mono (W := hW_X8_rollAt) rfl (fr_X8_rollAt 2 a1 _ _ e))
  refine hr_Fv h (fun hv h => ?_) (fun q2 hv h => ?_)
  · refine hr_Fb h (fun v4 M4 e h => ?_)
    have FM4 : hr_fr hW_X10_deed M M4 := hr_fr.tr FM2 (hr_fr.mono (W := hW_X10_lineOf) rfl (fr_X10_lineOf .null a2 a3 _ _ e))
    cases h
    exact FM4
  · refine hr_Fg h (fun _ h => ?_)
    refine hr_Fb h (fun v6 M6 e h => ?_)
    have FM6 : hr_fr hW_X10_deed M M6 := hr_fr.tr FM2 (hr_fr.mono (W := hW_X10_lineOf) rfl (fr_X10_lineOf (.ref q2) a2 a3 _ _ e))
    cases h
    exact FM6
def hW_X10_goTogether : List (Nat × Nat) := []
theorem fr_X10_goTogether (a0 : Value) (a1 : Value) : ∀ (M : PM) (r : Int32 × PM), f_X10_goTogether a0 a1 M = some r → hr_fr hW_X10_goTogether M r.2 := by
  intro M r h
  unfold f_X10_goTogether at h
  refine hr_Fv h (fun hv h => ?_) (fun ra0 hv h => ?_)
  · refine hr_Fv h (fun hv h => ?_) (fun ra1 hv h => ?_)
    · cases h
      exact (hr_fr.rf _ M)
    · refine hr_Fg h (fun _ h => ?_)
      cases h
      exact (hr_fr.rf _ M)
  · refine hr_Fg h (fun _ h => ?_)
    refine hr_Fv h (fun hv h => ?_) (fun ra1 hv h => ?_)
    · cases h
      exact (hr_fr.rf _ M)
    · refine hr_Fg h (fun _ h => ?_)
      refine hr_Fb h (fun v11 M11 e h => ?_)
      have FM11 : hr_fr hW_X10_goTogether M M11 := hr_fr.tr (hr_fr.rf _ M) (hr_fr.mono (W := hW_X4_hasAll) rfl (fr_X4_hasAll ra0 (M.1 ra1 2) _ _ e))
      refine hr_Fi h (fun _ h => ?_) (fun _ h => ?_)
      · cases h
        exact FM11
      · cases h
        exact FM11
def hW_X10_stop : List (Nat × Nat) := [(249, 1), (249, 10), (249, 13), (249, 2), (249, 3), (249, 4), (250, 0), (251, 0), (252, 0), (253, 0), (254, 0), (255, 0), (256, 0)]
theorem fr_X10_stop (a1 : Int32) (a2 : Int32) (a3 : Int32) : ∀ (M : PM) (r : Int32 × PM), f_X10_stop a1 a2 a3 M = some r → hr_fr hW_X10_stop M r.2 := by
  intro M r h
  unfold f_X10_stop at h
  refine hr_Fb h (fun v2 M2 e h => ?_)
  have FM2 : hr_fr hW_X10_stop M M2 := hr_fr.tr (hr_fr.rf _ M) (hr_fr.mono (W := hW_X8_paletteAt) rfl (fr_X8_paletteAt a1 _ _ e))
  refine hr_Fv h (fun hv h => ?_) (fun q2 hv h => ?_)
  · refine hr_Fb h (fun v4 M4 e h => ?_)
    have FM4 : hr_fr hW_X10_stop M M4 := hr_fr.tr FM2 (hr_fr.mono (W := hW_X8_rollAt) rfl (fr_X8_rollAt 1 a2 _ _ e))
    refine hr_Fv h (fun hv h => ?_) (fun q4 hv h => ?_)
    · refine hr_Fb h (fun v6 M6 e h => ?_)
      have FM6 : hr_fr hW_X10_stop M M6 := hr_fr.tr FM4 (hr_fr.mono (W := hW_X8_rollAt) rfl (fr_X8_rollAt 2 a3 _ _ e))
      refine hr_Fv h (fun hv h => ?_) (fun q6 hv h => ?_)
      · cases h
        exact FM6
      · refine hr_Fg h (fun _ h => ?_)
        refine hr_Fb h (fun v11 M11 e h => ?_)
        have FM11 : hr_fr hW_X10_stop M M11 := hr_fr.tr FM6 (hr_fr.mono (W := hW_X10_goTogether) rfl (fr_X10_goTogether .null .null _ _ e))
        refine hr_Fg h (fun _ h => ?_)
        cases h
        exact FM11
    · refine hr_Fg h (fun _ h => ?_)
      refine hr_Fb h (fun v16 M16 e h => ?_)
      have FM16 : hr_fr hW_X10_stop M M16 := hr_fr.tr FM4 (hr_fr.mono (W := hW_X8_rollAt) rfl (fr_X8_rollAt 2 a3 _ _ e))
      refine hr_Fv h (fun hv h => ?_) (fun q16 hv h => ?_)
      · cases h
        exact FM16
      · refine hr_Fg h (fun _ h => ?_)
        refine hr_Fb h (fun v21 M21 e h => ?_)
        have FM21 : hr_fr hW_X10_stop M M21 := hr_fr.tr FM16 (hr_fr.mono (W := hW_X10_goTogether) rfl (fr_X10_goTogether .null (.ref q4) _ _ e))
        refine hr_Fg h (fun _ h => ?_)
        cases h
        exact FM21
  · refine hr_Fg h (fun _ h => ?_)
    refine hr_Fb h (fun v26 M26 e h => ?_)
    have FM26 : hr_fr hW_X10_stop M M26 := hr_fr.tr FM2 (hr_fr.mono (W := hW_X8_rollAt) rfl (fr_X8_rollAt 1 a2 _ _ e))
    refine hr_Fv h (fun hv h => ?_) (fun q26 hv h => ?_)
    · refine hr_Fb h (fun v28 M28 e h => ?_)
      have FM28 : hr_fr hW_X10_stop M M28 := hr_fr.tr FM26 (hr_fr.mono (W := hW_X8_rollAt) rfl (fr_X8_rollAt 2 a3 _ _ e))
      refine hr_Fv h (fun hv h => ?_) (fun q28 hv h => ?_)
      · cases h
        exact FM28
      · refine hr_Fg h (fun _ h => ?_)
        refine hr_Fb h (fun v33 M33 e h => ?_)
        have FM33 : hr_fr hW_X10_stop M M33 := hr_fr.tr FM28 (hr_fr.mono (W := hW_X10_goTogether) rfl (fr_X10_goTogether (.ref q2) .null _ _ e))
        refine hr_Fg h (fun _ h => ?_)
        cases h
        exact FM33
    · refine hr_Fg h (fun _ h => ?_)
      refine hr_Fb h (fun v38 M38 e h => ?_)
      have FM38 : hr_fr hW_X10_stop M M38 := hr_fr.tr FM26 (hr_fr.mono (W := hW_X8_rollAt) rfl (fr_X8_rollAt 2 a3 _ _ e))
      refine hr_Fv h (fun hv h => ?_) (fun q38 hv h => ?_)
      · cases h
        exact FM38
      · refine hr_Fg h (fun _ h => ?_)
        refine hr_Fb h (fun v43 M43 e h => ?_)
        have FM43 : hr_fr hW_X10_stop M M43 := hr_fr.tr FM38 (hr_fr.mono (W := hW_X10_goTogether) rfl (fr_X10_goTogether (.ref q2) (.ref q26) _ _ e))
        refine hr_Fi h (fun _ h => ?_) (fun _ h => ?_)
        · cases h
          exact FM43
        · refine hr_Fb h (fun v47 M47 e h => ?_)
          have FM47 : hr_fr hW_X10_stop M M47 := hr_fr.tr FM43 (hr_fr.mono (W := hW_X9_go) rfl (fr_X9_go q2 q26 q38 (M43.1 q38 0) _ _ e))
          cases h
          exact FM47
def hW_X10_state : List (Nat × Nat) := [(249, 1), (249, 10), (249, 13), (249, 2), (249, 3), (249, 4), (250, 0), (251, 0), (252, 0), (253, 0), (254, 0), (255, 0), (256, 0)]
theorem fr_X10_state (a1 : Int32) (a2 : Int32) (a3 : Int32) (a4 : Int32) (a5 : Int32) : ∀ (M : PM) (r : Int32 × PM), f_X10_state a1 a2 a3 a4 a5 M = some r → hr_fr hW_X10_state M r.2 := by
  intro M r h
  unfold f_X10_state at h
  refine hr_Fb h (fun v2 M2 e h => ?_)
  have FM2 : hr_fr hW_X10_state M M2 := hr_fr.tr (hr_fr.rf _ M) (hr_fr.mono (W := hW_X8_paletteAt) rfl (fr_X8_paletteAt a1 _ _ e))
  refine hr_Fv h (fun hv h => ?_) (fun q2 hv h => ?_)
  · refine hr_Fb h (fun v4 M4 e h => ?_)
    have FM4 : hr_fr hW_X10_state M M4 := hr_fr.tr FM2 (hr_fr.mono (W := hW_X8_rollAt) rfl (fr_X8_rollAt 1 a2 _ _ e))
    refine hr_Fv h (fun hv h => ?_) (fun q4 hv h => ?_)
    · refine hr_Fb h (fun v6 M6 e h => ?_)
      have FM6 : hr_fr hW_X10_state M M6 := hr_fr.tr FM4 (hr_fr.mono (W := hW_X8_rollAt) rfl (fr_X8_rollAt 2 a3 _ _ e))
      refine hr_Fv h (fun hv h => ?_) (fun q6 hv h => ?_)
      · cases h
        exact FM6
      · refine hr_Fg h (fun _ h => ?_)
        refine hr_Fb h (fun v11 M11 e h => ?_)
        have FM11 : hr_fr hW_X10_state M M11 := hr_fr.tr FM6 (hr_fr.mono (W := hW_X10_goTogether) rfl (fr_X10_goTogether .null .null _ _ e))
        refine hr_Fi h (fun _ h => ?_) (fun _ h => ?_)
        · cases h
          exact FM11
        · refine hr_Fi h (fun _ h => ?_) (fun _ h => ?_)
          · cases h
            exact FM11
          · refine hr_Fi h (fun _ h => ?_) (fun _ h => ?_)
            · cases h
            · cases h
              exact FM11
    · refine hr_Fg h (fun _ h => ?_)
      refine hr_Fb h (fun v20 M20 e h => ?_)
      have FM20 : hr_fr hW_X10_state M M20 := hr_fr.tr FM4 (hr_fr.mono (W := hW_X8_rollAt) rfl (fr_X8_rollAt 2 a3 _ _ e))
      refine hr_Fv h (fun hv h => ?_) (fun q20 hv h => ?_)
      · cases h
        exact FM20
      · refine hr_Fg h (fun _ h => ?_)
        refine hr_Fb h (fun v25 M25 e h => ?_)
        have FM25 : hr_fr hW_X10_state M M25 := hr_fr.tr FM20 (hr_fr.mono (W := hW_X10_goTogether) rfl (fr_X10_goTogether .null (.ref q4) _ _ e))
        refine hr_Fi h (fun _ h => ?_) (fun _ h => ?_)
        · cases h
          exact FM25
        · refine hr_Fi h (fun _ h => ?_) (fun _ h => ?_)
          · cases h
            exact FM25
          · refine hr_Fi h (fun _ h => ?_) (fun _ h => ?_)
            · cases h
            · cases h
              exact FM25
  · refine hr_Fg h (fun _ h => ?_)
    refine hr_Fb h (fun v34 M34 e h => ?_)
    have FM34 : hr_fr hW_X10_state M M34 := hr_fr.tr FM2 (hr_fr.mono (W := hW_X8_rollAt) rfl (fr_X8_rollAt 1 a2 _ _ e))
    refine hr_Fv h (fun hv h => ?_) (fun q34 hv h => ?_)
    · refine hr_Fb h (fun v36 M36 e h => ?_)
      have FM36 : hr_fr hW_X10_state M M36 := hr_fr.tr FM34 (hr_fr.mono (W := hW_X8_rollAt) rfl (fr_X8_rollAt 2 a3 _ _ e))
      refine hr_Fv h (fun hv h => ?_) (fun q36 hv h => ?_)
      · cases h
        exact FM36
      · refine hr_Fg h (fun _ h => ?_)
        refine hr_Fb h (fun v41 M41 e h => ?_)
        have FM41 : hr_fr hW_X10_state M M41 := hr_fr.tr FM36 (hr_fr.mono (W := hW_X10_goTogether) rfl (fr_X10_goTogether (.ref q2) .null _ _ e))
        refine hr_Fi h (fun _ h => ?_) (fun _ h => ?_)
        · cases h
          exact FM41
        · refine hr_Fi h (fun _ h => ?_) (fun _ h => ?_)
          · cases h
            exact FM41
          · refine hr_Fi h (fun _ h => ?_) (fun _ h => ?_)
            · cases h
            · cases h
              exact FM41
    · refine hr_Fg h (fun _ h => ?_)
      refine hr_Fb h (fun v50 M50 e h => ?_)
      have FM50 : hr_fr hW_X10_state M M50 := hr_fr.tr FM34 (hr_fr.mono (W := hW_X8_rollAt) rfl (fr_X8_rollAt 2 a3 _ _ e))
      refine hr_Fv h (fun hv h => ?_) (fun q50 hv h => ?_)
      · cases h
        exact FM50
      · refine hr_Fg h (fun _ h => ?_)
        refine hr_Fb h (fun v55 M55 e h => ?_)
        have FM55 : hr_fr hW_X10_state M M55 := hr_fr.tr FM50 (hr_fr.mono (W := hW_X10_goTogether) rfl (fr_X10_goTogether (.ref q2) (.ref q34) _ _ e))
        refine hr_Fi h (fun _ h => ?_) (fun _ h => ?_)
        · cases h
          exact FM55
        · refine hr_Fi h (fun _ h => ?_) (fun _ h => ?_)
          · cases h
            exact FM55
          · refine hr_Fi h (fun _ h => ?_) (fun _ h => ?_)
            · refine hr_Fb h (fun v62 M62 e h => ?_)
              have FM62 : hr_fr hW_X10_state M M62 := hr_fr.tr FM55 (hr_fr.mono (W := hW_X9_go) rfl (fr_X9_go q2 q34 q50 a4 _ _ e))
              refine hr_Fi h (fun _ h => ?_) (fun _ h => ?_)
              · refine hr_Fb h (fun v65 M65 e h => ?_)
                have FM65 : hr_fr hW_X10_state M M65 := hr_fr.tr FM62 (hr_fr.mono (W := hW_X9_answer) rfl (fr_X9_answer q2 q34 a5 _ _ e))
                cases h
                exact FM65
              · cases h
                exact FM62
            · cases h
              exact FM55
def hW_X10_hung : List (Nat × Nat) := [(240, 1), (241, 0), (242, 0), (243, 0), (246, 0), (247, 0)]
theorem fr_X10_hung (a1 : Int32) (a2 : Int32) (a3 : Int32) : ∀ (M : PM) (r : Int32 × PM), f_X10_hung a1 a2 a3 M = some r → hr_fr hW_X10_hung M r.2 := by
  intro M r h
  unfold f_X10_hung at h
  refine hr_Fb h (fun v2 M2 e h => ?_)
  have FM2 : hr_fr hW_X10_hung M M2 := hr_fr.tr (hr_fr.rf _ M) (hr_fr.mono (W := hW_X8_paletteAt) rfl (fr_X8_paletteAt a1 _ _ e))
  refine hr_Fv h (fun hv h => ?_) (fun q2 hv h => ?_)
  · refine hr_Fb h (fun v4 M4 e h => ?_)
    have FM4 : hr_fr hW_X10_hung M M4 := hr_fr.tr FM2 (hr_fr.mono (W := hW_X8_rollAt) rfl (fr_X8_rollAt 1 a2 _ _ e))
    refine hr_Fv h (fun hv h => ?_) (fun q4 hv h => ?_)
    · refine hr_Fb h (fun v6 M6 e h => ?_)
      have FM6 : hr_fr hW_X10_hung M M6 := hr_fr.tr FM4 (hr_fr.mono (W := hW_X10_goTogether) rfl (fr_X10_goTogether .null .null _ _ e))
      refine hr_Fi h (fun _ h => ?_) (fun _ h => ?_)
      · cases h
        exact FM6
      · refine hr_Fi h (fun _ h => ?_) (fun _ h => ?_)
        · cases h
        · refine hr_Fg h (fun _ h => ?_)
          cases h
    · refine hr_Fg h (fun _ h => ?_)
      refine hr_Fb h (fun v15 M15 e h => ?_)
      have FM15 : hr_fr hW_X10_hung M M15 := hr_fr.tr FM4 (hr_fr.mono (W := hW_X10_goTogether) rfl (fr_X10_goTogether .null (.ref q4) _ _ e))
      refine hr_Fi h (fun _ h => ?_) (fun _ h => ?_)
      · cases h
        exact FM15
      · refine hr_Fi h (fun _ h => ?_) (fun _ h => ?_)
        · cases h
        · refine hr_Fg h (fun _ h => ?_)
          cases h
  · refine hr_Fg h (fun _ h => ?_)
    refine hr_Fb h (fun v24 M24 e h => ?_)
    have FM24 : hr_fr hW_X10_hung M M24 := hr_fr.tr FM2 (hr_fr.mono (W := hW_X8_rollAt) rfl (fr_X8_rollAt 1 a2 _ _ e))
    refine hr_Fv h (fun hv h => ?_) (fun q24 hv h => ?_)
    · refine hr_Fb h (fun v26 M26 e h => ?_)
      have FM26 : hr_fr hW_X10_hung M M26 := hr_fr.tr FM24 (hr_fr.mono (W := hW_X10_goTogether) rfl (fr_X10_goTogether (.ref q2) .null _ _ e))
      refine hr_Fi h (fun _ h => ?_) (fun _ h => ?_)
      · cases h
        exact FM26
      · refine hr_Fi h (fun _ h => ?_) (fun _ h => ?_)
        · cases h
        · refine hr_Fg h (fun _ h => ?_)
          cases h
    · refine hr_Fg h (fun _ h => ?_)
      refine hr_Fb h (fun v35 M35 e h => ?_)
      have FM35 : hr_fr hW_X10_hung M M35 := hr_fr.tr FM24 (hr_fr.mono (W := hW_X10_goTogether) rfl (fr_X10_goTogether (.ref q2) (.ref q24) _ _ e))
      refine hr_Fi h (fun _ h => ?_) (fun _ h => ?_)
      · cases h
        exact FM35
      · refine hr_Fi h (fun _ h => ?_) (fun _ h => ?_)
        · refine hr_Fb h (fun v40 M40 e h => ?_)
          have FM40 : hr_fr hW_X10_hung M M40 := hr_fr.tr FM35 (hr_fr.mono (W := hW_X4_worstOf) rfl (fr_X4_worstOf q2 q24 _ _ e))
          cases h
          exact FM40
        · refine hr_Fi h (fun _ h => ?_) (fun _ h => ?_)
          · refine hr_Fb h (fun v43 M43 e h => ?_)
            have FM43 : hr_fr hW_X10_hung M M43 := hr_fr.tr FM35 (hr_fr.mono (W := hW_X4_strengthsOf) rfl (fr_X4_strengthsOf q2 q24 _ _ e))
            cases h
            exact FM43
          · refine hr_Fb h (fun v45 M45 e h => ?_)
            have FM45 : hr_fr hW_X10_hung M M45 := hr_fr.tr FM35 (hr_fr.mono (W := hW_X1_gatherPictures) rfl (fr_X1_gatherPictures q2 q24 _ _ e))
            refine hr_Fi h (fun _ h => ?_) (fun _ h => ?_)
            · refine hr_Fb h (fun v48 M48 e h => ?_)
              have FM48 : hr_fr hW_X10_hung M M48 := hr_fr.tr FM45 (hr_fr.mono (W := hW_X1_fewestParts) rfl (fr_X1_fewestParts  _ _ e))
              cases h
              exact FM48
            · refine hr_Fi h (fun _ h => ?_) (fun _ h => ?_)
              · refine hr_Fb h (fun v51 M51 e h => ?_)
                have FM51 : hr_fr hW_X10_hung M M51 := hr_fr.tr FM45 (hr_fr.mono (W := hW_X1_greatestQuarrel) rfl (fr_X1_greatestQuarrel  _ _ e))
                cases h
                exact FM51
              · refine hr_Fi h (fun _ h => ?_) (fun _ h => ?_)
                · refine hr_Fb h (fun v54 M54 e h => ?_)
                  have FM54 : hr_fr hW_X10_hung M M54 := hr_fr.tr FM45 (hr_fr.mono (W := hW_X1_fewestHidden) rfl (fr_X1_fewestHidden  _ _ e))
                  cases h
                  exact FM54
                · cases h
                  exact FM45
def hW_X10_lineUpPictures : List (Nat × Nat) := [(240, 1), (240, 7), (240, 8), (240, 9), (241, 0), (242, 0), (243, 0), (244, 0), (245, 0)]
theorem fr_X10_lineUpPictures (a1 : Int32) (a2 : Int32) : ∀ (M : PM) (r : Int32 × PM), f_X10_lineUpPictures a1 a2 M = some r → hr_fr hW_X10_lineUpPictures M r.2 := by
  intro M r h
  unfold f_X10_lineUpPictures at h
  refine hr_Fb h (fun v2 M2 e h => ?_)
  have FM2 : hr_fr hW_X10_lineUpPictures M M2 := hr_fr.tr (hr_fr.rf _ M) (hr_fr.mono (W := hW_X8_paletteAt) rfl (fr_X8_paletteAt a1 _ _ e))
  refine hr_Fv h (fun hv h => ?_) (fun q2 hv h => ?_)
  · refine hr_Fb h (fun v4 M4 e h => ?_)
    have FM4 : hr_fr hW_X10_lineUpPictures M M4 := hr_fr.tr FM2 (hr_fr.mono (W := hW_X8_rollAt) rfl (fr_X8_rollAt 1 a2 _ _ e))
    refine hr_Fv h (fun hv h => ?_) (fun q4 hv h => ?_)
    · refine hr_Fb h (fun v6 M6 e h => ?_)
      have FM6 : hr_fr hW_X10_lineUpPictures M M6 := hr_fr.tr FM4 (hr_fr.mono (W := hW_X10_goTogether) rfl (fr_X10_goTogether .null .null _ _ e))
      refine hr_Fi h (fun _ h => ?_) (fun _ h => ?_)
      · cases h
        exact FM6
      · refine hr_Fg h (fun _ h => ?_)
        cases h
        exact FM6
    · refine hr_Fg h (fun _ h => ?_)
      refine hr_Fb h (fun v13 M13 e h => ?_)
      have FM13 : hr_fr hW_X10_lineUpPictures M M13 := hr_fr.tr FM4 (hr_fr.mono (W := hW_X10_goTogether) rfl (fr_X10_goTogether .null (.ref q4) _ _ e))
      refine hr_Fi h (fun _ h => ?_) (fun _ h => ?_)
      · cases h
        exact FM13
      · refine hr_Fg h (fun _ h => ?_)
        cases h
        exact FM13
  · refine hr_Fg h (fun _ h => ?_)
    refine hr_Fb h (fun v20 M20 e h => ?_)
    have FM20 : hr_fr hW_X10_lineUpPictures M M20 := hr_fr.tr FM2 (hr_fr.mono (W := hW_X8_rollAt) rfl (fr_X8_rollAt 1 a2 _ _ e))
    refine hr_Fv h (fun hv h => ?_) (fun q20 hv h => ?_)
    · refine hr_Fb h (fun v22 M22 e h => ?_)
      have FM22 : hr_fr hW_X10_lineUpPictures M M22 := hr_fr.tr FM20 (hr_fr.mono (W := hW_X10_goTogether) rfl (fr_X10_goTogether (.ref q2) .null _ _ e))
      refine hr_Fi h (fun _ h => ?_) (fun _ h => ?_)
      · cases h
        exact FM22
      · refine hr_Fg h (fun _ h => ?_)
        cases h
        exact FM22
    · refine hr_Fg h (fun _ h => ?_)
      refine hr_Fb h (fun v29 M29 e h => ?_)
      have FM29 : hr_fr hW_X10_lineUpPictures M M29 := hr_fr.tr FM20 (hr_fr.mono (W := hW_X10_goTogether) rfl (fr_X10_goTogether (.ref q2) (.ref q20) _ _ e))
      refine hr_Fi h (fun _ h => ?_) (fun _ h => ?_)
      · cases h
        exact FM29
      · refine hr_Fi h (fun _ h => ?_) (fun _ h => ?_)
        · cases h
          exact FM29
        · refine hr_Fb h (fun v35 M35 e h => ?_)
          have FM35 : hr_fr hW_X10_lineUpPictures M M35 := hr_fr.tr FM29 (hr_fr.mono (W := hW_X1_gatherPictures) rfl (fr_X1_gatherPictures q2 q20 _ _ e))
          refine hr_Fb h (fun v37 M37 e h => ?_)
          have FM37 : hr_fr hW_X10_lineUpPictures M M37 := hr_fr.tr FM35 (hr_fr.mono (W := hW_X1_lineUp) rfl (fr_X1_lineUp  _ _ e))
          cases h
          exact (hr_fr.si rfl FM37)
def hW_X10_rows : List (Nat × Nat) := [(240, 1), (240, 7), (240, 8), (240, 9), (241, 0), (242, 0), (243, 0), (244, 0), (245, 0)]
theorem fr_X10_rows (a1 : Int32) (a2 : Int32) : ∀ (M : PM) (r : Int64 × PM), f_X10_rows a1 a2 M = some r → hr_fr hW_X10_rows M r.2 := by
  intro M r h
  unfold f_X10_rows at h
  refine hr_Fb h (fun v2 M2 e h => ?_)
  have FM2 : hr_fr hW_X10_rows M M2 := hr_fr.tr (hr_fr.rf _ M) (hr_fr.mono (W := hW_X10_lineUpPictures) rfl (fr_X10_lineUpPictures a1 a2 _ _ e))
  refine hr_Fi h (fun _ h => ?_) (fun _ h => ?_)
  · cases h
    exact FM2
  · cases h
    exact FM2
def hW_X10_row : List (Nat × Nat) := [(240, 1), (240, 7), (240, 8), (240, 9), (241, 0), (242, 0), (243, 0), (244, 0), (245, 0)]
theorem fr_X10_row (a1 : Int32) (a2 : Int32) (a3 : Int32) : ∀ (M : PM) (r : Int32 × PM), f_X10_row a1 a2 a3 M = some r → hr_fr hW_X10_row M r.2 := by
  intro M r h
  unfold f_X10_row at h
  refine hr_Fb h (fun v2 M2 e h => ?_)
  have FM2 : hr_fr hW_X10_row M M2 := hr_fr.tr (hr_fr.rf _ M) (hr_fr.mono (W := hW_X10_lineUpPictures) rfl (fr_X10_lineUpPictures a1 a2 _ _ e))
  refine hr_Fi h (fun _ h => ?_) (fun _ h => ?_)
  · cases h
    exact FM2
  · refine hr_Fb h (fun v6 M6 e h => ?_)
    have FM6 : hr_fr hW_X10_row M M6 := hr_fr.tr FM2 (hr_fr.mono (W := hW_X1_placed) rfl (fr_X1_placed a3 _ _ e))
    cases h
    exact FM6
def hW_X10_repainted : List (Nat × Nat) := [(258, 0), (259, 0)]
theorem fr_X10_repainted (a1 : Int32) (a2 : Int32) (a3 : Int32) : ∀ (M : PM) (r : Int32 × PM), f_X10_repainted a1 a2 a3 M = some r → hr_fr hW_X10_repainted M r.2 := by
  intro M r h
  unfold f_X10_repainted at h
  refine hr_Fb h (fun v2 M2 e h => ?_)
  have FM2 : hr_fr hW_X10_repainted M M2 := hr_fr.tr (hr_fr.rf _ M) (hr_fr.mono (W := hW_X8_paletteAt) rfl (fr_X8_paletteAt a1 _ _ e))
  refine hr_Fv h (fun hv h => ?_) (fun q2 hv h => ?_)
  · refine hr_Fb h (fun v4 M4 e h => ?_)
    have FM4 : hr_fr hW_X10_repainted M M4 := hr_fr.tr FM2 (hr_fr.mono (W := hW_X8_rollAt) rfl (fr_X8_rollAt 1 a2 _ _ e))
    refine hr_Fv h (fun hv h => ?_) (fun q4 hv h => ?_)
    · refine hr_Fb h (fun v6 M6 e h => ?_)
      have FM6 : hr_fr hW_X10_repainted M M6 := hr_fr.tr FM4 (hr_fr.mono (W := hW_X10_goTogether) rfl (fr_X10_goTogether .null .null _ _ e))
      refine hr_Fg h (fun _ h => ?_)
      cases h
      exact FM6
    · refine hr_Fg h (fun _ h => ?_)
      refine hr_Fb h (fun v11 M11 e h => ?_)
      have FM11 : hr_fr hW_X10_repainted M M11 := hr_fr.tr FM4 (hr_fr.mono (W := hW_X10_goTogether) rfl (fr_X10_goTogether .null (.ref q4) _ _ e))
      refine hr_Fg h (fun _ h => ?_)
      cases h
      exact FM11
  · refine hr_Fg h (fun _ h => ?_)
    refine hr_Fb h (fun v16 M16 e h => ?_)
    have FM16 : hr_fr hW_X10_repainted M M16 := hr_fr.tr FM2 (hr_fr.mono (W := hW_X8_rollAt) rfl (fr_X8_rollAt 1 a2 _ _ e))
    refine hr_Fv h (fun hv h => ?_) (fun q16 hv h => ?_)
    · refine hr_Fb h (fun v18 M18 e h => ?_)
      have FM18 : hr_fr hW_X10_repainted M M18 := hr_fr.tr FM16 (hr_fr.mono (W := hW_X10_goTogether) rfl (fr_X10_goTogether (.ref q2) .null _ _ e))
      refine hr_Fg h (fun _ h => ?_)
      cases h
      exact FM18
    · refine hr_Fg h (fun _ h => ?_)
      refine hr_Fb h (fun v23 M23 e h => ?_)
      have FM23 : hr_fr hW_X10_repainted M M23 := hr_fr.tr FM16 (hr_fr.mono (W := hW_X10_goTogether) rfl (fr_X10_goTogether (.ref q2) (.ref q16) _ _ e))
      refine hr_Fi h (fun _ h => ?_) (fun _ h => ?_)
      · cases h
        exact FM23
      · refine hr_Fb h (fun v27 M27 e h => ?_)
        have FM27 : hr_fr hW_X10_repainted M M27 := hr_fr.tr FM23 (hr_fr.mono (W := hW_X0_repaint) rfl (fr_X0_repaint q2 q16 _ _ e))
        refine hr_Fi h (fun _ h => ?_) (fun _ h => ?_)
        · cases h
          exact FM27
        · refine hr_Fi h (fun _ h => ?_) (fun _ h => ?_)
          · cases h
            exact FM27
          · refine hr_Fi h (fun _ h => ?_) (fun _ h => ?_)
            · cases h
              exact FM27
            · refine hr_Fi h (fun _ h => ?_) (fun _ h => ?_)
              · cases h
                exact FM27
              · refine hr_Fg h (fun _ h => ?_)
                cases h
                exact FM27
def hW_X10_lineUpHues : List (Nat × Nat) := [(240, 1), (240, 7), (240, 8), (240, 9), (241, 0), (242, 0), (243, 0), (244, 0), (245, 0)]
theorem fr_X10_lineUpHues (a1 : Int32) (a2 : Int32) : ∀ (M : PM) (r : Int32 × PM), f_X10_lineUpHues a1 a2 M = some r → hr_fr hW_X10_lineUpHues M r.2 := by
  intro M r h
  unfold f_X10_lineUpHues at h
  refine hr_Fb h (fun v2 M2 e h => ?_)
  have FM2 : hr_fr hW_X10_lineUpHues M M2 := hr_fr.tr (hr_fr.rf _ M) (hr_fr.mono (W := hW_X8_paletteAt) rfl (fr_X8_paletteAt a1 _ _ e))
  refine hr_Fv h (fun hv h => ?_) (fun q2 hv h => ?_)
  · cases h
    exact FM2
  · refine hr_Fg h (fun _ h => ?_)
    refine hr_Fb h (fun v7 M7 e h => ?_)
    have FM7 : hr_fr hW_X10_lineUpHues M M7 := hr_fr.tr FM2 (hr_fr.mono (W := hW_X4_all) rfl (fr_X4_all q2 _ _ e))
    refine hr_Fi h (fun _ h => ?_) (fun _ h => ?_)
    · cases h
      exact FM7
    · refine hr_Fb h (fun v11 M11 e h => ?_)
      have FM11 : hr_fr hW_X10_lineUpHues M M11 := hr_fr.tr FM7 (hr_fr.mono (W := hW_X1_gatherHues) rfl (fr_X1_gatherHues q2 (a2 &&& v7) _ _ e))
      refine hr_Fb h (fun v13 M13 e h => ?_)
      have FM13 : hr_fr hW_X10_lineUpHues M M13 := hr_fr.tr FM11 (hr_fr.mono (W := hW_X1_lineUp) rfl (fr_X1_lineUp  _ _ e))
      cases h
      exact (hr_fr.si rfl FM13)
def hW_X10_loom : List (Nat × Nat) := [(240, 1), (240, 7), (240, 8), (240, 9), (241, 0), (242, 0), (243, 0), (244, 0), (245, 0)]
theorem fr_X10_loom (a1 : Int32) (a2 : Int32) : ∀ (M : PM) (r : Int64 × PM), f_X10_loom a1 a2 M = some r → hr_fr hW_X10_loom M r.2 := by
  intro M r h
  unfold f_X10_loom at h
  refine hr_Fb h (fun v2 M2 e h => ?_)
  have FM2 : hr_fr hW_X10_loom M M2 := hr_fr.tr (hr_fr.rf _ M) (hr_fr.mono (W := hW_X10_lineUpHues) rfl (fr_X10_lineUpHues a1 a2 _ _ e))
  refine hr_Fi h (fun _ h => ?_) (fun _ h => ?_)
  · cases h
    exact FM2
  · cases h
    exact FM2
def hW_X10_thread : List (Nat × Nat) := [(240, 1), (240, 7), (240, 8), (240, 9), (241, 0), (242, 0), (243, 0), (244, 0), (245, 0)]
theorem fr_X10_thread (a1 : Int32) (a2 : Int32) (a3 : Int32) : ∀ (M : PM) (r : Int32 × PM), f_X10_thread a1 a2 a3 M = some r → hr_fr hW_X10_thread M r.2 := by
  intro M r h
  unfold f_X10_thread at h
  refine hr_Fb h (fun v2 M2 e h => ?_)
  have FM2 : hr_fr hW_X10_thread M M2 := hr_fr.tr (hr_fr.rf _ M) (hr_fr.mono (W := hW_X10_lineUpHues) rfl (fr_X10_lineUpHues a1 a2 _ _ e))
  refine hr_Fi h (fun _ h => ?_) (fun _ h => ?_)
  · cases h
    exact FM2
  · refine hr_Fb h (fun v6 M6 e h => ?_)
    have FM6 : hr_fr hW_X10_thread M M6 := hr_fr.tr FM2 (hr_fr.mono (W := hW_X1_placed) rfl (fr_X1_placed a3 _ _ e))
    cases h
    exact FM6
def hW_X10_mix : List (Nat × Nat) := [(257, 10), (257, 7), (257, 8), (257, 9), (260, 0), (261, 0), (262, 0), (263, 0)]
theorem fr_X10_mix (a1 : Int32) (a2 : Int32) (a3 : Int32) (a4 : Int32) : ∀ (M : PM) (r : Int32 × PM), f_X10_mix a1 a2 a3 a4 M = some r → hr_fr hW_X10_mix M r.2 := by
  intro M r h
  unfold f_X10_mix at h
  refine hr_Fb h (fun v2 M2 e h => ?_)
  have FM2 : hr_fr hW_X10_mix M M2 := hr_fr.tr (hr_fr.rf _ M) (hr_fr.mono (W := hW_X8_paletteAt) rfl (fr_X8_paletteAt a1 _ _ e))
  refine hr_Fv h (fun hv h => ?_) (fun q2 hv h => ?_)
  · cases h
    exact FM2
  · refine hr_Fg h (fun _ h => ?_)
    refine hr_Fb h (fun v7 M7 e h => ?_)
    have FM7 : hr_fr hW_X10_mix M M7 := hr_fr.tr FM2 (hr_fr.mono (W := hW_X4_has) rfl (fr_X4_has q2 a2 _ _ e))
    refine hr_Fi h (fun _ h => ?_) (fun _ h => ?_)
    · cases h
      exact FM7
    · refine hr_Fi h (fun _ h => ?_) (fun _ h => ?_)
      · cases h
        exact FM7
      · refine hr_Fi h (fun _ h => ?_) (fun _ h => ?_)
        · refine hr_Fb h (fun v14 M14 e h => ?_)
          have FM14 : hr_fr hW_X10_mix M M14 := hr_fr.tr FM7 (hr_fr.mono (W := hW_X0_blend) rfl (fr_X0_blend q2 a2 a3 _ _ e))
          refine hr_Fi h (fun _ h => ?_) (fun _ h => ?_)
          · cases h
            exact FM14
          · refine hr_Fi h (fun _ h => ?_) (fun _ h => ?_)
            · cases h
              exact FM14
            · refine hr_Fi h (fun _ h => ?_) (fun _ h => ?_)
              · cases h
                exact FM14
              · cases h
                exact FM14
        · cases h
          exact FM7
def hW_X10_flags : List (Nat × Nat) := [(240, 1), (240, 12), (240, 14), (241, 0), (242, 0), (243, 0), (246, 0), (248, 0)]
theorem fr_X10_flags_67 (a1 : Int32) (a2 : Int32) : ∀ (M : PM) (r : Int32 × PM), f_X10_flags_67 a1 a2 M = some r → hr_fr hW_X10_flags M r.2 := by
  intro M r h
  unfold f_X10_flags_67 at h
  refine hr_Fi h (fun _ h => ?_) (fun _ h => ?_)
  · cases h
    exact (hr_fr.rf _ M)
  · refine hr_Fg h (fun _ h => ?_)
    cases h
    exact (hr_fr.rf _ M)
theorem fr_X10_flags_29 (a1 : Int32) (a2 : Int32) (x3 : Nat) : ∀ (M : PM) (r : Int32 × PM), f_X10_flags_29 a1 a2 x3 M = some r → hr_fr hW_X10_flags M r.2 := by
  intro M r h
  unfold f_X10_flags_29 at h
  refine hr_Fi h (fun _ h => ?_) (fun _ h => ?_)
  · exact hr_fr.tr (hr_fr.rf _ M) (fr_X10_flags_67 a1 a2 _ _ h)
  · refine hr_Fb h (fun v3 M3 e h => ?_)
    have FM3 : hr_fr hW_X10_flags M M3 := hr_fr.tr (hr_fr.rf _ M) (hr_fr.mono (W := hW_X4_all) rfl (fr_X4_all x3 _ _ e))
    refine hr_Fb h (fun v4 M4 e h => ?_)
    have FM4 : hr_fr hW_X10_flags M M4 := hr_fr.tr FM3 (hr_fr.mono (W := hW_X1_gatherHues) rfl (fr_X1_gatherHues x3 v3 _ _ e))
    refine hr_Fb h (fun v6 M6 e h => ?_)
    have FM6 : hr_fr hW_X10_flags M M6 := hr_fr.tr FM4 (hr_fr.mono (W := hW_X1_couple) rfl (fr_X1_couple  _ _ e))
    exact hr_fr.tr (hr_fr.si rfl FM6) (fr_X10_flags_67 a1 a2 _ _ h)
theorem fr_X10_flags (a1 : Int32) (a2 : Int32) : ∀ (M : PM) (r : Int32 × PM), f_X10_flags a1 a2 M = some r → hr_fr hW_X10_flags M r.2 := by
  intro M r h
  unfold f_X10_flags at h
  refine hr_Fb h (fun v2 M2 e h => ?_)
  have FM2 : hr_fr hW_X10_flags M M2 := hr_fr.tr (hr_fr.rf _ M) (hr_fr.mono (W := hW_X8_paletteAt) rfl (fr_X8_paletteAt a1 _ _ e))
  refine hr_Fv h (fun hv h => ?_) (fun q2 hv h => ?_)
  · cases h
    exact FM2
  · refine hr_Fg h (fun _ h => ?_)
    refine hr_Fi h (fun _ h => ?_) (fun _ h => ?_)
    · exact hr_fr.tr FM2 (fr_X10_flags_29 a1 a2 q2 _ _ h)
    · refine hr_Fb h (fun v8 M8 e h => ?_)
      have FM8 : hr_fr hW_X10_flags M M8 := hr_fr.tr FM2 (hr_fr.mono (W := hW_X4_has) rfl (fr_X4_has q2 a2 _ _ e))
      refine hr_Fi h (fun _ h => ?_) (fun _ h => ?_)
      · cases h
        exact FM8
      · exact hr_fr.tr FM8 (fr_X10_flags_29 a1 a2 q2 _ _ h)
def hW_X10_gain : List (Nat × Nat) := []
theorem fr_X10_gain (a1 : Int32) (a2 : Int32) (a3 : Int32) : ∀ (M : PM) (r : Int32 × PM), f_X10_gain a1 a2 a3 M = some r → hr_fr hW_X10_gain M r.2 := by
  intro M r h
  unfold f_X10_gain at h
  refine hr_Fb h (fun v2 M2 e h => ?_)
  have FM2 : hr_fr hW_X10_gain M M2 := hr_fr.tr (hr_fr.rf _ M) (hr_fr.mono (W := hW_X8_paletteAt) rfl (fr_X8_paletteAt a1 _ _ e))
  refine hr_Fv h (fun hv h => ?_) (fun q2 hv h => ?_)
  · cases h
    exact FM2
  · refine hr_Fg h (fun _ h => ?_)
    refine hr_Fi h (fun _ h => ?_) (fun _ h => ?_)
    · cases h
      exact FM2
    · refine hr_Fi h (fun _ h => ?_) (fun _ h => ?_)
      · cases h
        exact FM2
      · refine hr_Fi h (fun _ h => ?_) (fun _ h => ?_)
        · refine hr_Fb h (fun v12 M12 e h => ?_)
          have FM12 : hr_fr hW_X10_gain M M12 := hr_fr.tr FM2 (hr_fr.mono (W := hW_X4_has) rfl (fr_X4_has q2 (a3 / 10) _ _ e))
          refine hr_Fi h (fun _ h => ?_) (fun _ h => ?_)
          · cases h
            exact FM12
          · refine hr_Fb h (fun v16 M16 e h => ?_)
            have FM16 : hr_fr hW_X10_gain M M16 := hr_fr.tr FM12 (hr_fr.mono (W := hW_X4_has) rfl (fr_X4_has q2 (jr a3 10) _ _ e))
            refine hr_Fi h (fun _ h => ?_) (fun _ h => ?_)
            · cases h
              exact FM16
            · refine hr_Fb h (fun v20 M20 e h => ?_)
              have FM20 : hr_fr hW_X10_gain M M20 := hr_fr.tr FM16 (hr_fr.mono (W := hW_X4_gainOf) rfl (fr_X4_gainOf q2 a2 (a3 / 10) (jr a3 10) _ _ e))
              cases h
              exact FM20
        · cases h
          exact FM2
def hW_X10_rest : List (Nat × Nat) := []
theorem fr_X10_rest_38 (a1 : Int32) (a2 : Int32) (k26 : Nat → Int32 → Int32 → PM → Option (Int32 × PM)) (hk26 : ∀ (y0 : Nat) (y1 : Int32) (y2 : Int32) (M : PM) (r : Int32 × PM), k26 y0 y1 y2 M = some r → hr_fr hW_X10_rest M r.2) : ∀ (f : Nat) (x3 : Nat) (x4 : Int32) (x5 : Int32) (x6 : Int32) (M : PM) (r : Int32 × PM), f_X10_rest_38 a1 a2 k26 f x3 x4 x5 x6 M = some r → hr_fr hW_X10_rest M r.2 := by
  intro f
  induction f with
  | zero => intro x3 x4 x5 x6 M r h; cases h
  | succ f ih =>
    intro x3 x4 x5 x6 M r h
    rw [f_X10_rest_38.eq_2] at h
    refine hr_Fi h (fun _ h => ?_) (fun _ h => ?_)
    · exact hr_fr.tr (hr_fr.rf _ M) (hk26 x3 x4 (x5 + 1) _ _ h)
    · refine hr_Fb h (fun v4 M4 e h => ?_)
      have FM4 : hr_fr hW_X10_rest M M4 := hr_fr.tr (hr_fr.rf _ M) (hr_fr.mono (W := hW_X4_isRest) rfl (fr_X4_isRest x3 x5 x6 _ _ e))
      refine hr_Fi h (fun _ h => ?_) (fun _ h => ?_)
      · exact hr_fr.tr FM4 (ih x3 x4 x5 (x6 + 1) _ _ h)
      · refine hr_Fi h (fun _ h => ?_) (fun _ h => ?_)
        · cases h
          exact FM4
        · exact hr_fr.tr FM4 (ih x3 (x4 + 1) x5 (x6 + 1) _ _ h)
theorem fr_X10_rest_26 (a1 : Int32) (a2 : Int32) : ∀ (f : Nat) (x3 : Nat) (x4 : Int32) (x5 : Int32) (M : PM) (r : Int32 × PM), f_X10_rest_26 a1 a2 f x3 x4 x5 M = some r → hr_fr hW_X10_rest M r.2 := by
  intro f
  induction f with
  | zero => intro x3 x4 x5 M r h; cases h
  | succ f ih =>
    intro x3 x4 x5 M r h
    rw [f_X10_rest_26.eq_2] at h
    refine hr_Fi h (fun _ h => ?_) (fun _ h => ?_)
    · refine hr_Fi h (fun _ h => ?_) (fun _ h => ?_)
      · cases h
        exact (hr_fr.rf _ M)
      · cases h
        exact (hr_fr.rf _ M)
    · exact hr_fr.tr (hr_fr.rf _ M) (fr_X10_rest_38 a1 a2 (fun x3 x4 x5 M => f_X10_rest_26 a1 a2 f x3 x4 x5 M) (fun x3 x4 x5 M r h => ih x3 x4 x5 M r h) FU x3 x4 x5 0 _ _ h)
theorem fr_X10_rest (a1 : Int32) (a2 : Int32) : ∀ (M : PM) (r : Int32 × PM), f_X10_rest a1 a2 M = some r → hr_fr hW_X10_rest M r.2 := by
  intro M r h
  unfold f_X10_rest at h
  refine hr_Fb h (fun v2 M2 e h => ?_)
  have FM2 : hr_fr hW_X10_rest M M2 := hr_fr.tr (hr_fr.rf _ M) (hr_fr.mono (W := hW_X8_paletteAt) rfl (fr_X8_paletteAt a1 _ _ e))
  refine hr_Fv h (fun hv h => ?_) (fun q2 hv h => ?_)
  · cases h
    exact FM2
  · refine hr_Fg h (fun _ h => ?_)
    refine hr_Fi h (fun _ h => ?_) (fun _ h => ?_)
    · exact hr_fr.tr FM2 (fr_X10_rest_26 a1 a2 FU q2 0 0 _ _ h)
    · cases h
      exact FM2
def hW_X10_spread : List (Nat × Nat) := []
theorem fr_X10_spread_79 (a1 : Int32) (a2 : Int32) (a3 : Int32) (x5 : Int32) (x6 : Int32) : ∀ (M : PM) (r : Int32 × PM), f_X10_spread_79 a1 a2 a3 x5 x6 M = some r → hr_fr hW_X10_spread M r.2 := by
  intro M r h
  unfold f_X10_spread_79 at h
  refine hr_Fi h (fun _ h => ?_) (fun _ h => ?_)
  · refine hr_Fb h (fun v3 M3 e h => ?_)
    have FM3 : hr_fr hW_X10_spread M M3 := hr_fr.tr (hr_fr.rf _ M) (hr_fr.mono (W := hW_J6_bitCount_0f7a4) rfl (fr_J6_bitCount_0f7a4 x5 _ _ e))
    cases h
    exact FM3
  · cases h
    exact (hr_fr.rf _ M)
theorem fr_X10_spread_37 (a1 : Int32) (a2 : Int32) (a3 : Int32) : ∀ (f : Nat) (x4 : Nat) (x5 : Int32) (x6 : Int32) (x7 : Int32) (M : PM) (r : Int32 × PM), f_X10_spread_37 a1 a2 a3 f x4 x5 x6 x7 M = some r → hr_fr hW_X10_spread M r.2 := by
  intro f
  induction f with
  | zero => intro x4 x5 x6 x7 M r h; cases h
  | succ f ih =>
    intro x4 x5 x6 x7 M r h
    rw [f_X10_spread_37.eq_2] at h
    refine hr_Fi h (fun _ h => ?_) (fun _ h => ?_)
    · exact hr_fr.tr (hr_fr.rf _ M) (fr_X10_spread_79 a1 a2 a3 x5 x6 _ _ h)
    · refine hr_Fb h (fun v3 M3 e h => ?_)
      have FM3 : hr_fr hW_X10_spread M M3 := hr_fr.tr (hr_fr.rf _ M) (hr_fr.mono (W := hW_X4_foesOfAny) rfl (fr_X4_foesOfAny x4 x5 _ _ e))
      refine hr_Fi h (fun _ h => ?_) (fun _ h => ?_)
      · exact hr_fr.tr FM3 (fr_X10_spread_79 a1 a2 a3 x5 x6 _ _ h)
      · exact hr_fr.tr FM3 (ih x4 (x5 ||| v3) (x6 + 1) (x7 + 1) _ _ h)
theorem fr_X10_spread (a1 : Int32) (a2 : Int32) (a3 : Int32) : ∀ (M : PM) (r : Int32 × PM), f_X10_spread a1 a2 a3 M = some r → hr_fr hW_X10_spread M r.2 := by
  intro M r h
  unfold f_X10_spread at h
  refine hr_Fb h (fun v2 M2 e h => ?_)
  have FM2 : hr_fr hW_X10_spread M M2 := hr_fr.tr (hr_fr.rf _ M) (hr_fr.mono (W := hW_X8_paletteAt) rfl (fr_X8_paletteAt a1 _ _ e))
  refine hr_Fv h (fun hv h => ?_) (fun q2 hv h => ?_)
  · cases h
    exact FM2
  · refine hr_Fg h (fun _ h => ?_)
    refine hr_Fb h (fun v7 M7 e h => ?_)
    have FM7 : hr_fr hW_X10_spread M M7 := hr_fr.tr FM2 (hr_fr.mono (W := hW_X4_has) rfl (fr_X4_has q2 a2 _ _ e))
    refine hr_Fi h (fun _ h => ?_) (fun _ h => ?_)
    · cases h
      exact FM7
    · exact hr_fr.tr FM7 (fr_X10_spread_37 a1 a2 a3 FU q2 (jl 1 a2) 0 0 _ _ h)
def hW_X10_sneeze : List (Nat × Nat) := []
theorem fr_X10_sneeze (a1 : Int32) (a2 : Int32) (a3 : Int32) : ∀ (M : PM) (r : Int32 × PM), f_X10_sneeze a1 a2 a3 M = some r → hr_fr hW_X10_sneeze M r.2 := by
  intro M r h
  unfold f_X10_sneeze at h
  refine hr_Fb h (fun v2 M2 e h => ?_)
  have FM2 : hr_fr hW_X10_sneeze M M2 := hr_fr.tr (hr_fr.rf _ M) (hr_fr.mono (W := hW_X8_rollAt) rfl (fr_X8_rollAt 3 a1 _ _ e))
  refine hr_Fv h (fun hv h => ?_) (fun q2 hv h => ?_)
  · refine hr_Fb h (fun v4 M4 e h => ?_)
    have FM4 : hr_fr hW_X10_sneeze M M4 := hr_fr.tr FM2 (hr_fr.mono (W := hW_X10_lineOf) rfl (fr_X10_lineOf .null a2 a3 _ _ e))
    cases h
    exact FM4
  · refine hr_Fg h (fun _ h => ?_)
    refine hr_Fb h (fun v6 M6 e h => ?_)
    have FM6 : hr_fr hW_X10_sneeze M M6 := hr_fr.tr FM2 (hr_fr.mono (W := hW_X10_lineOf) rfl (fr_X10_lineOf (.ref q2) a2 a3 _ _ e))
    cases h
    exact FM6
def hW_X10_fits : List (Nat × Nat) := [(265, 0), (266, 0), (267, 0), (268, 0), (269, 0), (270, 0)]
theorem fr_X10_fits (a1 : Int32) (a2 : Int32) (a3 : Int32) (a4 : Int32) : ∀ (M : PM) (r : Int32 × PM), f_X10_fits a1 a2 a3 a4 M = some r → hr_fr hW_X10_fits M r.2 := by
  intro M r h
  unfold f_X10_fits at h
  refine hr_Fb h (fun v2 M2 e h => ?_)
  have FM2 : hr_fr hW_X10_fits M M2 := hr_fr.tr (hr_fr.rf _ M) (hr_fr.mono (W := hW_X8_paletteAt) rfl (fr_X8_paletteAt a1 _ _ e))
  refine hr_Fv h (fun hv h => ?_) (fun q2 hv h => ?_)
  · refine hr_Fb h (fun v4 M4 e h => ?_)
    have FM4 : hr_fr hW_X10_fits M M4 := hr_fr.tr FM2 (hr_fr.mono (W := hW_X8_rollAt) rfl (fr_X8_rollAt 3 a2 _ _ e))
    refine hr_Fv h (fun hv h => ?_) (fun q4 hv h => ?_)
    · refine hr_Fb h (fun v6 M6 e h => ?_)
      have FM6 : hr_fr hW_X10_fits M M6 := hr_fr.tr FM4 (hr_fr.mono (W := hW_X10_goTogether) rfl (fr_X10_goTogether .null .null _ _ e))
      refine hr_Fg h (fun _ h => ?_)
      cases h
      exact FM6
    · refine hr_Fg h (fun _ h => ?_)
      refine hr_Fb h (fun v11 M11 e h => ?_)
      have FM11 : hr_fr hW_X10_fits M M11 := hr_fr.tr FM4 (hr_fr.mono (W := hW_X10_goTogether) rfl (fr_X10_goTogether .null (.ref q4) _ _ e))
      refine hr_Fg h (fun _ h => ?_)
      cases h
      exact FM11
  · refine hr_Fg h (fun _ h => ?_)
    refine hr_Fb h (fun v16 M16 e h => ?_)
    have FM16 : hr_fr hW_X10_fits M M16 := hr_fr.tr FM2 (hr_fr.mono (W := hW_X8_rollAt) rfl (fr_X8_rollAt 3 a2 _ _ e))
    refine hr_Fv h (fun hv h => ?_) (fun q16 hv h => ?_)
    · refine hr_Fb h (fun v18 M18 e h => ?_)
      have FM18 : hr_fr hW_X10_fits M M18 := hr_fr.tr FM16 (hr_fr.mono (W := hW_X10_goTogether) rfl (fr_X10_goTogether (.ref q2) .null _ _ e))
      refine hr_Fg h (fun _ h => ?_)
      cases h
      exact FM18
    · refine hr_Fg h (fun _ h => ?_)
      refine hr_Fb h (fun v23 M23 e h => ?_)
      have FM23 : hr_fr hW_X10_fits M M23 := hr_fr.tr FM16 (hr_fr.mono (W := hW_X10_goTogether) rfl (fr_X10_goTogether (.ref q2) (.ref q16) _ _ e))
      refine hr_Fi h (fun _ h => ?_) (fun _ h => ?_)
      · cases h
        exact FM23
      · refine hr_Fb h (fun v27 M27 e h => ?_)
        have FM27 : hr_fr hW_X10_fits M M27 := hr_fr.tr FM23 (hr_fr.mono (W := hW_X2_look) rfl (fr_X2_look ((2 * a1) + a2) q2 q16 _ _ e))
        refine hr_Fi h (fun _ h => ?_) (fun _ h => ?_)
        · refine hr_Fi h (fun _ h => ?_) (fun _ h => ?_)
          · refine hr_Fg h (fun _ h => ?_)
            cases h
            exact FM27
          · refine hr_Fi h (fun _ h => ?_) (fun _ h => ?_)
            · refine hr_Fg h (fun _ h => ?_)
              cases h
              exact FM27
            · cases h
              exact FM27
        · refine hr_Fb h (fun v35 M35 e h => ?_)
          have FM35 : hr_fr hW_X10_fits M M35 := hr_fr.tr FM27 (hr_fr.mono (W := hW_X2_fitting) rfl (fr_X2_fitting ((2 * a1) + a2) a3 a4 _ _ e))
          cases h
          exact FM35
def hW_X10_guest : List (Nat × Nat) := []
theorem fr_X10_guest (a1 : Int32) (a2 : Int32) : ∀ (M : PM) (r : Int32 × PM), f_X10_guest a1 a2 M = some r → hr_fr hW_X10_guest M r.2 := by
  intro M r h
  unfold f_X10_guest at h
  refine hr_Fb h (fun v2 M2 e h => ?_)
  have FM2 : hr_fr hW_X10_guest M M2 := hr_fr.tr (hr_fr.rf _ M) (hr_fr.mono (W := hW_X8_rollAt) rfl (fr_X8_rollAt 4 a1 _ _ e))
  refine hr_Fv h (fun hv h => ?_) (fun q2 hv h => ?_)
  · cases h
    exact FM2
  · refine hr_Fg h (fun _ h => ?_)
    refine hr_Fi h (fun _ h => ?_) (fun _ h => ?_)
    · cases h
      exact FM2
    · refine hr_Fb h (fun v9 M9 e h => ?_)
      have FM9 : hr_fr hW_X10_guest M M9 := hr_fr.tr FM2 (hr_fr.mono (W := hW_X6_has) rfl (fr_X6_has q2 a2 _ _ e))
      refine hr_Fi h (fun _ h => ?_) (fun _ h => ?_)
      · cases h
        exact FM9
      · refine hr_Fg h (fun _ h => ?_)
        cases h
        exact FM9
def hW_X10_ways : List (Nat × Nat) := [(271, 4), (272, 0), (273, 0)]
theorem fr_X10_ways (a1 : Int32) (a2 : Int32) : ∀ (M : PM) (r : Int64 × PM), f_X10_ways a1 a2 M = some r → hr_fr hW_X10_ways M r.2 := by
  intro M r h
  unfold f_X10_ways at h
  refine hr_Fb h (fun v2 M2 e h => ?_)
  have FM2 : hr_fr hW_X10_ways M M2 := hr_fr.tr (hr_fr.rf _ M) (hr_fr.mono (W := hW_X8_paletteAt) rfl (fr_X8_paletteAt a1 _ _ e))
  refine hr_Fv h (fun hv h => ?_) (fun q2 hv h => ?_)
  · refine hr_Fb h (fun v4 M4 e h => ?_)
    have FM4 : hr_fr hW_X10_ways M M4 := hr_fr.tr FM2 (hr_fr.mono (W := hW_X8_rollAt) rfl (fr_X8_rollAt 4 a2 _ _ e))
    refine hr_Fv h (fun hv h => ?_) (fun q4 hv h => ?_)
    · refine hr_Fb h (fun v6 M6 e h => ?_)
      have FM6 : hr_fr hW_X10_ways M M6 := hr_fr.tr FM4 (hr_fr.mono (W := hW_X10_goTogether) rfl (fr_X10_goTogether .null .null _ _ e))
      refine hr_Fg h (fun _ h => ?_)
      cases h
      exact FM6
    · refine hr_Fg h (fun _ h => ?_)
      refine hr_Fb h (fun v11 M11 e h => ?_)
      have FM11 : hr_fr hW_X10_ways M M11 := hr_fr.tr FM4 (hr_fr.mono (W := hW_X10_goTogether) rfl (fr_X10_goTogether .null (.ref q4) _ _ e))
      refine hr_Fg h (fun _ h => ?_)
      cases h
      exact FM11
  · refine hr_Fg h (fun _ h => ?_)
    refine hr_Fb h (fun v16 M16 e h => ?_)
    have FM16 : hr_fr hW_X10_ways M M16 := hr_fr.tr FM2 (hr_fr.mono (W := hW_X8_rollAt) rfl (fr_X8_rollAt 4 a2 _ _ e))
    refine hr_Fv h (fun hv h => ?_) (fun q16 hv h => ?_)
    · refine hr_Fb h (fun v18 M18 e h => ?_)
      have FM18 : hr_fr hW_X10_ways M M18 := hr_fr.tr FM16 (hr_fr.mono (W := hW_X10_goTogether) rfl (fr_X10_goTogether (.ref q2) .null _ _ e))
      refine hr_Fg h (fun _ h => ?_)
      cases h
      exact FM18
    · refine hr_Fg h (fun _ h => ?_)
      refine hr_Fb h (fun v23 M23 e h => ?_)
      have FM23 : hr_fr hW_X10_ways M M23 := hr_fr.tr FM16 (hr_fr.mono (W := hW_X10_goTogether) rfl (fr_X10_goTogether (.ref q2) (.ref q16) _ _ e))
      refine hr_Fi h (fun _ h => ?_) (fun _ h => ?_)
      · cases h
        exact FM23
      · refine hr_Fb h (fun v27 M27 e h => ?_)
        have FM27 : hr_fr hW_X10_ways M M27 := hr_fr.tr FM23 (hr_fr.mono (W := hW_X7_seat) rfl (fr_X7_seat q2 q16 _ _ e))
        cases h
        exact FM27
def hW_X10_dinner : List (Nat × Nat) := [(271, 4), (272, 0), (273, 0)]
theorem fr_X10_dinner (a1 : Int32) (a2 : Int32) (a3 : Int32) : ∀ (M : PM) (r : Int32 × PM), f_X10_dinner a1 a2 a3 M = some r → hr_fr hW_X10_dinner M r.2 := by
  intro M r h
  unfold f_X10_dinner at h
  refine hr_Fb h (fun v2 M2 e h => ?_)
  have FM2 : hr_fr hW_X10_dinner M M2 := hr_fr.tr (hr_fr.rf _ M) (hr_fr.mono (W := hW_X8_paletteAt) rfl (fr_X8_paletteAt a1 _ _ e))
  refine hr_Fv h (fun hv h => ?_) (fun q2 hv h => ?_)
  · refine hr_Fb h (fun v4 M4 e h => ?_)
    have FM4 : hr_fr hW_X10_dinner M M4 := hr_fr.tr FM2 (hr_fr.mono (W := hW_X8_rollAt) rfl (fr_X8_rollAt 4 a2 _ _ e))
    refine hr_Fv h (fun hv h => ?_) (fun q4 hv h => ?_)
    · refine hr_Fb h (fun v6 M6 e h => ?_)
      have FM6 : hr_fr hW_X10_dinner M M6 := hr_fr.tr FM4 (hr_fr.mono (W := hW_X10_goTogether) rfl (fr_X10_goTogether .null .null _ _ e))
      refine hr_Fg h (fun _ h => ?_)
      cases h
      exact FM6
    · refine hr_Fg h (fun _ h => ?_)
      refine hr_Fb h (fun v11 M11 e h => ?_)
      have FM11 : hr_fr hW_X10_dinner M M11 := hr_fr.tr FM4 (hr_fr.mono (W := hW_X10_goTogether) rfl (fr_X10_goTogether .null (.ref q4) _ _ e))
      refine hr_Fg h (fun _ h => ?_)
      cases h
      exact FM11
  · refine hr_Fg h (fun _ h => ?_)
    refine hr_Fb h (fun v16 M16 e h => ?_)
    have FM16 : hr_fr hW_X10_dinner M M16 := hr_fr.tr FM2 (hr_fr.mono (W := hW_X8_rollAt) rfl (fr_X8_rollAt 4 a2 _ _ e))
    refine hr_Fv h (fun hv h => ?_) (fun q16 hv h => ?_)
    · refine hr_Fb h (fun v18 M18 e h => ?_)
      have FM18 : hr_fr hW_X10_dinner M M18 := hr_fr.tr FM16 (hr_fr.mono (W := hW_X10_goTogether) rfl (fr_X10_goTogether (.ref q2) .null _ _ e))
      refine hr_Fg h (fun _ h => ?_)
      cases h
      exact FM18
    · refine hr_Fg h (fun _ h => ?_)
      refine hr_Fb h (fun v23 M23 e h => ?_)
      have FM23 : hr_fr hW_X10_dinner M M23 := hr_fr.tr FM16 (hr_fr.mono (W := hW_X10_goTogether) rfl (fr_X10_goTogether (.ref q2) (.ref q16) _ _ e))
      refine hr_Fi h (fun _ h => ?_) (fun _ h => ?_)
      · cases h
        exact FM23
      · refine hr_Fb h (fun v27 M27 e h => ?_)
        have FM27 : hr_fr hW_X10_dinner M M27 := hr_fr.tr FM23 (hr_fr.mono (W := hW_X7_seat) rfl (fr_X7_seat q2 q16 _ _ e))
        refine hr_Fi h (fun _ h => ?_) (fun _ h => ?_)
        · cases h
          exact FM27
        · refine hr_Fi h (fun _ h => ?_) (fun _ h => ?_)
          · refine hr_Fb h (fun v32 M32 e h => ?_)
            have FM32 : hr_fr hW_X10_dinner M M32 := hr_fr.tr FM27 (hr_fr.mono (W := hW_X7_fewestHues) rfl (fr_X7_fewestHues q2 q16 _ _ e))
            cases h
            exact FM32
          · refine hr_Fi h (fun _ h => ?_) (fun _ h => ?_)
            · cases h
              exact FM27
            · refine hr_Fi h (fun _ h => ?_) (fun _ h => ?_)
              · cases h
                exact FM27
              · refine hr_Fg h (fun _ h => ?_)
                cases h
                exact FM27
def hW_X10_drawn : List (Nat × Nat) := [(271, 5), (271, 6), (274, 0)]
theorem fr_X10_drawn_58 (a1 : Int32) (a2 : Int32) (a3 : Int32) (a4 : Int32) (a5 : Int32) (x6 : Nat) (x7 : Nat) : ∀ (M : PM) (r : Int32 × PM), f_X10_drawn_58 a1 a2 a3 a4 a5 x6 x7 M = some r → hr_fr hW_X10_drawn M r.2 := by
  intro M r h
  unfold f_X10_drawn_58 at h
  refine hr_Fb h (fun v2 M2 e h => ?_)
  have FM2 : hr_fr hW_X10_drawn M M2 := hr_fr.tr (hr_fr.rf _ M) (hr_fr.mono (W := hW_X7_dine) rfl (fr_X7_dine x6 x7 a3 a4 _ _ e))
  refine hr_Fi h (fun _ h => ?_) (fun _ h => ?_)
  · cases h
    exact FM2
  · cases h
    exact FM2
theorem fr_X10_drawn (a1 : Int32) (a2 : Int32) (a3 : Int32) (a4 : Int32) (a5 : Int32) : ∀ (M : PM) (r : Int32 × PM), f_X10_drawn a1 a2 a3 a4 a5 M = some r → hr_fr hW_X10_drawn M r.2 := by
  intro M r h
  unfold f_X10_drawn at h
  refine hr_Fb h (fun v2 M2 e h => ?_)
  have FM2 : hr_fr hW_X10_drawn M M2 := hr_fr.tr (hr_fr.rf _ M) (hr_fr.mono (W := hW_X8_paletteAt) rfl (fr_X8_paletteAt a1 _ _ e))
  refine hr_Fv h (fun hv h => ?_) (fun q2 hv h => ?_)
  · refine hr_Fb h (fun v4 M4 e h => ?_)
    have FM4 : hr_fr hW_X10_drawn M M4 := hr_fr.tr FM2 (hr_fr.mono (W := hW_X8_rollAt) rfl (fr_X8_rollAt 4 a2 _ _ e))
    refine hr_Fv h (fun hv h => ?_) (fun q4 hv h => ?_)
    · refine hr_Fb h (fun v6 M6 e h => ?_)
      have FM6 : hr_fr hW_X10_drawn M M6 := hr_fr.tr FM4 (hr_fr.mono (W := hW_X10_goTogether) rfl (fr_X10_goTogether .null .null _ _ e))
      refine hr_Fi h (fun _ h => ?_) (fun _ h => ?_)
      · cases h
        exact FM6
      · refine hr_Fi h (fun _ h => ?_) (fun _ h => ?_)
        · cases h
          exact FM6
        · refine hr_Fi h (fun _ h => ?_) (fun _ h => ?_)
          · refine hr_Fi h (fun _ h => ?_) (fun _ h => ?_)
            · cases h
            · refine hr_Fi h (fun _ h => ?_) (fun _ h => ?_)
              · cases h
              · cases h
                exact FM6
          · cases h
            exact FM6
    · refine hr_Fg h (fun _ h => ?_)
      refine hr_Fb h (fun v17 M17 e h => ?_)
      have FM17 : hr_fr hW_X10_drawn M M17 := hr_fr.tr FM4 (hr_fr.mono (W := hW_X10_goTogether) rfl (fr_X10_goTogether .null (.ref q4) _ _ e))
      refine hr_Fi h (fun _ h => ?_) (fun _ h => ?_)
      · cases h
        exact FM17
      · refine hr_Fi h (fun _ h => ?_) (fun _ h => ?_)
        · cases h
          exact FM17
        · refine hr_Fi h (fun _ h => ?_) (fun _ h => ?_)
          · refine hr_Fi h (fun _ h => ?_) (fun _ h => ?_)
            · cases h
            · refine hr_Fi h (fun _ h => ?_) (fun _ h => ?_)
              · cases h
              · cases h
                exact FM17
          · cases h
            exact FM17
  · refine hr_Fg h (fun _ h => ?_)
    refine hr_Fb h (fun v28 M28 e h => ?_)
    have FM28 : hr_fr hW_X10_drawn M M28 := hr_fr.tr FM2 (hr_fr.mono (W := hW_X8_rollAt) rfl (fr_X8_rollAt 4 a2 _ _ e))
    refine hr_Fv h (fun hv h => ?_) (fun q28 hv h => ?_)
    · refine hr_Fb h (fun v30 M30 e h => ?_)
      have FM30 : hr_fr hW_X10_drawn M M30 := hr_fr.tr FM28 (hr_fr.mono (W := hW_X10_goTogether) rfl (fr_X10_goTogether (.ref q2) .null _ _ e))
      refine hr_Fi h (fun _ h => ?_) (fun _ h => ?_)
      · cases h
        exact FM30
      · refine hr_Fi h (fun _ h => ?_) (fun _ h => ?_)
        · cases h
          exact FM30
        · refine hr_Fi h (fun _ h => ?_) (fun _ h => ?_)
          · refine hr_Fi h (fun _ h => ?_) (fun _ h => ?_)
            · cases h
            · refine hr_Fi h (fun _ h => ?_) (fun _ h => ?_)
              · cases h
              · cases h
                exact FM30
          · cases h
            exact FM30
    · refine hr_Fg h (fun _ h => ?_)
      refine hr_Fb h (fun v41 M41 e h => ?_)
      have FM41 : hr_fr hW_X10_drawn M M41 := hr_fr.tr FM28 (hr_fr.mono (W := hW_X10_goTogether) rfl (fr_X10_goTogether (.ref q2) (.ref q28) _ _ e))
      refine hr_Fi h (fun _ h => ?_) (fun _ h => ?_)
      · cases h
        exact FM41
      · refine hr_Fi h (fun _ h => ?_) (fun _ h => ?_)
        · cases h
          exact FM41
        · refine hr_Fi h (fun _ h => ?_) (fun _ h => ?_)
          · refine hr_Fi h (fun _ h => ?_) (fun _ h => ?_)
            · exact hr_fr.tr FM41 (fr_X10_drawn_58 a1 a2 a3 a4 a5 q2 q28 _ _ h)
            · refine hr_Fi h (fun _ h => ?_) (fun _ h => ?_)
              · exact hr_fr.tr FM41 (fr_X10_drawn_58 a1 a2 a3 a4 a5 q2 q28 _ _ h)
              · cases h
                exact FM41
          · cases h
            exact FM41
def hW_X10_count : List (Nat × Nat) := []
theorem fr_X10_count (a1 : Int32) : ∀ (M : PM) (r : Int32 × PM), f_X10_count a1 M = some r → hr_fr hW_X10_count M r.2 := by
  intro M r h
  unfold f_X10_count at h
  refine hr_Fi h (fun _ h => ?_) (fun _ h => ?_)
  · cases h
    exact (hr_fr.rf _ M)
  · refine hr_Fi h (fun _ h => ?_) (fun _ h => ?_)
    · refine hr_Fg h (fun _ h => ?_)
      cases h
      exact (hr_fr.rf _ M)
    · cases h
      exact (hr_fr.rf _ M)
def hW_X11_in : List (Nat × Nat) := []
theorem fr_X11_in (a0 : Int32) (a1 : Int32) (a2 : Int32) : ∀ (M : PM) (r : Int32 × PM), f_X11_in a0 a1 a2 M = some r → hr_fr hW_X11_in M r.2 := by
  intro M r h
  unfold f_X11_in at h
  refine hr_Fi h (fun _ h => ?_) (fun _ h => ?_)
  · cases h
    exact (hr_fr.rf _ M)
  · refine hr_Fi h (fun _ h => ?_) (fun _ h => ?_)
    · cases h
      exact (hr_fr.rf _ M)
    · cases h
      exact (hr_fr.rf _ M)
def hW_X11_has : List (Nat × Nat) := []
theorem fr_X11_has (a0 : Int32) (a1 : Int32) : ∀ (M : PM) (r : Int32 × PM), f_X11_has a0 a1 M = some r → hr_fr hW_X11_has M r.2 := by
  intro M r h
  unfold f_X11_has at h
  refine hr_Fi h (fun _ h => ?_) (fun _ h => ?_)
  · cases h
    exact (hr_fr.rf _ M)
  · cases h
    exact (hr_fr.rf _ M)
def hW_X11_greater : List (Nat × Nat) := []
theorem fr_X11_greater (a0 : Int32) (a1 : Int32) : ∀ (M : PM) (r : Int32 × PM), f_X11_greater a0 a1 M = some r → hr_fr hW_X11_greater M r.2 := by
  intro M r h
  unfold f_X11_greater at h
  refine hr_Fi h (fun _ h => ?_) (fun _ h => ?_)
  · cases h
    exact (hr_fr.rf _ M)
  · cases h
    exact (hr_fr.rf _ M)
def hW_X11_lesser : List (Nat × Nat) := []
theorem fr_X11_lesser (a0 : Int32) (a1 : Int32) : ∀ (M : PM) (r : Int32 × PM), f_X11_lesser a0 a1 M = some r → hr_fr hW_X11_lesser M r.2 := by
  intro M r h
  unfold f_X11_lesser at h
  refine hr_Fi h (fun _ h => ?_) (fun _ h => ?_)
  · cases h
    exact (hr_fr.rf _ M)
  · cases h
    exact (hr_fr.rf _ M)
def hW_X11_size : List (Nat × Nat) := []
theorem fr_X11_size (a0 : Int32) : ∀ (M : PM) (r : Int32 × PM), f_X11_size a0 M = some r → hr_fr hW_X11_size M r.2 := by
  intro M r h
  unfold f_X11_size at h
  refine hr_Fi h (fun _ h => ?_) (fun _ h => ?_)
  · cases h
    exact (hr_fr.rf _ M)
  · cases h
    exact (hr_fr.rf _ M)
def hW_X11_ones : List (Nat × Nat) := []
theorem fr_X11_ones_4 (a0 : Int32) : ∀ (f : Nat) (x1 : Int32) (x2 : Int32) (M : PM) (r : Int32 × PM), f_X11_ones_4 a0 f x1 x2 M = some r → hr_fr hW_X11_ones M r.2 := by
  intro f
  induction f with
  | zero => intro x1 x2 M r h; cases h
  | succ f ih =>
    intro x1 x2 M r h
    rw [f_X11_ones_4.eq_2] at h
    refine hr_Fi h (fun _ h => ?_) (fun _ h => ?_)
    · cases h
      exact (hr_fr.rf _ M)
    · refine hr_Fb h (fun v4 M4 e h => ?_)
      have FM4 : hr_fr hW_X11_ones M M4 := hr_fr.tr (hr_fr.rf _ M) (hr_fr.mono (W := hW_X11_has) rfl (fr_X11_has a0 x2 _ _ e))
      refine hr_Fi h (fun _ h => ?_) (fun _ h => ?_)
      · exact hr_fr.tr FM4 (ih (x1 + 0) (x2 + 1) _ _ h)
      · exact hr_fr.tr FM4 (ih (x1 + 1) (x2 + 1) _ _ h)
theorem fr_X11_ones (a0 : Int32) : ∀ (M : PM) (r : Int32 × PM), f_X11_ones a0 M = some r → hr_fr hW_X11_ones M r.2 := by
  intro M r h
  unfold f_X11_ones at h
  exact hr_fr.tr (hr_fr.rf _ M) (fr_X11_ones_4 a0 FU 0 0 _ _ h)
def hW_X11_copyRow (a0 : Nat) : List (Nat × Nat) := [(a0, 0)]
theorem fr_X11_copyRow_3 (a0 : Nat) (a1 : Int32) (a2 : Int32) (a3 : Int32) : ∀ (f : Nat) (x4 : Int32) (M : PM) (r : Unit × PM), f_X11_copyRow_3 a0 a1 a2 a3 f x4 M = some r → hr_fr (hW_X11_copyRow a0) M r.2 := by
  intro f
  induction f with
  | zero => intro x4 M r h; cases h
  | succ f ih =>
    intro x4 M r h
    rw [f_X11_copyRow_3.eq_2] at h
    refine hr_Fi h (fun _ h => ?_) (fun _ h => ?_)
    · cases h
      exact (hr_fr.rf _ M)
    · refine hr_Fg h (fun _ h => ?_)
      refine hr_Fg h (fun _ h => ?_)
      exact hr_fr.tr (hr_fr.si (by simp [hr_in, hW_X11_copyRow]) (hr_fr.rf _ M)) (ih (x4 + 1) _ _ h)
theorem fr_X11_copyRow (a0 : Nat) (a1 : Int32) (a2 : Int32) (a3 : Int32) : ∀ (M : PM) (r : Unit × PM), f_X11_copyRow a0 a1 a2 a3 M = some r → hr_fr (hW_X11_copyRow a0) M r.2 := by
  intro M r h
  unfold f_X11_copyRow at h
  refine hr_Fg h (fun _ h => ?_)
  exact hr_fr.tr (hr_fr.rf _ M) (fr_X11_copyRow_3 a0 a1 a2 a3 FU 0 _ _ h)
def hW_X11_copyAll : List (Nat × Nat) := [(276, 0), (277, 0), (278, 0), (279, 0), (280, 0), (281, 0), (282, 0), (283, 0), (284, 0), (285, 0)]
theorem fr_X11_copyAll_2 (a1 : Int32) (a2 : Int32) : ∀ (f : Nat) (x3 : Int32) (M : PM) (r : Unit × PM), f_X11_copyAll_2 a1 a2 f x3 M = some r → hr_fr hW_X11_copyAll M r.2 := by
  intro f
  induction f with
  | zero => intro x3 M r h; cases h
  | succ f ih =>
    intro x3 M r h
    rw [f_X11_copyAll_2.eq_2] at h
    refine hr_Fi h (fun _ h => ?_) (fun _ h => ?_)
    · refine hr_Fb h (fun v3 M3 e h => ?_)
      have FM3 : hr_fr hW_X11_copyAll M M3 := hr_fr.tr (hr_fr.rf _ M) (hr_fr.mono (W := (hW_X11_copyRow 277)) rfl (fr_X11_copyRow 277 1 a1 a2 _ _ e))
      refine hr_Fb h (fun v5 M5 e h => ?_)
      have FM5 : hr_fr hW_X11_copyAll M M5 := hr_fr.tr FM3 (hr_fr.mono (W := (hW_X11_copyRow 278)) rfl (fr_X11_copyRow 278 1 a1 a2 _ _ e))
      refine hr_Fb h (fun v7 M7 e h => ?_)
      have FM7 : hr_fr hW_X11_copyAll M M7 := hr_fr.tr FM5 (hr_fr.mono (W := (hW_X11_copyRow 279)) rfl (fr_X11_copyRow 279 1 a1 a2 _ _ e))
      refine hr_Fb h (fun v9 M9 e h => ?_)
      have FM9 : hr_fr hW_X11_copyAll M M9 := hr_fr.tr FM7 (hr_fr.mono (W := (hW_X11_copyRow 280)) rfl (fr_X11_copyRow 280 5 a1 a2 _ _ e))
      refine hr_Fb h (fun v11 M11 e h => ?_)
      have FM11 : hr_fr hW_X11_copyAll M M11 := hr_fr.tr FM9 (hr_fr.mono (W := (hW_X11_copyRow 281)) rfl (fr_X11_copyRow 281 140 a1 a2 _ _ e))
      refine hr_Fb h (fun v13 M13 e h => ?_)
      have FM13 : hr_fr hW_X11_copyAll M M13 := hr_fr.tr FM11 (hr_fr.mono (W := (hW_X11_copyRow 282)) rfl (fr_X11_copyRow 282 40 a1 a2 _ _ e))
      refine hr_Fb h (fun v15 M15 e h => ?_)
      have FM15 : hr_fr hW_X11_copyAll M M15 := hr_fr.tr FM13 (hr_fr.mono (W := (hW_X11_copyRow 283)) rfl (fr_X11_copyRow 283 242 a1 a2 _ _ e))
      refine hr_Fb h (fun v17 M17 e h => ?_)
      have FM17 : hr_fr hW_X11_copyAll M M17 := hr_fr.tr FM15 (hr_fr.mono (W := (hW_X11_copyRow 284)) rfl (fr_X11_copyRow 284 74 a1 a2 _ _ e))
      refine hr_Fb h (fun v19 M19 e h => ?_)
      have FM19 : hr_fr hW_X11_copyAll M M19 := hr_fr.tr FM17 (hr_fr.mono (W := (hW_X11_copyRow 285)) rfl (fr_X11_copyRow 285 18 a1 a2 _ _ e))
      cases h
      exact FM19
    · refine hr_Fg h (fun _ h => ?_)
      refine hr_Fg h (fun _ h => ?_)
      exact hr_fr.tr (hr_fr.si rfl (hr_fr.rf _ M)) (ih (x3 + 1) _ _ h)
theorem fr_X11_copyAll (a1 : Int32) (a2 : Int32) : ∀ (M : PM) (r : Unit × PM), f_X11_copyAll a1 a2 M = some r → hr_fr hW_X11_copyAll M r.2 := by
  intro M r h
  unfold f_X11_copyAll at h
  exact hr_fr.tr (hr_fr.rf _ M) (fr_X11_copyAll_2 a1 a2 FU 0 _ _ h)
def hW_X11_is : List (Nat × Nat) := []
theorem fr_X11_is (a1 : Int32) (a2 : Int32) : ∀ (M : PM) (r : Int32 × PM), f_X11_is a1 a2 M = some r → hr_fr hW_X11_is M r.2 := by
  intro M r h
  unfold f_X11_is at h
  refine hr_Fg h (fun _ h => ?_)
  refine hr_Fb h (fun v2 M2 e h => ?_)
  have FM2 : hr_fr hW_X11_is M M2 := hr_fr.tr (hr_fr.rf _ M) (hr_fr.mono (W := hW_X11_in) rfl (fr_X11_in a2 0 ((M.1 280 a1.toNatClampNeg) - 1) _ _ e))
  refine hr_Fg h (fun _ h => ?_)
  cases h
  exact FM2
def hW_X11_four : List (Nat × Nat) := [(276, 0), (277, 0)]
theorem fr_X11_four_3 (a1 : Int32) : ∀ (f : Nat) (x2 : Int32) (M : PM) (r : Unit × PM), f_X11_four_3 a1 f x2 M = some r → hr_fr hW_X11_four M r.2 := by
  intro f
  induction f with
  | zero => intro x2 M r h; cases h
  | succ f ih =>
    intro x2 M r h
    rw [f_X11_four_3.eq_2] at h
    refine hr_Fi h (fun _ h => ?_) (fun _ h => ?_)
    · cases h
      exact (hr_fr.rf _ M)
    · refine hr_Fg h (fun _ h => ?_)
      refine hr_Fg h (fun _ h => ?_)
      refine hr_Fg h (fun _ h => ?_)
      refine hr_Fg h (fun _ h => ?_)
      exact hr_fr.tr (hr_fr.si rfl (hr_fr.si rfl (hr_fr.rf _ M))) (ih (x2 + (-8)) _ _ h)
theorem fr_X11_four (a1 : Int32) : ∀ (M : PM) (r : Unit × PM), f_X11_four a1 M = some r → hr_fr hW_X11_four M r.2 := by
  intro M r h
  unfold f_X11_four at h
  exact hr_fr.tr (hr_fr.rf _ M) (fr_X11_four_3 a1 FU 24 _ _ h)
def hW_X11_feed : List (Nat × Nat) := [(275, 1), (276, 0), (277, 0)]
theorem fr_X11_feed (a1 : Int32) (a2 : Int32) (a3 : Int32) (a4 : Int32) (a5 : Int32) : ∀ (M : PM) (r : Int32 × PM), f_X11_feed a1 a2 a3 a4 a5 M = some r → hr_fr hW_X11_feed M r.2 := by
  intro M r h
  unfold f_X11_feed at h
  refine hr_Fg h (fun _ h => ?_)
  refine hr_Fi h (fun _ h => ?_) (fun _ h => ?_)
  · refine hr_Fb h (fun v3 M3 e h => ?_)
    have FM3 : hr_fr hW_X11_feed M M3 := hr_fr.tr (hr_fr.si rfl (hr_fr.rf _ M)) (hr_fr.mono (W := hW_X11_four) rfl (fr_X11_four a1 _ _ e))
    refine hr_Fb h (fun v5 M5 e h => ?_)
    have FM5 : hr_fr hW_X11_feed M M5 := hr_fr.tr FM3 (hr_fr.mono (W := hW_X11_four) rfl (fr_X11_four a2 _ _ e))
    refine hr_Fb h (fun v7 M7 e h => ?_)
    have FM7 : hr_fr hW_X11_feed M M7 := hr_fr.tr FM5 (hr_fr.mono (W := hW_X11_four) rfl (fr_X11_four a3 _ _ e))
    refine hr_Fb h (fun v9 M9 e h => ?_)
    have FM9 : hr_fr hW_X11_feed M M9 := hr_fr.tr FM7 (hr_fr.mono (W := hW_X11_four) rfl (fr_X11_four a4 _ _ e))
    refine hr_Fb h (fun v11 M11 e h => ?_)
    have FM11 : hr_fr hW_X11_feed M M11 := hr_fr.tr FM9 (hr_fr.mono (W := hW_X11_four) rfl (fr_X11_four a5 _ _ e))
    refine hr_Fg h (fun _ h => ?_)
    cases h
    exact FM11
  · cases h
    exact (hr_fr.si rfl (hr_fr.rf _ M))
def hW_X11_end : List (Nat × Nat) := [(275, 1), (277, 0)]
theorem fr_X11_end (a1 : Int32) : ∀ (M : PM) (r : Int32 × PM), f_X11_end a1 M = some r → hr_fr hW_X11_end M r.2 := by
  intro M r h
  unfold f_X11_end at h
  refine hr_Fg h (fun _ h => ?_)
  refine hr_Fb h (fun v2 M2 e h => ?_)
  have FM2 : hr_fr hW_X11_end M M2 := hr_fr.tr (hr_fr.si rfl (hr_fr.rf _ M)) (hr_fr.mono (W := hW_X11_in) rfl (fr_X11_in a1 0 ((hr_si M 275 0 0).1 277 (0 : Int32).toNatClampNeg) _ _ e))
  refine hr_Fi h (fun _ h => ?_) (fun _ h => ?_)
  · cases h
    exact FM2
  · refine hr_Fg h (fun _ h => ?_)
    cases h
    exact (hr_fr.si rfl FM2)
def hW_X11_see : List (Nat × Nat) := []
theorem fr_X11_see  : ∀ (M : PM) (r : Int32 × PM), f_X11_see M = some r → hr_fr hW_X11_see M r.2 := by
  intro M r h
  unfold f_X11_see at h
  refine hr_Fi h (fun _ h => ?_) (fun _ h => ?_)
  · cases h
    exact (hr_fr.rf _ M)
  · refine hr_Fg h (fun _ h => ?_)
    cases h
    exact (hr_fr.rf _ M)
def hW_X11_token : List (Nat × Nat) := [(275, 12), (275, 14), (275, 15), (275, 16), (275, 17)]
theorem fr_X11_token_163  : ∀ (f : Nat) (x2 : Int32) (M : PM) (r : Unit × PM), f_X11_token_163 f x2 M = some r → hr_fr hW_X11_token M r.2 := by
  intro f
  induction f with
  | zero => intro x2 M r h; cases h
  | succ f ih =>
    intro x2 M r h
    rw [f_X11_token_163.eq_2] at h
    refine hr_Fb h (fun v2 M2 e h => ?_)
    have FM2 : hr_fr hW_X11_token M M2 := hr_fr.tr (hr_fr.rf _ M) (hr_fr.mono (W := hW_X11_see) rfl (fr_X11_see  _ _ e))
    refine hr_Fb h (fun v4 M4 e h => ?_)
    have FM4 : hr_fr hW_X11_token M M4 := hr_fr.tr FM2 (hr_fr.mono (W := hW_X11_in) rfl (fr_X11_in v2 48 57 _ _ e))
    refine hr_Fi h (fun _ h => ?_) (fun _ h => ?_)
    · refine hr_Fi h (fun _ h => ?_) (fun _ h => ?_)
      · cases h
        exact (hr_fr.si rfl FM4)
      · cases h
        exact (hr_fr.si rfl FM4)
    · refine hr_Fi h (fun _ h => ?_) (fun _ h => ?_)
      · exact hr_fr.tr (hr_fr.si rfl (hr_fr.si rfl FM4)) (ih (x2 + 1) _ _ h)
      · refine hr_Fb h (fun v15 M15 e h => ?_)
        have FM15 : hr_fr hW_X11_token M M15 := hr_fr.tr FM4 (hr_fr.mono (W := hW_X11_see) rfl (fr_X11_see  _ _ e))
        exact hr_fr.tr (hr_fr.si rfl (hr_fr.si rfl FM15)) (ih (x2 + 1) _ _ h)
theorem fr_X11_token_74  : ∀ (f : Nat) (x2 : Int32) (M : PM) (r : Unit × PM), f_X11_token_74 f x2 M = some r → hr_fr hW_X11_token M r.2 := by
  intro f
  induction f with
  | zero => intro x2 M r h; cases h
  | succ f ih =>
    intro x2 M r h
    rw [f_X11_token_74.eq_2] at h
    refine hr_Fb h (fun v2 M2 e h => ?_)
    have FM2 : hr_fr hW_X11_token M M2 := hr_fr.tr (hr_fr.rf _ M) (hr_fr.mono (W := hW_X11_see) rfl (fr_X11_see  _ _ e))
    refine hr_Fb h (fun v4 M4 e h => ?_)
    have FM4 : hr_fr hW_X11_token M M4 := hr_fr.tr FM2 (hr_fr.mono (W := hW_X11_in) rfl (fr_X11_in v2 97 122 _ _ e))
    refine hr_Fi h (fun _ h => ?_) (fun _ h => ?_)
    · refine hr_Fi h (fun _ h => ?_) (fun _ h => ?_)
      · cases h
        exact (hr_fr.si rfl (hr_fr.sl rfl FM4))
      · cases h
        exact (hr_fr.si rfl (hr_fr.sl rfl FM4))
    · refine hr_Fb h (fun v12 M12 e h => ?_)
      have FM12 : hr_fr hW_X11_token M M12 := hr_fr.tr FM4 (hr_fr.mono (W := hW_X11_see) rfl (fr_X11_see  _ _ e))
      exact hr_fr.tr (hr_fr.si rfl (hr_fr.sl rfl FM12)) (ih (x2 + 1) _ _ h)
theorem fr_X11_token_0  : ∀ (f : Nat) (M : PM) (r : Unit × PM), f_X11_token_0 f M = some r → hr_fr hW_X11_token M r.2 := by
  intro f
  induction f with
  | zero => intro M r h; cases h
  | succ f ih =>
    intro M r h
    rw [f_X11_token_0.eq_2] at h
    refine hr_Fb h (fun v2 M2 e h => ?_)
    have FM2 : hr_fr hW_X11_token M M2 := hr_fr.tr (hr_fr.rf _ M) (hr_fr.mono (W := hW_X11_see) rfl (fr_X11_see  _ _ e))
    refine hr_Fi h (fun _ h => ?_) (fun _ h => ?_)
    · exact hr_fr.tr (hr_fr.si rfl FM2) (ih  _ _ h)
    · refine hr_Fb h (fun v6 M6 e h => ?_)
      have FM6 : hr_fr hW_X11_token M M6 := hr_fr.tr FM2 (hr_fr.mono (W := hW_X11_see) rfl (fr_X11_see  _ _ e))
      refine hr_Fi h (fun _ h => ?_) (fun _ h => ?_)
      · exact hr_fr.tr (hr_fr.si rfl FM6) (ih  _ _ h)
      · refine hr_Fb h (fun v10 M10 e h => ?_)
        have FM10 : hr_fr hW_X11_token M M10 := hr_fr.tr (hr_fr.si rfl FM6) (hr_fr.mono (W := hW_X11_see) rfl (fr_X11_see  _ _ e))
        refine hr_Fi h (fun _ h => ?_) (fun _ h => ?_)
        · refine hr_Fb h (fun v13 M13 e h => ?_)
          have FM13 : hr_fr hW_X11_token M M13 := hr_fr.tr (hr_fr.sl rfl FM10) (hr_fr.mono (W := hW_X11_in) rfl (fr_X11_in v10 97 122 _ _ e))
          refine hr_Fi h (fun _ h => ?_) (fun _ h => ?_)
          · refine hr_Fb h (fun v16 M16 e h => ?_)
            have FM16 : hr_fr hW_X11_token M M16 := hr_fr.tr FM13 (hr_fr.mono (W := hW_X11_in) rfl (fr_X11_in v10 48 57 _ _ e))
            refine hr_Fi h (fun _ h => ?_) (fun _ h => ?_)
            · refine hr_Fi h (fun _ h => ?_) (fun _ h => ?_)
              · cases h
                exact (hr_fr.si rfl (hr_fr.si rfl FM16))
              · cases h
                exact (hr_fr.si rfl (hr_fr.si rfl FM16))
            · exact hr_fr.tr (hr_fr.si rfl FM16) (fr_X11_token_163 FU 0 _ _ h)
          · exact hr_fr.tr FM13 (fr_X11_token_74 FU 0 _ _ h)
        · cases h
          exact (hr_fr.si rfl (hr_fr.sl rfl FM10))
theorem fr_X11_token  : ∀ (M : PM) (r : Unit × PM), f_X11_token M = some r → hr_fr hW_X11_token M r.2 := by
  intro M r h
  unfold f_X11_token at h
  exact hr_fr.tr (hr_fr.rf _ M) (fr_X11_token_0 FU _ _ h)
def hW_X11_fails : List (Nat × Nat) := [(275, 18)]
theorem fr_X11_fails  : ∀ (M : PM) (r : Int32 × PM), f_X11_fails M = some r → hr_fr hW_X11_fails M r.2 := by
  intro M r h
  unfold f_X11_fails at h
  cases h
  exact (hr_fr.si rfl (hr_fr.rf _ M))
def hW_X11_later : List (Nat × Nat) := [(275, 19), (275, 20)]
theorem fr_X11_later (a1 : Int32) (a2 : Int32) : ∀ (M : PM) (r : Unit × PM), f_X11_later a1 a2 M = some r → hr_fr hW_X11_later M r.2 := by
  intro M r h
  unfold f_X11_later at h
  refine hr_Fi h (fun _ h => ?_) (fun _ h => ?_)
  · cases h
    exact (hr_fr.si rfl (hr_fr.si rfl (hr_fr.rf _ M)))
  · refine hr_Fi h (fun _ h => ?_) (fun _ h => ?_)
    · cases h
      exact (hr_fr.si rfl (hr_fr.si rfl (hr_fr.rf _ M)))
    · refine hr_Fi h (fun _ h => ?_) (fun _ h => ?_)
      · refine hr_Fi h (fun _ h => ?_) (fun _ h => ?_)
        · cases h
          exact (hr_fr.rf _ M)
        · cases h
          exact (hr_fr.si rfl (hr_fr.si rfl (hr_fr.rf _ M)))
      · cases h
        exact (hr_fr.rf _ M)
def hW_X11_takeBut : List (Nat × Nat) := [(275, 12), (275, 14), (275, 15), (275, 16), (275, 17), (275, 18), (275, 19), (275, 20), (275, 24), (287, 0)]
theorem fr_X11_takeBut_58 (a1 : Int32) (a2 : Int32) (a3 : Int32) (a4 : Int32) : ∀ (M : PM) (r : Int32 × PM), f_X11_takeBut_58 a1 a2 a3 a4 M = some r → hr_fr hW_X11_takeBut M r.2 := by
  intro M r h
  unfold f_X11_takeBut_58 at h
  refine hr_Fb h (fun v2 M2 e h => ?_)
  have FM2 : hr_fr hW_X11_takeBut M M2 := hr_fr.tr (hr_fr.rf _ M) (hr_fr.mono (W := hW_X11_token) rfl (fr_X11_token  _ _ e))
  cases h
  exact FM2
theorem fr_X11_takeBut_44 (a1 : Int32) (a2 : Int32) (a3 : Int32) (a4 : Int32) : ∀ (M : PM) (r : Int32 × PM), f_X11_takeBut_44 a1 a2 a3 a4 M = some r → hr_fr hW_X11_takeBut M r.2 := by
  intro M r h
  unfold f_X11_takeBut_44 at h
  refine hr_Fb h (fun v2 M2 e h => ?_)
  have FM2 : hr_fr hW_X11_takeBut M M2 := hr_fr.tr (hr_fr.rf _ M) (hr_fr.mono (W := hW_X11_later) rfl (fr_X11_later 2 (M.1 275 13) _ _ e))
  exact hr_fr.tr (hr_fr.si rfl FM2) (fr_X11_takeBut_58 a1 a2 a3 a4 _ _ h)
theorem fr_X11_takeBut (a1 : Int32) (a2 : Int32) (a3 : Int32) (a4 : Int32) : ∀ (M : PM) (r : Int32 × PM), f_X11_takeBut a1 a2 a3 a4 M = some r → hr_fr hW_X11_takeBut M r.2 := by
  intro M r h
  unfold f_X11_takeBut at h
  refine hr_Fi h (fun _ h => ?_) (fun _ h => ?_)
  · refine hr_Fg h (fun _ h => ?_)
    refine hr_Fb h (fun v3 M3 e h => ?_)
    have FM3 : hr_fr hW_X11_takeBut M M3 := hr_fr.tr (hr_fr.si rfl (hr_fr.rf _ M)) (hr_fr.mono (W := hW_X11_in) rfl (fr_X11_in ((hr_si M 287 a1.toNatClampNeg (M.1 275 15)).1 275 15) a2 a3 _ _ e))
    refine hr_Fi h (fun _ h => ?_) (fun _ h => ?_)
    · exact hr_fr.tr FM3 (fr_X11_takeBut_44 a1 a2 a3 a4 _ _ h)
    · refine hr_Fi h (fun _ h => ?_) (fun _ h => ?_)
      · exact hr_fr.tr FM3 (fr_X11_takeBut_44 a1 a2 a3 a4 _ _ h)
      · exact hr_fr.tr FM3 (fr_X11_takeBut_58 a1 a2 a3 a4 _ _ h)
  · refine hr_Fb h (fun v7 M7 e h => ?_)
    have FM7 : hr_fr hW_X11_takeBut M M7 := hr_fr.tr (hr_fr.rf _ M) (hr_fr.mono (W := hW_X11_fails) rfl (fr_X11_fails  _ _ e))
    refine hr_Fg h (fun _ h => ?_)
    cases h
    exact FM7
def hW_X11_take : List (Nat × Nat) := [(275, 12), (275, 14), (275, 15), (275, 16), (275, 17), (275, 18), (275, 19), (275, 20), (275, 24), (287, 0)]
theorem fr_X11_take (a1 : Int32) (a2 : Int32) (a3 : Int32) : ∀ (M : PM) (r : Int32 × PM), f_X11_take a1 a2 a3 M = some r → hr_fr hW_X11_take M r.2 := by
  intro M r h
  unfold f_X11_take at h
  refine hr_Fb h (fun v2 M2 e h => ?_)
  have FM2 : hr_fr hW_X11_take M M2 := hr_fr.tr (hr_fr.rf _ M) (hr_fr.mono (W := hW_X11_takeBut) rfl (fr_X11_takeBut a1 a2 a3 (-1) _ _ e))
  refine hr_Fg h (fun _ h => ?_)
  cases h
  exact FM2
def hW_X11_full : List (Nat × Nat) := [(275, 19), (275, 20)]
theorem fr_X11_full (a1 : Int32) (a2 : Int32) (a3 : Int32) : ∀ (M : PM) (r : Unit × PM), f_X11_full a1 a2 a3 M = some r → hr_fr hW_X11_full M r.2 := by
  intro M r h
  unfold f_X11_full at h
  refine hr_Fg h (fun _ h => ?_)
  refine hr_Fi h (fun _ h => ?_) (fun _ h => ?_)
  · refine hr_Fb h (fun v3 M3 e h => ?_)
    have FM3 : hr_fr hW_X11_full M M3 := hr_fr.tr (hr_fr.rf _ M) (hr_fr.mono (W := hW_X11_later) rfl (fr_X11_later 3 a3 _ _ e))
    cases h
    exact FM3
  · cases h
    exact (hr_fr.rf _ M)
def hW_X11_keep : List (Nat × Nat) := [(286, 0)]
theorem fr_X11_keep_19 (a1 : Int32) (a2 : Int32) (a3 : Int32) (a4 : Int32) : ∀ (f : Nat) (x5 : Int32) (x6 : Int32) (M : PM) (r : Unit × PM), f_X11_keep_19 a1 a2 a3 a4 f x5 x6 M = some r → hr_fr hW_X11_keep M r.2 := by
  intro f
  induction f with
  | zero => intro x5 x6 M r h; cases h
  | succ f ih =>
    intro x5 x6 M r h
    rw [f_X11_keep_19.eq_2] at h
    refine hr_Fi h (fun _ h => ?_) (fun _ h => ?_)
    · refine hr_Fg h (fun _ h => ?_)
      refine hr_Fg h (fun _ h => ?_)
      cases h
      exact (hr_fr.si rfl (hr_fr.rf _ M))
    · refine hr_Fg h (fun _ h => ?_)
      refine hr_Fg h (fun _ h => ?_)
      exact hr_fr.tr (hr_fr.si rfl (hr_fr.rf _ M)) (ih x5 (x6 + 1) _ _ h)
theorem fr_X11_keep (a1 : Int32) (a2 : Int32) (a3 : Int32) (a4 : Int32) : ∀ (M : PM) (r : Unit × PM), f_X11_keep a1 a2 a3 a4 M = some r → hr_fr hW_X11_keep M r.2 := by
  intro M r h
  unfold f_X11_keep at h
  refine hr_Fg h (fun _ h => ?_)
  refine hr_Fi h (fun _ h => ?_) (fun _ h => ?_)
  · cases h
    exact (hr_fr.rf _ M)
  · exact hr_fr.tr (hr_fr.rf _ M) (fr_X11_keep_19 a1 a2 a3 a4 FU (M.1 286 a1.toNatClampNeg) 0 _ _ h)
def hW_X11_hueLine : List (Nat × Nat) := [(275, 12), (275, 14), (275, 15), (275, 16), (275, 17), (275, 18), (275, 19), (275, 20), (275, 24), (286, 0), (287, 0)]
theorem fr_X11_hueLine  : ∀ (M : PM) (r : Int32 × PM), f_X11_hueLine M = some r → hr_fr hW_X11_hueLine M r.2 := by
  intro M r h
  unfold f_X11_hueLine at h
  refine hr_Fb h (fun v2 M2 e h => ?_)
  have FM2 : hr_fr hW_X11_hueLine M M2 := hr_fr.tr (hr_fr.rf _ M) (hr_fr.mono (W := hW_X11_take) rfl (fr_X11_take 0 0 9 _ _ e))
  refine hr_Fi h (fun _ h => ?_) (fun _ h => ?_)
  · cases h
    exact FM2
  · refine hr_Fb h (fun v6 M6 e h => ?_)
    have FM6 : hr_fr hW_X11_hueLine M M6 := hr_fr.tr FM2 (hr_fr.mono (W := hW_X11_take) rfl (fr_X11_take 1 0 9 _ _ e))
    refine hr_Fi h (fun _ h => ?_) (fun _ h => ?_)
    · cases h
      exact FM6
    · refine hr_Fb h (fun v10 M10 e h => ?_)
      have FM10 : hr_fr hW_X11_hueLine M M10 := hr_fr.tr FM6 (hr_fr.mono (W := hW_X11_take) rfl (fr_X11_take 2 0 9 _ _ e))
      refine hr_Fi h (fun _ h => ?_) (fun _ h => ?_)
      · cases h
        exact FM10
      · refine hr_Fb h (fun v14 M14 e h => ?_)
        have FM14 : hr_fr hW_X11_hueLine M M14 := hr_fr.tr FM10 (hr_fr.mono (W := hW_X11_keep) rfl (fr_X11_keep 0 2 3 10 _ _ e))
        cases h
        exact FM14
def hW_X11_likesLine : List (Nat × Nat) := [(275, 12), (275, 14), (275, 15), (275, 16), (275, 17), (275, 18), (275, 19), (275, 20), (275, 23), (275, 24), (286, 0), (287, 0)]
theorem fr_X11_likesLine  : ∀ (M : PM) (r : Int32 × PM), f_X11_likesLine M = some r → hr_fr hW_X11_likesLine M r.2 := by
  intro M r h
  unfold f_X11_likesLine at h
  refine hr_Fb h (fun v2 M2 e h => ?_)
  have FM2 : hr_fr hW_X11_likesLine M M2 := hr_fr.tr (hr_fr.rf _ M) (hr_fr.mono (W := hW_X11_take) rfl (fr_X11_take 0 0 1 _ _ e))
  refine hr_Fi h (fun _ h => ?_) (fun _ h => ?_)
  · cases h
    exact FM2
  · refine hr_Fb h (fun v6 M6 e h => ?_)
    have FM6 : hr_fr hW_X11_likesLine M M6 := hr_fr.tr FM2 (hr_fr.mono (W := hW_X11_take) rfl (fr_X11_take 1 0 9 _ _ e))
    refine hr_Fi h (fun _ h => ?_) (fun _ h => ?_)
    · cases h
      exact FM6
    · refine hr_Fb h (fun v10 M10 e h => ?_)
      have FM10 : hr_fr hW_X11_likesLine M M10 := hr_fr.tr FM6 (hr_fr.mono (W := hW_X11_take) rfl (fr_X11_take 2 0 9 _ _ e))
      refine hr_Fi h (fun _ h => ?_) (fun _ h => ?_)
      · cases h
        exact FM10
      · refine hr_Fg h (fun _ h => ?_)
        refine hr_Fb h (fun v14 M14 e h => ?_)
        have FM14 : hr_fr hW_X11_likesLine M M14 := hr_fr.tr FM10 (hr_fr.mono (W := hW_X11_greater) rfl (fr_X11_greater (M10.1 275 22) (M10.1 287 (1 : Int32).toNatClampNeg) _ _ e))
        refine hr_Fi h (fun _ h => ?_) (fun _ h => ?_)
        · cases h
          exact (hr_fr.si rfl FM14)
        · refine hr_Fg h (fun _ h => ?_)
          refine hr_Fg h (fun _ h => ?_)
          refine hr_Fg h (fun _ h => ?_)
          refine hr_Fg h (fun _ h => ?_)
          cases h
          exact (hr_fr.si rfl (hr_fr.si rfl FM14))
def hW_X11_ruleNumbers : List (Nat × Nat) := [(275, 12), (275, 14), (275, 15), (275, 16), (275, 17), (275, 18), (275, 19), (275, 20), (275, 24), (287, 0)]
theorem fr_X11_ruleNumbers (a1 : Int32) : ∀ (M : PM) (r : Int32 × PM), f_X11_ruleNumbers a1 M = some r → hr_fr hW_X11_ruleNumbers M r.2 := by
  intro M r h
  unfold f_X11_ruleNumbers at h
  refine hr_Fi h (fun _ h => ?_) (fun _ h => ?_)
  · refine hr_Fb h (fun v3 M3 e h => ?_)
    have FM3 : hr_fr hW_X11_ruleNumbers M M3 := hr_fr.tr (hr_fr.rf _ M) (hr_fr.mono (W := hW_X11_take) rfl (fr_X11_take 1 0 54 _ _ e))
    refine hr_Fi h (fun _ h => ?_) (fun _ h => ?_)
    · cases h
      exact FM3
    · refine hr_Fg h (fun _ h => ?_)
      refine hr_Fb h (fun v7 M7 e h => ?_)
      have FM7 : hr_fr hW_X11_ruleNumbers M M7 := hr_fr.tr FM3 (hr_fr.mono (W := hW_X11_take) rfl (fr_X11_take 2 (M3.1 287 (1 : Int32).toNatClampNeg) 54 _ _ e))
      refine hr_Fi h (fun _ h => ?_) (fun _ h => ?_)
      · cases h
        exact FM7
      · cases h
        exact FM7
  · refine hr_Fi h (fun _ h => ?_) (fun _ h => ?_)
    · refine hr_Fb h (fun v12 M12 e h => ?_)
      have FM12 : hr_fr hW_X11_ruleNumbers M M12 := hr_fr.tr (hr_fr.rf _ M) (hr_fr.mono (W := hW_X11_take) rfl (fr_X11_take 1 0 2 _ _ e))
      refine hr_Fi h (fun _ h => ?_) (fun _ h => ?_)
      · cases h
        exact FM12
      · refine hr_Fb h (fun v16 M16 e h => ?_)
        have FM16 : hr_fr hW_X11_ruleNumbers M M16 := hr_fr.tr FM12 (hr_fr.mono (W := hW_X11_take) rfl (fr_X11_take 2 1 9 _ _ e))
        refine hr_Fi h (fun _ h => ?_) (fun _ h => ?_)
        · cases h
          exact FM16
        · cases h
          exact FM16
    · refine hr_Fi h (fun _ h => ?_) (fun _ h => ?_)
      · refine hr_Fb h (fun v21 M21 e h => ?_)
        have FM21 : hr_fr hW_X11_ruleNumbers M M21 := hr_fr.tr (hr_fr.rf _ M) (hr_fr.mono (W := hW_X11_take) rfl (fr_X11_take 1 0 2 _ _ e))
        refine hr_Fg h (fun _ h => ?_)
        cases h
        exact FM21
      · refine hr_Fi h (fun _ h => ?_) (fun _ h => ?_)
        · refine hr_Fb h (fun v23 M23 e h => ?_)
          have FM23 : hr_fr hW_X11_ruleNumbers M M23 := hr_fr.tr (hr_fr.rf _ M) (hr_fr.mono (W := hW_X11_take) rfl (fr_X11_take 1 0 9 _ _ e))
          refine hr_Fi h (fun _ h => ?_) (fun _ h => ?_)
          · cases h
            exact FM23
          · refine hr_Fg h (fun _ h => ?_)
            refine hr_Fb h (fun v27 M27 e h => ?_)
            have FM27 : hr_fr hW_X11_ruleNumbers M M27 := hr_fr.tr FM23 (hr_fr.mono (W := hW_X11_takeBut) rfl (fr_X11_takeBut 2 0 9 (M23.1 287 (1 : Int32).toNatClampNeg) _ _ e))
            refine hr_Fi h (fun _ h => ?_) (fun _ h => ?_)
            · cases h
              exact FM27
            · cases h
              exact FM27
        · refine hr_Fb h (fun v32 M32 e h => ?_)
          have FM32 : hr_fr hW_X11_ruleNumbers M M32 := hr_fr.tr (hr_fr.rf _ M) (hr_fr.mono (W := hW_X11_take) rfl (fr_X11_take 1 0 2 _ _ e))
          refine hr_Fi h (fun _ h => ?_) (fun _ h => ?_)
          · cases h
            exact FM32
          · refine hr_Fb h (fun v36 M36 e h => ?_)
            have FM36 : hr_fr hW_X11_ruleNumbers M M36 := hr_fr.tr FM32 (hr_fr.mono (W := hW_X11_take) rfl (fr_X11_take 2 1 18 _ _ e))
            refine hr_Fi h (fun _ h => ?_) (fun _ h => ?_)
            · cases h
              exact FM36
            · cases h
              exact FM36
def hW_X11_paletteLine : List (Nat × Nat) := [(275, 12), (275, 14), (275, 15), (275, 16), (275, 17), (275, 18), (275, 19), (275, 20), (275, 23), (275, 24), (286, 0), (287, 0)]
theorem fr_X11_paletteLine_209 (a1 : Int64) (a3 : Int32) (x4 : Int32) (s0 : Int32) : ∀ (M : PM) (r : Int32 × PM), f_X11_paletteLine_209 a1 a3 x4 s0 M = some r → hr_fr hW_X11_paletteLine M r.2 := by
  intro M r h
  unfold f_X11_paletteLine_209 at h
  refine hr_Fg h (fun _ h => ?_)
  refine hr_Fb h (fun v2 M2 e h => ?_)
  have FM2 : hr_fr hW_X11_paletteLine M M2 := hr_fr.tr (hr_fr.si rfl (hr_fr.si rfl (hr_fr.rf _ M))) (hr_fr.mono (W := hW_X11_keep) rfl (fr_X11_keep 1 32 3 6 _ _ e))
  cases h
  exact FM2
theorem fr_X11_paletteLine_125 (a1 : Int64) (a3 : Int32) (x4 : Int32) : ∀ (M : PM) (r : Int32 × PM), f_X11_paletteLine_125 a1 a3 x4 M = some r → hr_fr hW_X11_paletteLine M r.2 := by
  intro M r h
  unfold f_X11_paletteLine_125 at h
  refine hr_Fb h (fun v2 M2 e h => ?_)
  have FM2 : hr_fr hW_X11_paletteLine M M2 := hr_fr.tr (hr_fr.rf _ M) (hr_fr.mono (W := hW_X11_token) rfl (fr_X11_token  _ _ e))
  refine hr_Fi h (fun _ h => ?_) (fun _ h => ?_)
  · refine hr_Fi h (fun _ h => ?_) (fun _ h => ?_)
    · refine hr_Fb h (fun v6 M6 e h => ?_)
      have FM6 : hr_fr hW_X11_paletteLine M M6 := hr_fr.tr FM2 (hr_fr.mono (W := hW_X11_hueLine) rfl (fr_X11_hueLine  _ _ e))
      refine hr_Fg h (fun _ h => ?_)
      cases h
      exact FM6
    · refine hr_Fb h (fun v9 M9 e h => ?_)
      have FM9 : hr_fr hW_X11_paletteLine M M9 := hr_fr.tr FM2 (hr_fr.mono (W := hW_X11_likesLine) rfl (fr_X11_likesLine  _ _ e))
      refine hr_Fg h (fun _ h => ?_)
      cases h
      exact FM9
  · refine hr_Fg h (fun _ h => ?_)
    refine hr_Fb h (fun v11 M11 e h => ?_)
    have FM11 : hr_fr hW_X11_paletteLine M M11 := hr_fr.tr (hr_fr.si rfl FM2) (hr_fr.mono (W := hW_X11_ruleNumbers) rfl (fr_X11_ruleNumbers x4 _ _ e))
    refine hr_Fi h (fun _ h => ?_) (fun _ h => ?_)
    · cases h
      exact FM11
    · refine hr_Fi h (fun _ h => ?_) (fun _ h => ?_)
      · refine hr_Fg h (fun _ h => ?_)
        refine hr_Fg h (fun _ h => ?_)
        refine hr_Fb h (fun v16 M16 e h => ?_)
        have FM16 : hr_fr hW_X11_paletteLine M M16 := hr_fr.tr FM11 (hr_fr.mono (W := hW_X11_greater) rfl (fr_X11_greater (M11.1 287 (1 : Int32).toNatClampNeg) (M11.1 287 (2 : Int32).toNatClampNeg) _ _ e))
        refine hr_Fb h (fun v17 M17 e h => ?_)
        have FM17 : hr_fr hW_X11_paletteLine M M17 := hr_fr.tr FM16 (hr_fr.mono (W := hW_X11_greater) rfl (fr_X11_greater (M11.1 275 22) v16 _ _ e))
        exact hr_fr.tr FM17 (fr_X11_paletteLine_209 a1 a3 x4 v17 _ _ h)
      · exact hr_fr.tr FM11 (fr_X11_paletteLine_209 a1 a3 x4 (M11.1 275 22) _ _ h)
theorem fr_X11_paletteLine_90 (a1 : Int64) (a3 : Int32) (x4 : Int32) : ∀ (M : PM) (r : Int32 × PM), f_X11_paletteLine_90 a1 a3 x4 M = some r → hr_fr hW_X11_paletteLine M r.2 := by
  intro M r h
  unfold f_X11_paletteLine_90 at h
  refine hr_Fi h (fun _ h => ?_) (fun _ h => ?_)
  · refine hr_Fb h (fun v3 M3 e h => ?_)
    have FM3 : hr_fr hW_X11_paletteLine M M3 := hr_fr.tr (hr_fr.rf _ M) (hr_fr.mono (W := hW_X11_full) rfl (fr_X11_full 0 10 a3 _ _ e))
    exact hr_fr.tr FM3 (fr_X11_paletteLine_125 a1 a3 x4 _ _ h)
  · refine hr_Fi h (fun _ h => ?_) (fun _ h => ?_)
    · exact hr_fr.tr (hr_fr.rf _ M) (fr_X11_paletteLine_125 a1 a3 x4 _ _ h)
    · refine hr_Fb h (fun v7 M7 e h => ?_)
      have FM7 : hr_fr hW_X11_paletteLine M M7 := hr_fr.tr (hr_fr.rf _ M) (hr_fr.mono (W := hW_X11_full) rfl (fr_X11_full 1 6 a3 _ _ e))
      exact hr_fr.tr FM7 (fr_X11_paletteLine_125 a1 a3 x4 _ _ h)
theorem fr_X11_paletteLine_61 (a1 : Int64) (a3 : Int32) (s0 : Int32) : ∀ (M : PM) (r : Int32 × PM), f_X11_paletteLine_61 a1 a3 s0 M = some r → hr_fr hW_X11_paletteLine M r.2 := by
  intro M r h
  unfold f_X11_paletteLine_61 at h
  refine hr_Fi h (fun _ h => ?_) (fun _ h => ?_)
  · refine hr_Fi h (fun _ h => ?_) (fun _ h => ?_)
    · exact hr_fr.tr (hr_fr.rf _ M) (fr_X11_paletteLine_90 a1 a3 s0 _ _ h)
    · refine hr_Fi h (fun _ h => ?_) (fun _ h => ?_)
      · exact hr_fr.tr (hr_fr.rf _ M) (fr_X11_paletteLine_90 a1 a3 s0 _ _ h)
      · refine hr_Fb h (fun v5 M5 e h => ?_)
        have FM5 : hr_fr hW_X11_paletteLine M M5 := hr_fr.tr (hr_fr.rf _ M) (hr_fr.mono (W := hW_X11_fails) rfl (fr_X11_fails  _ _ e))
        refine hr_Fg h (fun _ h => ?_)
        cases h
        exact FM5
  · exact hr_fr.tr (hr_fr.rf _ M) (fr_X11_paletteLine_90 a1 a3 s0 _ _ h)
theorem fr_X11_paletteLine (a1 : Int64) (a3 : Int32) : ∀ (M : PM) (r : Int32 × PM), f_X11_paletteLine a1 a3 M = some r → hr_fr hW_X11_paletteLine M r.2 := by
  intro M r h
  unfold f_X11_paletteLine at h
  refine hr_Fi h (fun _ h => ?_) (fun _ h => ?_)
  · exact hr_fr.tr (hr_fr.rf _ M) (fr_X11_paletteLine_61 a1 a3 0 _ _ h)
  · refine hr_Fi h (fun _ h => ?_) (fun _ h => ?_)
    · exact hr_fr.tr (hr_fr.rf _ M) (fr_X11_paletteLine_61 a1 a3 1 _ _ h)
    · refine hr_Fi h (fun _ h => ?_) (fun _ h => ?_)
      · exact hr_fr.tr (hr_fr.rf _ M) (fr_X11_paletteLine_61 a1 a3 2 _ _ h)
      · refine hr_Fi h (fun _ h => ?_) (fun _ h => ?_)
        · exact hr_fr.tr (hr_fr.rf _ M) (fr_X11_paletteLine_61 a1 a3 3 _ _ h)
        · refine hr_Fi h (fun _ h => ?_) (fun _ h => ?_)
          · exact hr_fr.tr (hr_fr.rf _ M) (fr_X11_paletteLine_61 a1 a3 4 _ _ h)
          · exact hr_fr.tr (hr_fr.rf _ M) (fr_X11_paletteLine_61 a1 a3 (-1) _ _ h)
