/-! printed by wip/whole/gen/gen40.py: what the functions may write -/
def hW_X4_hasAll : List (Nat × Nat) := []
theorem fr_X4_hasAll (a0 : Nat) (a1 : Int32) : ∀ (M : PM) (r : Int32 × PM), f_X4_hasAll a0 a1 M = some r → hr_fr hW_X4_hasAll M r.2 := by
  intro M r h
  unfold f_X4_hasAll at h
  refine hr_Fg h (fun _ h => ?_)
  refine hr_Fb h (fun v2 M2 e h => ?_)
  have FM2 : hr_fr hW_X4_hasAll M M2 := hr_fr.tr (hr_fr.rf _ M) (hr_fr.mono (W := hW_X4_all) rfl (fr_X4_all a0 _ _ e))
  refine hr_Fi h (fun _ h => ?_) (fun _ h => ?_)
  · cases h
    exact FM2
  · cases h
    exact FM2
def hW_X4_foesOfAny : List (Nat × Nat) := []
theorem fr_X4_foesOfAny_4 (a0 : Nat) (a1 : Int32) : ∀ (f : Nat) (x2 : Int32) (x3 : Int32) (M : PM) (r : Int32 × PM), f_X4_foesOfAny_4 a0 a1 f x2 x3 M = some r → hr_fr hW_X4_foesOfAny M r.2 := by
  intro f
  induction f with
  | zero => intro x2 x3 M r h; cases h
  | succ f ih =>
    intro x2 x3 M r h
    rw [f_X4_foesOfAny_4.eq_2] at h
    refine hr_Fi h (fun _ h => ?_) (fun _ h => ?_)
    · cases h
      exact (hr_fr.rf _ M)
    · refine hr_Fb h (fun v4 M4 e h => ?_)
      have FM4 : hr_fr hW_X4_foesOfAny M M4 := hr_fr.tr (hr_fr.rf _ M) (hr_fr.mono (W := hW_X10_holdsBit) rfl (fr_X10_holdsBit a1 x3 _ _ e))
      refine hr_Fi h (fun _ h => ?_) (fun _ h => ?_)
      · exact hr_fr.tr FM4 (ih x2 (x3 + 1) _ _ h)
      · refine hr_Fg h (fun _ h => ?_)
        exact hr_fr.tr FM4 (ih (x2 ||| (M4.1 (a0 + 5) x3.toNatClampNeg)) (x3 + 1) _ _ h)
theorem fr_X4_foesOfAny (a0 : Nat) (a1 : Int32) : ∀ (M : PM) (r : Int32 × PM), f_X4_foesOfAny a0 a1 M = some r → hr_fr hW_X4_foesOfAny M r.2 := by
  intro M r h
  unfold f_X4_foesOfAny at h
  refine hr_Fg h (fun _ h => ?_)
  exact hr_fr.tr (hr_fr.rf _ M) (fr_X4_foesOfAny_4 a0 a1 FU 0 0 _ _ h)
def hW_X4_meek : List (Nat × Nat) := []
theorem fr_X4_meek_4 (a0 : Nat) : ∀ (f : Nat) (x1 : Int32) (x2 : Int32) (M : PM) (r : Int32 × PM), f_X4_meek_4 a0 f x1 x2 M = some r → hr_fr hW_X4_meek M r.2 := by
  intro f
  induction f with
  | zero => intro x1 x2 M r h; cases h
  | succ f ih =>
    intro x1 x2 M r h
    rw [f_X4_meek_4.eq_2] at h
    refine hr_Fi h (fun _ h => ?_) (fun _ h => ?_)
    · cases h
      exact (hr_fr.rf _ M)
    · refine hr_Fg h (fun _ h => ?_)
      refine hr_Fi h (fun _ h => ?_) (fun _ h => ?_)
      · exact hr_fr.tr (hr_fr.rf _ M) (ih (x1 ||| (jl 1 x2)) (x2 + 1) _ _ h)
      · exact hr_fr.tr (hr_fr.rf _ M) (ih x1 (x2 + 1) _ _ h)
theorem fr_X4_meek (a0 : Nat) : ∀ (M : PM) (r : Int32 × PM), f_X4_meek a0 M = some r → hr_fr hW_X4_meek M r.2 := by
  intro M r h
  unfold f_X4_meek at h
  refine hr_Fg h (fun _ h => ?_)
  exact hr_fr.tr (hr_fr.rf _ M) (fr_X4_meek_4 a0 FU 0 0 _ _ h)
def hW_X4_fiercest : List (Nat × Nat) := []
theorem fr_X4_fiercest_6 (a0 : Nat) : ∀ (f : Nat) (x1 : Int32) (x2 : Int32) (x3 : Int32) (M : PM) (r : Int32 × PM), f_X4_fiercest_6 a0 f x1 x2 x3 M = some r → hr_fr hW_X4_fiercest M r.2 := by
  intro f
  induction f with
  | zero => intro x1 x2 x3 M r h; cases h
  | succ f ih =>
    intro x1 x2 x3 M r h
    rw [f_X4_fiercest_6.eq_2] at h
    refine hr_Fi h (fun _ h => ?_) (fun _ h => ?_)
    · cases h
      exact (hr_fr.rf _ M)
    · refine hr_Fg h (fun _ h => ?_)
      refine hr_Fb h (fun v4 M4 e h => ?_)
      have FM4 : hr_fr hW_X4_fiercest M M4 := hr_fr.tr (hr_fr.rf _ M) (hr_fr.mono (W := hW_J6_bitCount_0f7a4) rfl (fr_J6_bitCount_0f7a4 (M.1 (a0 + 5) x3.toNatClampNeg) _ _ e))
      refine hr_Fi h (fun _ h => ?_) (fun _ h => ?_)
      · exact hr_fr.tr FM4 (ih x1 x2 (x3 + 1) _ _ h)
      · refine hr_Fg h (fun _ h => ?_)
        refine hr_Fb h (fun v8 M8 e h => ?_)
        have FM8 : hr_fr hW_X4_fiercest M M8 := hr_fr.tr FM4 (hr_fr.mono (W := hW_J6_bitCount_0f7a4) rfl (fr_J6_bitCount_0f7a4 (M4.1 (a0 + 5) x3.toNatClampNeg) _ _ e))
        exact hr_fr.tr FM8 (ih x3 v8 (x3 + 1) _ _ h)
theorem fr_X4_fiercest (a0 : Nat) : ∀ (M : PM) (r : Int32 × PM), f_X4_fiercest a0 M = some r → hr_fr hW_X4_fiercest M r.2 := by
  intro M r h
  unfold f_X4_fiercest at h
  refine hr_Fg h (fun _ h => ?_)
  exact hr_fr.tr (hr_fr.rf _ M) (fr_X4_fiercest_6 a0 FU (-1) (-1) 0 _ _ h)
def hW_X4_findDot : List (Nat × Nat) := []
theorem fr_X4_findDot_7 (a0 : Nat) : ∀ (f : Nat) (x1 : Int32) (x2 : Int32) (x3 : Int32) (M : PM) (r : Int32 × PM), f_X4_findDot_7 a0 f x1 x2 x3 M = some r → hr_fr hW_X4_findDot M r.2 := by
  intro f
  induction f with
  | zero => intro x1 x2 x3 M r h; cases h
  | succ f ih =>
    intro x1 x2 x3 M r h
    rw [f_X4_findDot_7.eq_2] at h
    refine hr_Fi h (fun _ h => ?_) (fun _ h => ?_)
    · cases h
      exact (hr_fr.rf _ M)
    · refine hr_Fi h (fun _ h => ?_) (fun _ h => ?_)
      · exact hr_fr.tr (hr_fr.rf _ M) (ih x1 x2 (x3 + 1) _ _ h)
      · refine hr_Fb h (fun v6 M6 e h => ?_)
        have FM6 : hr_fr hW_X4_findDot M M6 := hr_fr.tr (hr_fr.rf _ M) (hr_fr.mono (W := hW_X4_foesOfColour) rfl (fr_X4_foesOfColour a0 (x3 / 100) (jr (x3 / 10) 10) (jr x3 10) _ _ e))
        refine hr_Fi h (fun _ h => ?_) (fun _ h => ?_)
        · exact hr_fr.tr FM6 (ih x3 (((x3 / 100) + (jr (x3 / 10) 10)) + (jr x3 10)) (x3 + 1) _ _ h)
        · exact hr_fr.tr FM6 (ih x1 x2 (x3 + 1) _ _ h)
theorem fr_X4_findDot (a0 : Nat) : ∀ (M : PM) (r : Int32 × PM), f_X4_findDot a0 M = some r → hr_fr hW_X4_findDot M r.2 := by
  intro M r h
  unfold f_X4_findDot at h
  refine hr_Fg h (fun _ h => ?_)
  exact hr_fr.tr (hr_fr.rf _ M) (fr_X4_findDot_7 a0 FU (-1) 28 0 _ _ h)
def hW_X4_dotColour (a0 : Nat) : List (Nat × Nat) := [(a0, 11)]
theorem fr_X4_dotColour (a0 : Nat) : ∀ (M : PM) (r : Int32 × PM), f_X4_dotColour a0 M = some r → hr_fr (hW_X4_dotColour a0) M r.2 := by
  intro M r h
  unfold f_X4_dotColour at h
  refine hr_Fg h (fun _ h => ?_)
  refine hr_Fi h (fun _ h => ?_) (fun _ h => ?_)
  · refine hr_Fb h (fun v3 M3 e h => ?_)
    have FM3 : hr_fr (hW_X4_dotColour a0) M M3 := hr_fr.tr (hr_fr.rf _ M) (hr_fr.mono (W := hW_X4_findDot) rfl (fr_X4_findDot a0 _ _ e))
    cases h
    exact (hr_fr.si (by simp [hr_in, hW_X4_dotColour]) FM3)
  · cases h
    exact (hr_fr.rf _ M)
def hW_X4_partOrLikes : List (Nat × Nat) := []
theorem fr_X4_partOrLikes_27 (a0 : Nat) (a1 : Int32) (s0 : Int32) : ∀ (M : PM) (r : Int32 × PM), f_X4_partOrLikes_27 a0 a1 s0 M = some r → hr_fr hW_X4_partOrLikes M r.2 := by
  intro M r h
  unfold f_X4_partOrLikes_27 at h
  refine hr_Fi h (fun _ h => ?_) (fun _ h => ?_)
  · cases h
    exact (hr_fr.rf _ M)
  · refine hr_Fi h (fun _ h => ?_) (fun _ h => ?_)
    · cases h
      exact (hr_fr.rf _ M)
    · refine hr_Fb h (fun v6 M6 e h => ?_)
      have FM6 : hr_fr hW_X4_partOrLikes M M6 := hr_fr.tr (hr_fr.rf _ M) (hr_fr.mono (W := hW_X4_has) rfl (fr_X4_has a0 s0 _ _ e))
      refine hr_Fi h (fun _ h => ?_) (fun _ h => ?_)
      · cases h
        exact FM6
      · refine hr_Fi h (fun _ h => ?_) (fun _ h => ?_)
        · refine hr_Fi h (fun _ h => ?_) (fun _ h => ?_)
          · cases h
            exact FM6
          · refine hr_Fb h (fun v13 M13 e h => ?_)
            have FM13 : hr_fr hW_X4_partOrLikes M M13 := hr_fr.tr FM6 (hr_fr.mono (W := hW_X4_part) rfl (fr_X4_part a0 s0 (jr a1 10) _ _ e))
            cases h
            exact FM13
        · refine hr_Fg h (fun _ h => ?_)
          cases h
          exact FM6
theorem fr_X4_partOrLikes (a0 : Nat) (a1 : Int32) : ∀ (M : PM) (r : Int32 × PM), f_X4_partOrLikes a0 a1 M = some r → hr_fr hW_X4_partOrLikes M r.2 := by
  intro M r h
  unfold f_X4_partOrLikes at h
  refine hr_Fg h (fun _ h => ?_)
  refine hr_Fi h (fun _ h => ?_) (fun _ h => ?_)
  · exact hr_fr.tr (hr_fr.rf _ M) (fr_X4_partOrLikes_27 a0 a1 (jr a1 10) _ _ h)
  · refine hr_Fi h (fun _ h => ?_) (fun _ h => ?_)
    · exact hr_fr.tr (hr_fr.rf _ M) (fr_X4_partOrLikes_27 a0 a1 (jr a1 10) _ _ h)
    · exact hr_fr.tr (hr_fr.rf _ M) (fr_X4_partOrLikes_27 a0 a1 ((a1 - 100) / 10) _ _ h)
def hW_X4_answer (a0 : Nat) : List (Nat × Nat) := [(a0, 11)]
theorem fr_X4_answer (a0 : Nat) (a1 : Int32) : ∀ (M : PM) (r : Int32 × PM), f_X4_answer a0 a1 M = some r → hr_fr (hW_X4_answer a0) M r.2 := by
  intro M r h
  unfold f_X4_answer at h
  refine hr_Fg h (fun _ h => ?_)
  refine hr_Fi h (fun _ h => ?_) (fun _ h => ?_)
  · cases h
    exact (hr_fr.rf _ M)
  · refine hr_Fi h (fun _ h => ?_) (fun _ h => ?_)
    · cases h
      exact (hr_fr.rf _ M)
    · refine hr_Fi h (fun _ h => ?_) (fun _ h => ?_)
      · refine hr_Fb h (fun v5 M5 e h => ?_)
        have FM5 : hr_fr (hW_X4_answer a0) M M5 := hr_fr.tr (hr_fr.rf _ M) (hr_fr.mono (W := hW_X4_meek) rfl (fr_X4_meek a0 _ _ e))
        cases h
        exact FM5
      · refine hr_Fi h (fun _ h => ?_) (fun _ h => ?_)
        · refine hr_Fb h (fun v7 M7 e h => ?_)
          have FM7 : hr_fr (hW_X4_answer a0) M M7 := hr_fr.tr (hr_fr.rf _ M) (hr_fr.mono (W := hW_X4_fiercest) rfl (fr_X4_fiercest a0 _ _ e))
          cases h
          exact FM7
        · refine hr_Fi h (fun _ h => ?_) (fun _ h => ?_)
          · refine hr_Fb h (fun v9 M9 e h => ?_)
            have FM9 : hr_fr (hW_X4_answer a0) M M9 := hr_fr.tr (hr_fr.rf _ M) (hr_fr.mono (W := (hW_X4_dotColour a0)) (by simp [hr_sub, hr_cov, hr_in, hW_X4_dotColour, hW_X4_answer]) (fr_X4_dotColour a0 _ _ e))
            cases h
            exact FM9
          · refine hr_Fb h (fun v11 M11 e h => ?_)
            have FM11 : hr_fr (hW_X4_answer a0) M M11 := hr_fr.tr (hr_fr.rf _ M) (hr_fr.mono (W := hW_X4_partOrLikes) rfl (fr_X4_partOrLikes a0 a1 _ _ e))
            cases h
            exact FM11
def hW_X4_measureOf : List (Nat × Nat) := []
theorem fr_X4_measureOf (a0 : Int32) (a1 : Int32) (a2 : Int32) (a3 : Int32) (a4 : Int32) : ∀ (M : PM) (r : Int32 × PM), f_X4_measureOf a0 a1 a2 a3 a4 M = some r → hr_fr hW_X4_measureOf M r.2 := by
  intro M r h
  unfold f_X4_measureOf at h
  refine hr_Fi h (fun _ h => ?_) (fun _ h => ?_)
  · cases h
    exact (hr_fr.rf _ M)
  · refine hr_Fi h (fun _ h => ?_) (fun _ h => ?_)
    · cases h
      exact (hr_fr.rf _ M)
    · refine hr_Fi h (fun _ h => ?_) (fun _ h => ?_)
      · cases h
        exact (hr_fr.rf _ M)
      · cases h
        exact (hr_fr.rf _ M)
def hW_X4_strengthWith : List (Nat × Nat) := []
theorem fr_X4_strengthWith_6 (a0 : Nat) (a1 : Int32) (a2 : Int32) (a3 : Int32) (a4 : Int32) : ∀ (f : Nat) (x5 : Int32) (x6 : Int32) (M : PM) (r : Int32 × PM), f_X4_strengthWith_6 a0 a1 a2 a3 a4 f x5 x6 M = some r → hr_fr hW_X4_strengthWith M r.2 := by
  intro f
  induction f with
  | zero => intro x5 x6 M r h; cases h
  | succ f ih =>
    intro x5 x6 M r h
    rw [f_X4_strengthWith_6.eq_2] at h
    refine hr_Fi h (fun _ h => ?_) (fun _ h => ?_)
    · cases h
      exact (hr_fr.rf _ M)
    · refine hr_Fg h (fun _ h => ?_)
      refine hr_Fg h (fun _ h => ?_)
      refine hr_Fb h (fun v4 M4 e h => ?_)
      have FM4 : hr_fr hW_X4_strengthWith M M4 := hr_fr.tr (hr_fr.rf _ M) (hr_fr.mono (W := hW_X4_measureOf) rfl (fr_X4_measureOf a2 a3 a4 (M.1 (a0 + 2) (3 * x6).toNatClampNeg) (M.1 (a0 + 2) ((3 * x6) + 1).toNatClampNeg) _ _ e))
      refine hr_Fi h (fun _ h => ?_) (fun _ h => ?_)
      · exact hr_fr.tr FM4 (ih x5 (x6 + 1) _ _ h)
      · refine hr_Fg h (fun _ h => ?_)
        refine hr_Fb h (fun v8 M8 e h => ?_)
        have FM8 : hr_fr hW_X4_strengthWith M M8 := hr_fr.tr FM4 (hr_fr.mono (W := hW_X4_measure) rfl (fr_X4_measure a0 a1 (M.1 (a0 + 2) (3 * x6).toNatClampNeg) (M.1 (a0 + 2) ((3 * x6) + 1).toNatClampNeg) _ _ e))
        refine hr_Fb h (fun v10 M10 e h => ?_)
        have FM10 : hr_fr hW_X4_strengthWith M M10 := hr_fr.tr FM8 (hr_fr.mono (W := hW_X4_touches) rfl (fr_X4_touches (M.1 (a0 + 2) (3 * x6).toNatClampNeg) (M.1 (a0 + 2) ((3 * x6) + 1).toNatClampNeg) (M4.1 (a0 + 2) ((3 * x6) + 2).toNatClampNeg) v8 v4 _ _ e))
        refine hr_Fi h (fun _ h => ?_) (fun _ h => ?_)
        · exact hr_fr.tr FM10 (ih x5 (x6 + 1) _ _ h)
        · refine hr_Fi h (fun _ h => ?_) (fun _ h => ?_)
          · cases h
            exact FM10
          · exact hr_fr.tr FM10 (ih (x5 + 1) (x6 + 1) _ _ h)
theorem fr_X4_strengthWith (a0 : Nat) (a1 : Int32) (a2 : Int32) (a3 : Int32) (a4 : Int32) : ∀ (M : PM) (r : Int32 × PM), f_X4_strengthWith a0 a1 a2 a3 a4 M = some r → hr_fr hW_X4_strengthWith M r.2 := by
  intro M r h
  unfold f_X4_strengthWith at h
  refine hr_Fg h (fun _ h => ?_)
  exact hr_fr.tr (hr_fr.rf _ M) (fr_X4_strengthWith_6 a0 a1 a2 a3 a4 FU 0 0 _ _ h)
def hW_X4_gainOf : List (Nat × Nat) := []
theorem fr_X4_gainOf_17 (a0 : Nat) (a1 : Int32) (a2 : Int32) (a3 : Int32) (s0 : Int32) (s1 : Int32) : ∀ (M : PM) (r : Int32 × PM), f_X4_gainOf_17 a0 a1 a2 a3 s0 s1 M = some r → hr_fr hW_X4_gainOf M r.2 := by
  intro M r h
  unfold f_X4_gainOf_17 at h
  refine hr_Fg h (fun _ h => ?_)
  refine hr_Fb h (fun v2 M2 e h => ?_)
  have FM2 : hr_fr hW_X4_gainOf M M2 := hr_fr.tr (hr_fr.rf _ M) (hr_fr.mono (W := hW_X4_strengthOf) rfl (fr_X4_strengthOf a0 a2 a3 _ _ e))
  cases h
  exact FM2
theorem fr_X4_gainOf (a0 : Nat) (a1 : Int32) (a2 : Int32) (a3 : Int32) : ∀ (M : PM) (r : Int32 × PM), f_X4_gainOf a0 a1 a2 a3 M = some r → hr_fr hW_X4_gainOf M r.2 := by
  intro M r h
  unfold f_X4_gainOf at h
  refine hr_Fg h (fun _ h => ?_)
  refine hr_Fi h (fun _ h => ?_) (fun _ h => ?_)
  · exact hr_fr.tr (hr_fr.rf _ M) (fr_X4_gainOf_17 a0 a1 a2 a3 a2 (10 * a1) _ _ h)
  · exact hr_fr.tr (hr_fr.rf _ M) (fr_X4_gainOf_17 a0 a1 a2 a3 a3 (10 * a1) _ _ h)
def hW_X4_isRest : List (Nat × Nat) := []
theorem fr_X4_isRest_2 (a0 : Nat) (a1 : Int32) (a2 : Int32) : ∀ (f : Nat) (x3 : Int32) (M : PM) (r : Int32 × PM), f_X4_isRest_2 a0 a1 a2 f x3 M = some r → hr_fr hW_X4_isRest M r.2 := by
  intro f
  induction f with
  | zero => intro x3 M r h; cases h
  | succ f ih =>
    intro x3 M r h
    rw [f_X4_isRest_2.eq_2] at h
    refine hr_Fi h (fun _ h => ?_) (fun _ h => ?_)
    · cases h
      exact (hr_fr.rf _ M)
    · refine hr_Fb h (fun v4 M4 e h => ?_)
      have FM4 : hr_fr hW_X4_isRest M M4 := hr_fr.tr (hr_fr.rf _ M) (hr_fr.mono (W := hW_X4_gainOf) rfl (fr_X4_gainOf a0 0 x3 a2 _ _ e))
      refine hr_Fb h (fun v6 M6 e h => ?_)
      have FM6 : hr_fr hW_X4_isRest M M6 := hr_fr.tr FM4 (hr_fr.mono (W := hW_X4_gainOf) rfl (fr_X4_gainOf a0 0 a1 a2 _ _ e))
      refine hr_Fi h (fun _ h => ?_) (fun _ h => ?_)
      · cases h
        exact FM6
      · refine hr_Fb h (fun v10 M10 e h => ?_)
        have FM10 : hr_fr hW_X4_isRest M M10 := hr_fr.tr FM6 (hr_fr.mono (W := hW_X4_gainOf) rfl (fr_X4_gainOf a0 1 a1 x3 _ _ e))
        refine hr_Fb h (fun v12 M12 e h => ?_)
        have FM12 : hr_fr hW_X4_isRest M M12 := hr_fr.tr FM10 (hr_fr.mono (W := hW_X4_gainOf) rfl (fr_X4_gainOf a0 1 a1 a2 _ _ e))
        refine hr_Fi h (fun _ h => ?_) (fun _ h => ?_)
        · exact hr_fr.tr FM12 (ih (x3 + 1) _ _ h)
        · cases h
          exact FM12
theorem fr_X4_isRest (a0 : Nat) (a1 : Int32) (a2 : Int32) : ∀ (M : PM) (r : Int32 × PM), f_X4_isRest a0 a1 a2 M = some r → hr_fr hW_X4_isRest M r.2 := by
  intro M r h
  unfold f_X4_isRest at h
  refine hr_Fg h (fun _ h => ?_)
  exact hr_fr.tr (hr_fr.rf _ M) (fr_X4_isRest_2 a0 a1 a2 FU 0 _ _ h)
def hW_X4_worstOf : List (Nat × Nat) := []
theorem fr_X4_worstOf_22 (a0 : Nat) (a1 : Nat) (k7 : Int32 → Int32 → Int32 → PM → Option (Int32 × PM)) (hk7 : ∀ (y0 : Int32) (y1 : Int32) (y2 : Int32) (M : PM) (r : Int32 × PM), k7 y0 y1 y2 M = some r → hr_fr hW_X4_worstOf M r.2) : ∀ (f : Nat) (x2 : Int32) (x3 : Int32) (x4 : Int32) (x5 : Int32) (x6 : Int32) (M : PM) (r : Int32 × PM), f_X4_worstOf_22 a0 a1 k7 f x2 x3 x4 x5 x6 M = some r → hr_fr hW_X4_worstOf M r.2 := by
  intro f
  induction f with
  | zero => intro x2 x3 x4 x5 x6 M r h; cases h
  | succ f ih =>
    intro x2 x3 x4 x5 x6 M r h
    rw [f_X4_worstOf_22.eq_2] at h
    refine hr_Fi h (fun _ h => ?_) (fun _ h => ?_)
    · refine hr_Fi h (fun _ h => ?_) (fun _ h => ?_)
      · exact hr_fr.tr (hr_fr.rf _ M) (hk7 x2 x3 (x4 + 1) _ _ h)
      · exact hr_fr.tr (hr_fr.rf _ M) (hk7 x4 x5 (x4 + 1) _ _ h)
    · refine hr_Fg h (fun _ h => ?_)
      refine hr_Fg h (fun _ h => ?_)
      refine hr_Fb h (fun v7 M7 e h => ?_)
      have FM7 : hr_fr hW_X4_worstOf M M7 := hr_fr.tr (hr_fr.rf _ M) (hr_fr.mono (W := hW_X4_strengthOf) rfl (fr_X4_strengthOf a0 (M.1 (a1 + 2) x4.toNatClampNeg) (M.1 (a1 + 2) x6.toNatClampNeg) _ _ e))
      exact hr_fr.tr FM7 (ih x2 x3 x4 (x5 + v7) (x6 + 1) _ _ h)
theorem fr_X4_worstOf_7 (a0 : Nat) (a1 : Nat) : ∀ (f : Nat) (x2 : Int32) (x3 : Int32) (x4 : Int32) (M : PM) (r : Int32 × PM), f_X4_worstOf_7 a0 a1 f x2 x3 x4 M = some r → hr_fr hW_X4_worstOf M r.2 := by
  intro f
  induction f with
  | zero => intro x2 x3 x4 M r h; cases h
  | succ f ih =>
    intro x2 x3 x4 M r h
    rw [f_X4_worstOf_7.eq_2] at h
    refine hr_Fi h (fun _ h => ?_) (fun _ h => ?_)
    · cases h
      exact (hr_fr.rf _ M)
    · exact hr_fr.tr (hr_fr.rf _ M) (fr_X4_worstOf_22 a0 a1 (fun x2 x3 x4 M => f_X4_worstOf_7 a0 a1 f x2 x3 x4 M) (fun x2 x3 x4 M r h => ih x2 x3 x4 M r h) FU x2 x3 x4 0 0 _ _ h)
theorem fr_X4_worstOf (a0 : Nat) (a1 : Nat) : ∀ (M : PM) (r : Int32 × PM), f_X4_worstOf a0 a1 M = some r → hr_fr hW_X4_worstOf M r.2 := by
  intro M r h
  unfold f_X4_worstOf at h
  refine hr_Fg h (fun _ h => ?_)
  refine hr_Fg h (fun _ h => ?_)
  exact hr_fr.tr (hr_fr.rf _ M) (fr_X4_worstOf_7 a0 a1 FU (-1) (-1) 0 _ _ h)
def hW_X4_strengthsOf : List (Nat × Nat) := []
theorem fr_X4_strengthsOf_15 (a0 : Nat) (a1 : Nat) (k4 : Int32 → Int32 → PM → Option (Int32 × PM)) (hk4 : ∀ (y0 : Int32) (y1 : Int32) (M : PM) (r : Int32 × PM), k4 y0 y1 M = some r → hr_fr hW_X4_strengthsOf M r.2) : ∀ (f : Nat) (x2 : Int32) (x3 : Int32) (x4 : Int32) (M : PM) (r : Int32 × PM), f_X4_strengthsOf_15 a0 a1 k4 f x2 x3 x4 M = some r → hr_fr hW_X4_strengthsOf M r.2 := by
  intro f
  induction f with
  | zero => intro x2 x3 x4 M r h; cases h
  | succ f ih =>
    intro x2 x3 x4 M r h
    rw [f_X4_strengthsOf_15.eq_2] at h
    refine hr_Fi h (fun _ h => ?_) (fun _ h => ?_)
    · exact hr_fr.tr (hr_fr.rf _ M) (hk4 x2 (x3 + 1) _ _ h)
    · refine hr_Fg h (fun _ h => ?_)
      refine hr_Fg h (fun _ h => ?_)
      refine hr_Fb h (fun v4 M4 e h => ?_)
      have FM4 : hr_fr hW_X4_strengthsOf M M4 := hr_fr.tr (hr_fr.rf _ M) (hr_fr.mono (W := hW_X4_strengthOf) rfl (fr_X4_strengthOf a0 (M.1 (a1 + 2) x3.toNatClampNeg) (M.1 (a1 + 2) x4.toNatClampNeg) _ _ e))
      exact hr_fr.tr FM4 (ih (x2 + v4) x3 (x4 + 1) _ _ h)
theorem fr_X4_strengthsOf_4 (a0 : Nat) (a1 : Nat) : ∀ (f : Nat) (x2 : Int32) (x3 : Int32) (M : PM) (r : Int32 × PM), f_X4_strengthsOf_4 a0 a1 f x2 x3 M = some r → hr_fr hW_X4_strengthsOf M r.2 := by
  intro f
  induction f with
  | zero => intro x2 x3 M r h; cases h
  | succ f ih =>
    intro x2 x3 M r h
    rw [f_X4_strengthsOf_4.eq_2] at h
    refine hr_Fi h (fun _ h => ?_) (fun _ h => ?_)
    · cases h
      exact (hr_fr.rf _ M)
    · exact hr_fr.tr (hr_fr.rf _ M) (fr_X4_strengthsOf_15 a0 a1 (fun x2 x3 M => f_X4_strengthsOf_4 a0 a1 f x2 x3 M) (fun x2 x3 M r h => ih x2 x3 M r h) FU x2 x3 0 _ _ h)
theorem fr_X4_strengthsOf (a0 : Nat) (a1 : Nat) : ∀ (M : PM) (r : Int32 × PM), f_X4_strengthsOf a0 a1 M = some r → hr_fr hW_X4_strengthsOf M r.2 := by
  intro M r h
  unfold f_X4_strengthsOf at h
  refine hr_Fg h (fun _ h => ?_)
  refine hr_Fg h (fun _ h => ?_)
  exact hr_fr.tr (hr_fr.rf _ M) (fr_X4_strengthsOf_4 a0 a1 FU 0 0 _ _ h)
def hW_X6_clear (a0 : Nat) : List (Nat × Nat) := [(a0, 1), (a0, 2), (a0, 3)]
theorem fr_X6_clear (a0 : Nat) : ∀ (M : PM) (r : Unit × PM), f_X6_clear a0 M = some r → hr_fr (hW_X6_clear a0) M r.2 := by
  intro M r h
  unfold f_X6_clear at h
  refine hr_Fg h (fun _ h => ?_)
  cases h
  exact (hr_fr.si (by simp [hr_in, hW_X6_clear]) (hr_fr.si (by simp [hr_in, hW_X6_clear]) (hr_fr.si (by simp [hr_in, hW_X6_clear]) (hr_fr.rf _ M))))
def hW_X5_byteAt : List (Nat × Nat) := []
theorem fr_X5_byteAt (a1 : Int32) : ∀ (M : PM) (r : Int32 × PM), f_X5_byteAt a1 M = some r → hr_fr hW_X5_byteAt M r.2 := by
  intro M r h
  unfold f_X5_byteAt at h
  refine hr_Fi h (fun _ h => ?_) (fun _ h => ?_)
  · cases h
    exact (hr_fr.rf _ M)
  · refine hr_Fi h (fun _ h => ?_) (fun _ h => ?_)
    · cases h
      exact (hr_fr.rf _ M)
    · refine hr_Fg h (fun _ h => ?_)
      refine hr_Fi h (fun _ h => ?_) (fun _ h => ?_)
      · refine hr_Fg h (fun _ h => ?_)
        refine hr_Fg h (fun _ h => ?_)
        cases h
        exact (hr_fr.rf _ M)
      · cases h
        exact (hr_fr.rf _ M)
def hW_X5_isLetter : List (Nat × Nat) := []
theorem fr_X5_isLetter (a0 : Int32) : ∀ (M : PM) (r : Int32 × PM), f_X5_isLetter a0 M = some r → hr_fr hW_X5_isLetter M r.2 := by
  intro M r h
  unfold f_X5_isLetter at h
  refine hr_Fi h (fun _ h => ?_) (fun _ h => ?_)
  · cases h
    exact (hr_fr.rf _ M)
  · refine hr_Fi h (fun _ h => ?_) (fun _ h => ?_)
    · cases h
      exact (hr_fr.rf _ M)
    · cases h
      exact (hr_fr.rf _ M)
def hW_X5_isDigit : List (Nat × Nat) := []
theorem fr_X5_isDigit (a0 : Int32) : ∀ (M : PM) (r : Int32 × PM), f_X5_isDigit a0 M = some r → hr_fr hW_X5_isDigit M r.2 := by
  intro M r h
  unfold f_X5_isDigit at h
  refine hr_Fi h (fun _ h => ?_) (fun _ h => ?_)
  · cases h
    exact (hr_fr.rf _ M)
  · refine hr_Fi h (fun _ h => ?_) (fun _ h => ?_)
    · cases h
      exact (hr_fr.rf _ M)
    · cases h
      exact (hr_fr.rf _ M)
def hW_X5_readDigits : List (Nat × Nat) := [(223, 10), (223, 7), (223, 8)]
theorem fr_X5_readDigits_67  : ∀ (M : PM) (r : Unit × PM), f_X5_readDigits_67 M = some r → hr_fr hW_X5_readDigits M r.2 := by
  intro M r h
  unfold f_X5_readDigits_67 at h
  refine hr_Fi h (fun _ h => ?_) (fun _ h => ?_)
  · cases h
    exact (hr_fr.si rfl (hr_fr.rf _ M))
  · cases h
    exact (hr_fr.si rfl (hr_fr.rf _ M))
theorem fr_X5_readDigits_7  : ∀ (f : Nat) (x1 : Int32) (M : PM) (r : Unit × PM), f_X5_readDigits_7 f x1 M = some r → hr_fr hW_X5_readDigits M r.2 := by
  intro f
  induction f with
  | zero => intro x1 M r h; cases h
  | succ f ih =>
    intro x1 M r h
    rw [f_X5_readDigits_7.eq_2] at h
    refine hr_Fi h (fun _ h => ?_) (fun _ h => ?_)
    · exact hr_fr.tr (hr_fr.rf _ M) (fr_X5_readDigits_67  _ _ h)
    · refine hr_Fb h (fun v3 M3 e h => ?_)
      have FM3 : hr_fr hW_X5_readDigits M M3 := hr_fr.tr (hr_fr.rf _ M) (hr_fr.mono (W := hW_X5_byteAt) rfl (fr_X5_byteAt (M.1 223 6) _ _ e))
      refine hr_Fb h (fun v4 M4 e h => ?_)
      have FM4 : hr_fr hW_X5_readDigits M M4 := hr_fr.tr FM3 (hr_fr.mono (W := hW_X5_isDigit) rfl (fr_X5_isDigit v3 _ _ e))
      refine hr_Fi h (fun _ h => ?_) (fun _ h => ?_)
      · exact hr_fr.tr FM4 (fr_X5_readDigits_67  _ _ h)
      · refine hr_Fb h (fun v7 M7 e h => ?_)
        have FM7 : hr_fr hW_X5_readDigits M M7 := hr_fr.tr FM4 (hr_fr.mono (W := hW_X5_byteAt) rfl (fr_X5_byteAt (M4.1 223 6) _ _ e))
        exact hr_fr.tr (hr_fr.si rfl (hr_fr.si rfl FM7)) (ih (x1 + 1) _ _ h)
theorem fr_X5_readDigits  : ∀ (M : PM) (r : Unit × PM), f_X5_readDigits M = some r → hr_fr hW_X5_readDigits M r.2 := by
  intro M r h
  unfold f_X5_readDigits at h
  exact hr_fr.tr (hr_fr.si rfl (hr_fr.rf _ M)) (fr_X5_readDigits_7 FU 0 _ _ h)
def hW_X5_isBlank : List (Nat × Nat) := []
theorem fr_X5_isBlank (a0 : Int32) : ∀ (M : PM) (r : Int32 × PM), f_X5_isBlank a0 M = some r → hr_fr hW_X5_isBlank M r.2 := by
  intro M r h
  unfold f_X5_isBlank at h
  refine hr_Fi h (fun _ h => ?_) (fun _ h => ?_)
  · cases h
    exact (hr_fr.rf _ M)
  · refine hr_Fi h (fun _ h => ?_) (fun _ h => ?_)
    · cases h
      exact (hr_fr.rf _ M)
    · cases h
      exact (hr_fr.rf _ M)
def hW_X5_advance : List (Nat × Nat) := [(223, 10), (223, 7), (223, 8), (223, 9)]
theorem fr_X5_advance_82  : ∀ (f : Nat) (x2 : Int32) (M : PM) (r : Unit × PM), f_X5_advance_82 f x2 M = some r → hr_fr hW_X5_advance M r.2 := by
  intro f
  induction f with
  | zero => intro x2 M r h; cases h
  | succ f ih =>
    intro x2 M r h
    rw [f_X5_advance_82.eq_2] at h
    refine hr_Fi h (fun _ h => ?_) (fun _ h => ?_)
    · cases h
      exact (hr_fr.rf _ M)
    · refine hr_Fb h (fun v4 M4 e h => ?_)
      have FM4 : hr_fr hW_X5_advance M M4 := hr_fr.tr (hr_fr.rf _ M) (hr_fr.mono (W := hW_X5_byteAt) rfl (fr_X5_byteAt (M.1 223 6) _ _ e))
      refine hr_Fb h (fun v5 M5 e h => ?_)
      have FM5 : hr_fr hW_X5_advance M M5 := hr_fr.tr FM4 (hr_fr.mono (W := hW_X5_isLetter) rfl (fr_X5_isLetter v4 _ _ e))
      refine hr_Fi h (fun _ h => ?_) (fun _ h => ?_)
      · cases h
        exact FM5
      · exact hr_fr.tr (hr_fr.si rfl FM5) (ih (x2 + 1) _ _ h)
theorem fr_X5_advance_39  : ∀ (M : PM) (r : Unit × PM), f_X5_advance_39 M = some r → hr_fr hW_X5_advance M r.2 := by
  intro M r h
  unfold f_X5_advance_39 at h
  refine hr_Fb h (fun v2 M2 e h => ?_)
  have FM2 : hr_fr hW_X5_advance M M2 := hr_fr.tr (hr_fr.si rfl (hr_fr.rf _ M)) (hr_fr.mono (W := hW_X5_byteAt) rfl (fr_X5_byteAt ((hr_si M 223 8 (M.1 223 6)).1 223 6) _ _ e))
  refine hr_Fi h (fun _ h => ?_) (fun _ h => ?_)
  · refine hr_Fb h (fun v5 M5 e h => ?_)
    have FM5 : hr_fr hW_X5_advance M M5 := hr_fr.tr FM2 (hr_fr.mono (W := hW_X5_isLetter) rfl (fr_X5_isLetter v2 _ _ e))
    refine hr_Fi h (fun _ h => ?_) (fun _ h => ?_)
    · refine hr_Fb h (fun v8 M8 e h => ?_)
      have FM8 : hr_fr hW_X5_advance M M8 := hr_fr.tr FM5 (hr_fr.mono (W := hW_X5_isDigit) rfl (fr_X5_isDigit v2 _ _ e))
      refine hr_Fi h (fun _ h => ?_) (fun _ h => ?_)
      · refine hr_Fi h (fun _ h => ?_) (fun _ h => ?_)
        · cases h
          exact (hr_fr.si rfl (hr_fr.si rfl FM8))
        · cases h
          exact (hr_fr.si rfl (hr_fr.si rfl FM8))
      · refine hr_Fb h (fun v16 M16 e h => ?_)
        have FM16 : hr_fr hW_X5_advance M M16 := hr_fr.tr FM8 (hr_fr.mono (W := hW_X5_readDigits) rfl (fr_X5_readDigits  _ _ e))
        cases h
        exact FM16
    · exact hr_fr.tr (hr_fr.si rfl FM5) (fr_X5_advance_82 FU 0 _ _ h)
  · cases h
    exact (hr_fr.si rfl FM2)
theorem fr_X5_advance_2  : ∀ (f : Nat) (x1 : Int32) (M : PM) (r : Unit × PM), f_X5_advance_2 f x1 M = some r → hr_fr hW_X5_advance M r.2 := by
  intro f
  induction f with
  | zero => intro x1 M r h; cases h
  | succ f ih =>
    intro x1 M r h
    rw [f_X5_advance_2.eq_2] at h
    refine hr_Fi h (fun _ h => ?_) (fun _ h => ?_)
    · exact hr_fr.tr (hr_fr.rf _ M) (fr_X5_advance_39  _ _ h)
    · refine hr_Fb h (fun v3 M3 e h => ?_)
      have FM3 : hr_fr hW_X5_advance M M3 := hr_fr.tr (hr_fr.rf _ M) (hr_fr.mono (W := hW_X5_byteAt) rfl (fr_X5_byteAt (M.1 223 6) _ _ e))
      refine hr_Fb h (fun v4 M4 e h => ?_)
      have FM4 : hr_fr hW_X5_advance M M4 := hr_fr.tr FM3 (hr_fr.mono (W := hW_X5_isBlank) rfl (fr_X5_isBlank v3 _ _ e))
      refine hr_Fi h (fun _ h => ?_) (fun _ h => ?_)
      · exact hr_fr.tr FM4 (fr_X5_advance_39  _ _ h)
      · exact hr_fr.tr (hr_fr.si rfl FM4) (ih (x1 + 1) _ _ h)
theorem fr_X5_advance  : ∀ (M : PM) (r : Unit × PM), f_X5_advance M = some r → hr_fr hW_X5_advance M r.2 := by
  intro M r h
  unfold f_X5_advance at h
  exact hr_fr.tr (hr_fr.rf _ M) (fr_X5_advance_2 FU 0 _ _ h)
def hW_X5_note : List (Nat × Nat) := [(223, 3), (223, 4)]
theorem fr_X5_note (a1 : Int32) (a2 : Int32) : ∀ (M : PM) (r : Unit × PM), f_X5_note a1 a2 M = some r → hr_fr hW_X5_note M r.2 := by
  intro M r h
  unfold f_X5_note at h
  refine hr_Fi h (fun _ h => ?_) (fun _ h => ?_)
  · cases h
    exact (hr_fr.si rfl (hr_fr.si rfl (hr_fr.rf _ M)))
  · cases h
    exact (hr_fr.rf _ M)
def hW_X5_spells : List (Nat × Nat) := []
theorem fr_X5_spells_20 (a1 : Nat) : ∀ (f : Nat) (x2 : Int32) (M : PM) (r : Int32 × PM), f_X5_spells_20 a1 f x2 M = some r → hr_fr hW_X5_spells M r.2 := by
  intro f
  induction f with
  | zero => intro x2 M r h; cases h
  | succ f ih =>
    intro x2 M r h
    rw [f_X5_spells_20.eq_2] at h
    refine hr_Fi h (fun _ h => ?_) (fun _ h => ?_)
    · cases h
      exact (hr_fr.rf _ M)
    · refine hr_Fb h (fun v4 M4 e h => ?_)
      have FM4 : hr_fr hW_X5_spells M M4 := hr_fr.tr (hr_fr.rf _ M) (hr_fr.mono (W := hW_X5_byteAt) rfl (fr_X5_byteAt ((M.1 223 8) + x2) _ _ e))
      refine hr_Fg h (fun _ h => ?_)
      refine hr_Fi h (fun _ h => ?_) (fun _ h => ?_)
      · exact hr_fr.tr FM4 (ih (x2 + 1) _ _ h)
      · cases h
        exact FM4
theorem fr_X5_spells (a1 : Nat) : ∀ (M : PM) (r : Int32 × PM), f_X5_spells a1 M = some r → hr_fr hW_X5_spells M r.2 := by
  intro M r h
  unfold f_X5_spells at h
  refine hr_Fg h (fun _ h => ?_)
  refine hr_Fi h (fun _ h => ?_) (fun _ h => ?_)
  · exact hr_fr.tr (hr_fr.rf _ M) (fr_X5_spells_20 a1 FU 0 _ _ h)
  · cases h
    exact (hr_fr.rf _ M)
def hW_X5_lineNamed : List (Nat × Nat) := []
theorem fr_X5_lineNamed_2 (a1 : Int32) : ∀ (f : Nat) (x2 : Int32) (M : PM) (r : Value × PM), f_X5_lineNamed_2 a1 f x2 M = some r → hr_fr hW_X5_lineNamed M r.2 := by
  intro f
  induction f with
  | zero => intro x2 M r h; cases h
  | succ f ih =>
    intro x2 M r h
    rw [f_X5_lineNamed_2.eq_2] at h
    refine hr_Fi h (fun _ h => ?_) (fun _ h => ?_)
    · cases h
      exact (hr_fr.rf _ M)
    · refine hr_Fg h (fun _ h => ?_)
      refine hr_Fg h (fun _ h => ?_)
      refine hr_Fb h (fun v4 M4 e h => ?_)
      have FM4 : hr_fr hW_X5_lineNamed M M4 := hr_fr.tr (hr_fr.rf _ M) (hr_fr.mono (W := hW_X3_sort) rfl (fr_X3_sort (306 + 1 + x2.toNatClampNeg) _ _ e))
      refine hr_Fi h (fun _ h => ?_) (fun _ h => ?_)
      · refine hr_Fg h (fun _ h => ?_)
        refine hr_Fg h (fun _ h => ?_)
        refine hr_Fb h (fun v7 M7 e h => ?_)
        have FM7 : hr_fr hW_X5_lineNamed M M7 := hr_fr.tr FM4 (hr_fr.mono (W := hW_X5_spells) rfl (fr_X5_spells ((306 + 1 + x2.toNatClampNeg) + 18) _ _ e))
        refine hr_Fi h (fun _ h => ?_) (fun _ h => ?_)
        · exact hr_fr.tr FM7 (ih (x2 + 1) _ _ h)
        · refine hr_Fg h (fun _ h => ?_)
          refine hr_Fg h (fun _ h => ?_)
          cases h
          exact FM7
      · exact hr_fr.tr FM4 (ih (x2 + 1) _ _ h)
theorem fr_X5_lineNamed (a1 : Int32) : ∀ (M : PM) (r : Value × PM), f_X5_lineNamed a1 M = some r → hr_fr hW_X5_lineNamed M r.2 := by
  intro M r h
  unfold f_X5_lineNamed at h
  exact hr_fr.tr (hr_fr.rf _ M) (fr_X5_lineNamed_2 a1 FU 0 _ _ h)
def hW_X5_readGuestHues : List (Nat × Nat) := [(223, 10), (223, 13), (223, 14), (223, 7), (223, 8), (223, 9)]
theorem fr_X5_readGuestHues_104 (k22 : Int32 → PM → Option (Int32 × PM)) (x1 : Int32) (hk22 : ∀ (y0 : Int32) (M : PM) (r : Int32 × PM), k22 y0 M = some r → hr_fr hW_X5_readGuestHues M r.2) : ∀ (M : PM) (r : Int32 × PM), f_X5_readGuestHues_104 k22 x1 M = some r → hr_fr hW_X5_readGuestHues M r.2 := by
  intro M r h
  unfold f_X5_readGuestHues_104 at h
  refine hr_Fb h (fun v2 M2 e h => ?_)
  have FM2 : hr_fr hW_X5_readGuestHues M M2 := hr_fr.tr (hr_fr.rf _ M) (hr_fr.mono (W := hW_X5_advance) rfl (fr_X5_advance  _ _ e))
  exact hr_fr.tr FM2 (hk22 (x1 + 1) _ _ h)
theorem fr_X5_readGuestHues_88 (k22 : Int32 → PM → Option (Int32 × PM)) (x1 : Int32) (hk22 : ∀ (y0 : Int32) (M : PM) (r : Int32 × PM), k22 y0 M = some r → hr_fr hW_X5_readGuestHues M r.2) : ∀ (M : PM) (r : Int32 × PM), f_X5_readGuestHues_88 k22 x1 M = some r → hr_fr hW_X5_readGuestHues M r.2 := by
  intro M r h
  unfold f_X5_readGuestHues_88 at h
  refine hr_Fi h (fun _ h => ?_) (fun _ h => ?_)
  · exact hr_fr.tr (hr_fr.si rfl (hr_fr.rf _ M)) (fr_X5_readGuestHues_104 k22 x1 hk22 _ _ h)
  · exact hr_fr.tr (hr_fr.rf _ M) (fr_X5_readGuestHues_104 k22 x1 hk22 _ _ h)
theorem fr_X5_readGuestHues_51 (k22 : Int32 → PM → Option (Int32 × PM)) (x1 : Int32) (s0 : Int32) (hk22 : ∀ (y0 : Int32) (M : PM) (r : Int32 × PM), k22 y0 M = some r → hr_fr hW_X5_readGuestHues M r.2) : ∀ (M : PM) (r : Int32 × PM), f_X5_readGuestHues_51 k22 x1 s0 M = some r → hr_fr hW_X5_readGuestHues M r.2 := by
  intro M r h
  unfold f_X5_readGuestHues_51 at h
  refine hr_Fi h (fun _ h => ?_) (fun _ h => ?_)
  · exact hr_fr.tr (hr_fr.rf _ M) (fr_X5_readGuestHues_88 k22 x1 hk22 _ _ h)
  · refine hr_Fb h (fun v3 M3 e h => ?_)
    have FM3 : hr_fr hW_X5_readGuestHues M M3 := hr_fr.tr (hr_fr.rf _ M) (hr_fr.mono (W := hW_X10_holdsBit) rfl (fr_X10_holdsBit (M.1 223 12) (M.1 223 9) _ _ e))
    refine hr_Fi h (fun _ h => ?_) (fun _ h => ?_)
    · exact hr_fr.tr (hr_fr.si rfl FM3) (fr_X5_readGuestHues_104 k22 x1 hk22 _ _ h)
    · exact hr_fr.tr FM3 (fr_X5_readGuestHues_88 k22 x1 hk22 _ _ h)
theorem fr_X5_readGuestHues_22  : ∀ (f : Nat) (x1 : Int32) (M : PM) (r : Int32 × PM), f_X5_readGuestHues_22 f x1 M = some r → hr_fr hW_X5_readGuestHues M r.2 := by
  intro f
  induction f with
  | zero => intro x1 M r h; cases h
  | succ f ih =>
    intro x1 M r h
    rw [f_X5_readGuestHues_22.eq_2] at h
    refine hr_Fi h (fun _ h => ?_) (fun _ h => ?_)
    · cases h
      exact (hr_fr.rf _ M)
    · refine hr_Fi h (fun _ h => ?_) (fun _ h => ?_)
      · refine hr_Fi h (fun _ h => ?_) (fun _ h => ?_)
        · exact hr_fr.tr (hr_fr.rf _ M) (fr_X5_readGuestHues_51 (fun x1 M => f_X5_readGuestHues_22 f x1 M) x1 0 (fun x1 M r h => ih x1 M r h) _ _ h)
        · exact hr_fr.tr (hr_fr.rf _ M) (fr_X5_readGuestHues_51 (fun x1 M => f_X5_readGuestHues_22 f x1 M) x1 1 (fun x1 M r h => ih x1 M r h) _ _ h)
      · cases h
        exact (hr_fr.rf _ M)
theorem fr_X5_readGuestHues  : ∀ (M : PM) (r : Int32 × PM), f_X5_readGuestHues M = some r → hr_fr hW_X5_readGuestHues M r.2 := by
  intro M r h
  unfold f_X5_readGuestHues at h
  refine hr_Fi h (fun _ h => ?_) (fun _ h => ?_)
  · exact hr_fr.tr (hr_fr.si rfl (hr_fr.si rfl (hr_fr.rf _ M))) (fr_X5_readGuestHues_22 FU 0 _ _ h)
  · cases h
    exact (hr_fr.rf _ M)
def hW_X5_isFull : List (Nat × Nat) := []
theorem fr_X5_isFull (a1 : Nat) : ∀ (M : PM) (r : Int32 × PM), f_X5_isFull a1 M = some r → hr_fr hW_X5_isFull M r.2 := by
  intro M r h
  unfold f_X5_isFull at h
  refine hr_Fg h (fun _ h => ?_)
  refine hr_Fi h (fun _ h => ?_) (fun _ h => ?_)
  · cases h
    exact (hr_fr.rf _ M)
  · refine hr_Fi h (fun _ h => ?_) (fun _ h => ?_)
    · cases h
      exact (hr_fr.rf _ M)
    · refine hr_Fi h (fun _ h => ?_) (fun _ h => ?_)
      · refine hr_Fi h (fun _ h => ?_) (fun _ h => ?_)
        · cases h
          exact (hr_fr.rf _ M)
        · cases h
          exact (hr_fr.rf _ M)
      · refine hr_Fb h (fun v10 M10 e h => ?_)
        have FM10 : hr_fr hW_X5_isFull M M10 := hr_fr.tr (hr_fr.rf _ M) (hr_fr.mono (W := hW_X3_sort) rfl (fr_X3_sort a1 _ _ e))
        refine hr_Fi h (fun _ h => ?_) (fun _ h => ?_)
        · refine hr_Fi h (fun _ h => ?_) (fun _ h => ?_)
          · cases h
            exact FM10
          · cases h
            exact FM10
        · refine hr_Fb h (fun v16 M16 e h => ?_)
          have FM16 : hr_fr hW_X5_isFull M M16 := hr_fr.tr FM10 (hr_fr.mono (W := hW_X3_sort) rfl (fr_X3_sort a1 _ _ e))
          refine hr_Fg h (fun _ h => ?_)
          refine hr_Fi h (fun _ h => ?_) (fun _ h => ?_)
          · cases h
            exact FM16
          · cases h
            exact FM16
def hW_X5_badPlace : List (Nat × Nat) := []
theorem fr_X5_badPlace_75 (a1 : Nat) : ∀ (M : PM) (r : Int32 × PM), f_X5_badPlace_75 a1 M = some r → hr_fr hW_X5_badPlace M r.2 := by
  intro M r h
  unfold f_X5_badPlace_75 at h
  refine hr_Fi h (fun _ h => ?_) (fun _ h => ?_)
  · cases h
    exact (hr_fr.rf _ M)
  · refine hr_Fg h (fun _ h => ?_)
    refine hr_Fb h (fun v4 M4 e h => ?_)
    have FM4 : hr_fr hW_X5_badPlace M M4 := hr_fr.tr (hr_fr.rf _ M) (hr_fr.mono (W := hW_X3_thirdCanBe) rfl (fr_X3_thirdCanBe a1 (M.1 238 (2 : Int32).toNatClampNeg) _ _ e))
    refine hr_Fi h (fun _ h => ?_) (fun _ h => ?_)
    · refine hr_Fg h (fun _ h => ?_)
      cases h
      exact FM4
    · cases h
      exact FM4
theorem fr_X5_badPlace_41 (a1 : Nat) : ∀ (M : PM) (r : Int32 × PM), f_X5_badPlace_41 a1 M = some r → hr_fr hW_X5_badPlace M r.2 := by
  intro M r h
  unfold f_X5_badPlace_41 at h
  refine hr_Fi h (fun _ h => ?_) (fun _ h => ?_)
  · exact hr_fr.tr (hr_fr.rf _ M) (fr_X5_badPlace_75 a1 _ _ h)
  · refine hr_Fg h (fun _ h => ?_)
    refine hr_Fg h (fun _ h => ?_)
    refine hr_Fb h (fun v3 M3 e h => ?_)
    have FM3 : hr_fr hW_X5_badPlace M M3 := hr_fr.tr (hr_fr.rf _ M) (hr_fr.mono (W := hW_X3_secondCanBe) rfl (fr_X3_secondCanBe a1 (M.1 238 (1 : Int32).toNatClampNeg) (M.1 238 (0 : Int32).toNatClampNeg) _ _ e))
    refine hr_Fi h (fun _ h => ?_) (fun _ h => ?_)
    · refine hr_Fg h (fun _ h => ?_)
      cases h
      exact FM3
    · exact hr_fr.tr FM3 (fr_X5_badPlace_75 a1 _ _ h)
theorem fr_X5_badPlace (a1 : Nat) : ∀ (M : PM) (r : Int32 × PM), f_X5_badPlace a1 M = some r → hr_fr hW_X5_badPlace M r.2 := by
  intro M r h
  unfold f_X5_badPlace at h
  refine hr_Fg h (fun _ h => ?_)
  refine hr_Fi h (fun _ h => ?_) (fun _ h => ?_)
  · cases h
    exact (hr_fr.rf _ M)
  · refine hr_Fi h (fun _ h => ?_) (fun _ h => ?_)
    · exact hr_fr.tr (hr_fr.rf _ M) (fr_X5_badPlace_41 a1 _ _ h)
    · refine hr_Fg h (fun _ h => ?_)
      refine hr_Fb h (fun v5 M5 e h => ?_)
      have FM5 : hr_fr hW_X5_badPlace M M5 := hr_fr.tr (hr_fr.rf _ M) (hr_fr.mono (W := hW_X3_firstCanBe) rfl (fr_X3_firstCanBe a1 (M.1 238 (0 : Int32).toNatClampNeg) _ _ e))
      refine hr_Fi h (fun _ h => ?_) (fun _ h => ?_)
      · refine hr_Fg h (fun _ h => ?_)
        cases h
        exact FM5
      · exact hr_fr.tr FM5 (fr_X5_badPlace_41 a1 _ _ h)
def hW_X5_keepInPalette : List (Nat × Nat) := [(223, 15), (224, 1), (224, 2), (225, 0), (226, 0), (227, 0)]
theorem fr_X5_keepInPalette (a1 : Nat) : ∀ (M : PM) (r : Unit × PM), f_X5_keepInPalette a1 M = some r → hr_fr hW_X5_keepInPalette M r.2 := by
  intro M r h
  unfold f_X5_keepInPalette at h
  refine hr_Fg h (fun _ h => ?_)
  refine hr_Fi h (fun _ h => ?_) (fun _ h => ?_)
  · refine hr_Fg h (fun _ h => ?_)
    refine hr_Fg h (fun _ h => ?_)
    refine hr_Fg h (fun _ h => ?_)
    refine hr_Fb h (fun v3 M3 e h => ?_)
    have FM3 : hr_fr hW_X5_keepInPalette M M3 := hr_fr.tr (hr_fr.rf _ M) (hr_fr.mono (W := (hW_X4_addHue 224)) rfl (fr_X4_addHue 224 (M.1 238 (0 : Int32).toNatClampNeg) (M.1 238 (1 : Int32).toNatClampNeg) (M.1 238 (2 : Int32).toNatClampNeg) _ _ e))
    cases h
    exact FM3
  · refine hr_Fi h (fun _ h => ?_) (fun _ h => ?_)
    · refine hr_Fg h (fun _ h => ?_)
      refine hr_Fg h (fun _ h => ?_)
      refine hr_Fg h (fun _ h => ?_)
      refine hr_Fb h (fun v7 M7 e h => ?_)
      have FM7 : hr_fr hW_X5_keepInPalette M M7 := hr_fr.tr (hr_fr.rf _ M) (hr_fr.mono (W := (hW_X4_setLikes 224)) rfl (fr_X4_setLikes 224 (M.1 238 (0 : Int32).toNatClampNeg) (M.1 238 (1 : Int32).toNatClampNeg) (M.1 238 (2 : Int32).toNatClampNeg) _ _ e))
      refine hr_Fg h (fun _ h => ?_)
      cases h
      exact (hr_fr.si rfl FM7)
    · refine hr_Fg h (fun _ h => ?_)
      refine hr_Fg h (fun _ h => ?_)
      refine hr_Fb h (fun v10 M10 e h => ?_)
      have FM10 : hr_fr hW_X5_keepInPalette M M10 := hr_fr.tr (hr_fr.rf _ M) (hr_fr.mono (W := (hW_X4_addRule 224)) rfl (fr_X4_addRule 224 (M.1 a1 0) (M.1 238 (0 : Int32).toNatClampNeg) (M.1 238 (1 : Int32).toNatClampNeg) _ _ e))
      refine hr_Fi h (fun _ h => ?_) (fun _ h => ?_)
      · refine hr_Fg h (fun _ h => ?_)
        refine hr_Fg h (fun _ h => ?_)
        cases h
        exact (hr_fr.si rfl FM10)
      · cases h
        exact (hr_fr.si rfl FM10)
def hW_X6_name (a0 : Nat) : List (Nat × Nat) := [(a0, 3)]
theorem fr_X6_name (a0 : Nat) (a1 : Int32) : ∀ (M : PM) (r : Unit × PM), f_X6_name a0 a1 M = some r → hr_fr (hW_X6_name a0) M r.2 := by
  intro M r h
  unfold f_X6_name at h
  refine hr_Fg h (fun _ h => ?_)
  cases h
  exact (hr_fr.si (by simp [hr_in, hW_X6_name]) (hr_fr.rf _ M))
def hW_X6_add (a0 : Nat) : List (Nat × Nat) := [(a0, 1), (a0 + 1, 0), (a0 + 2, 0), (a0 + 3, 0)]
theorem fr_X6_add (a0 : Nat) (a1 : Int32) (a2 : Int32) (a3 : Int32) : ∀ (M : PM) (r : Unit × PM), f_X6_add a0 a1 a2 a3 M = some r → hr_fr (hW_X6_add a0) M r.2 := by
  intro M r h
  unfold f_X6_add at h
  refine hr_Fg h (fun _ h => ?_)
  refine hr_Fi h (fun _ h => ?_) (fun _ h => ?_)
  · cases h
    exact (hr_fr.rf _ M)
  · refine hr_Fg h (fun _ h => ?_)
    refine hr_Fg h (fun _ h => ?_)
    refine hr_Fg h (fun _ h => ?_)
    cases h
    exact (hr_fr.si (by simp [hr_in, hW_X6_add]) (hr_fr.si (by simp [hr_in, hW_X6_add]) (hr_fr.si (by simp [hr_in, hW_X6_add]) (hr_fr.si (by simp [hr_in, hW_X6_add]) (hr_fr.rf _ M)))))
def hW_X5_keepInRoll : List (Nat × Nat) := [(233, 1), (233, 2), (233, 3), (234, 0), (235, 0), (236, 0)]
theorem fr_X5_keepInRoll (a1 : Nat) : ∀ (M : PM) (r : Unit × PM), f_X5_keepInRoll a1 M = some r → hr_fr hW_X5_keepInRoll M r.2 := by
  intro M r h
  unfold f_X5_keepInRoll at h
  refine hr_Fg h (fun _ h => ?_)
  refine hr_Fi h (fun _ h => ?_) (fun _ h => ?_)
  · refine hr_Fg h (fun _ h => ?_)
    refine hr_Fb h (fun v3 M3 e h => ?_)
    have FM3 : hr_fr hW_X5_keepInRoll M M3 := hr_fr.tr (hr_fr.rf _ M) (hr_fr.mono (W := (hW_X6_name 233)) rfl (fr_X6_name 233 (jl 1 (M.1 238 (0 : Int32).toNatClampNeg)) _ _ e))
    refine hr_Fb h (fun v5 M5 e h => ?_)
    have FM5 : hr_fr hW_X5_keepInRoll M M5 := hr_fr.tr FM3 (hr_fr.mono (W := hW_X3_code) rfl (fr_X3_code a1 _ _ e))
    refine hr_Fg h (fun _ h => ?_)
    refine hr_Fg h (fun _ h => ?_)
    refine hr_Fb h (fun v7 M7 e h => ?_)
    have FM7 : hr_fr hW_X5_keepInRoll M M7 := hr_fr.tr FM5 (hr_fr.mono (W := (hW_X6_add 233)) rfl (fr_X6_add 233 v5 (M5.1 238 (0 : Int32).toNatClampNeg) (M5.1 238 (1 : Int32).toNatClampNeg) _ _ e))
    cases h
    exact FM7
  · refine hr_Fi h (fun _ h => ?_) (fun _ h => ?_)
    · refine hr_Fg h (fun _ h => ?_)
      cases h
      exact (hr_fr.si rfl (hr_fr.rf _ M))
    · refine hr_Fi h (fun _ h => ?_) (fun _ h => ?_)
      · refine hr_Fg h (fun _ h => ?_)
        refine hr_Fg h (fun _ h => ?_)
        refine hr_Fb h (fun v11 M11 e h => ?_)
        have FM11 : hr_fr hW_X5_keepInRoll M M11 := hr_fr.tr (hr_fr.rf _ M) (hr_fr.mono (W := (hW_X6_name 233)) rfl (fr_X6_name 233 ((jl 1 (M.1 238 (0 : Int32).toNatClampNeg)) ||| (jl 1 (M.1 238 (1 : Int32).toNatClampNeg))) _ _ e))
        refine hr_Fb h (fun v13 M13 e h => ?_)
        have FM13 : hr_fr hW_X5_keepInRoll M M13 := hr_fr.tr FM11 (hr_fr.mono (W := hW_X3_code) rfl (fr_X3_code a1 _ _ e))
        refine hr_Fg h (fun _ h => ?_)
        refine hr_Fg h (fun _ h => ?_)
        refine hr_Fb h (fun v15 M15 e h => ?_)
        have FM15 : hr_fr hW_X5_keepInRoll M M15 := hr_fr.tr FM13 (hr_fr.mono (W := (hW_X6_add 233)) rfl (fr_X6_add 233 v13 (M13.1 238 (0 : Int32).toNatClampNeg) (M13.1 238 (1 : Int32).toNatClampNeg) _ _ e))
        cases h
        exact FM15
      · refine hr_Fi h (fun _ h => ?_) (fun _ h => ?_)
        · refine hr_Fg h (fun _ h => ?_)
          refine hr_Fg h (fun _ h => ?_)
          refine hr_Fb h (fun v18 M18 e h => ?_)
          have FM18 : hr_fr hW_X5_keepInRoll M M18 := hr_fr.tr (hr_fr.rf _ M) (hr_fr.mono (W := (hW_X6_name 233)) rfl (fr_X6_name 233 ((jl 1 (M.1 238 (0 : Int32).toNatClampNeg)) ||| (jl 1 (M.1 238 (1 : Int32).toNatClampNeg))) _ _ e))
          refine hr_Fb h (fun v20 M20 e h => ?_)
          have FM20 : hr_fr hW_X5_keepInRoll M M20 := hr_fr.tr FM18 (hr_fr.mono (W := hW_X3_code) rfl (fr_X3_code a1 _ _ e))
          refine hr_Fg h (fun _ h => ?_)
          refine hr_Fg h (fun _ h => ?_)
          refine hr_Fb h (fun v22 M22 e h => ?_)
          have FM22 : hr_fr hW_X5_keepInRoll M M22 := hr_fr.tr FM20 (hr_fr.mono (W := (hW_X6_add 233)) rfl (fr_X6_add 233 v20 (M20.1 238 (0 : Int32).toNatClampNeg) (M20.1 238 (1 : Int32).toNatClampNeg) _ _ e))
          cases h
          exact FM22
        · refine hr_Fi h (fun _ h => ?_) (fun _ h => ?_)
          · refine hr_Fb h (fun v25 M25 e h => ?_)
            have FM25 : hr_fr hW_X5_keepInRoll M M25 := hr_fr.tr (hr_fr.rf _ M) (hr_fr.mono (W := (hW_X6_name 233)) rfl (fr_X6_name 233 (M.1 223 12) _ _ e))
            refine hr_Fb h (fun v27 M27 e h => ?_)
            have FM27 : hr_fr hW_X5_keepInRoll M M27 := hr_fr.tr FM25 (hr_fr.mono (W := hW_X3_code) rfl (fr_X3_code a1 _ _ e))
            refine hr_Fb h (fun v29 M29 e h => ?_)
            have FM29 : hr_fr hW_X5_keepInRoll M M29 := hr_fr.tr FM27 (hr_fr.mono (W := (hW_X6_add 233)) rfl (fr_X6_add 233 v27 (M27.1 223 12) (-1) _ _ e))
            cases h
            exact FM29
          · refine hr_Fb h (fun v32 M32 e h => ?_)
            have FM32 : hr_fr hW_X5_keepInRoll M M32 := hr_fr.tr (hr_fr.rf _ M) (hr_fr.mono (W := hW_X3_code) rfl (fr_X3_code a1 _ _ e))
            refine hr_Fg h (fun _ h => ?_)
            refine hr_Fg h (fun _ h => ?_)
            refine hr_Fb h (fun v34 M34 e h => ?_)
            have FM34 : hr_fr hW_X5_keepInRoll M M34 := hr_fr.tr FM32 (hr_fr.mono (W := (hW_X6_add 233)) rfl (fr_X6_add 233 v32 (M32.1 238 (0 : Int32).toNatClampNeg) (M32.1 238 (1 : Int32).toNatClampNeg) _ _ e))
            cases h
            exact FM34
def hW_X5_take : List (Nat × Nat) := [(223, 15), (223, 3), (223, 4), (224, 1), (224, 2), (225, 0), (226, 0), (227, 0), (233, 1), (233, 2), (233, 3), (234, 0), (235, 0), (236, 0)]
theorem fr_X5_take (a1 : Nat) (a2 : Int32) : ∀ (M : PM) (r : Unit × PM), f_X5_take a1 a2 M = some r → hr_fr hW_X5_take M r.2 := by
  intro M r h
  unfold f_X5_take at h
  refine hr_Fg h (fun _ h => ?_)
  refine hr_Fb h (fun v2 M2 e h => ?_)
  have FM2 : hr_fr hW_X5_take M M2 := hr_fr.tr (hr_fr.rf _ M) (hr_fr.mono (W := hW_X5_isFull) rfl (fr_X5_isFull a1 _ _ e))
  refine hr_Fi h (fun _ h => ?_) (fun _ h => ?_)
  · refine hr_Fb h (fun v5 M5 e h => ?_)
    have FM5 : hr_fr hW_X5_take M M5 := hr_fr.tr FM2 (hr_fr.mono (W := hW_X5_badPlace) rfl (fr_X5_badPlace a1 _ _ e))
    refine hr_Fi h (fun _ h => ?_) (fun _ h => ?_)
    · refine hr_Fb h (fun v8 M8 e h => ?_)
      have FM8 : hr_fr hW_X5_take M M8 := hr_fr.tr FM5 (hr_fr.mono (W := hW_X3_sort) rfl (fr_X3_sort a1 _ _ e))
      refine hr_Fi h (fun _ h => ?_) (fun _ h => ?_)
      · refine hr_Fb h (fun v11 M11 e h => ?_)
        have FM11 : hr_fr hW_X5_take M M11 := hr_fr.tr FM8 (hr_fr.mono (W := hW_X5_keepInPalette) rfl (fr_X5_keepInPalette a1 _ _ e))
        cases h
        exact FM11
      · refine hr_Fb h (fun v14 M14 e h => ?_)
        have FM14 : hr_fr hW_X5_take M M14 := hr_fr.tr FM8 (hr_fr.mono (W := hW_X5_keepInRoll) rfl (fr_X5_keepInRoll a1 _ _ e))
        cases h
        exact FM14
    · refine hr_Fb h (fun v16 M16 e h => ?_)
      have FM16 : hr_fr hW_X5_take M M16 := hr_fr.tr FM5 (hr_fr.mono (W := hW_X5_note) rfl (fr_X5_note 2 v5 _ _ e))
      cases h
      exact FM16
  · refine hr_Fb h (fun v18 M18 e h => ?_)
    have FM18 : hr_fr hW_X5_take M M18 := hr_fr.tr FM2 (hr_fr.mono (W := hW_X5_note) rfl (fr_X5_note 3 a2 _ _ e))
    cases h
    exact FM18
def hW_X5_readNumbers : List (Nat × Nat) := [(223, 10), (223, 7), (223, 8), (223, 9), (238, 0), (239, 0)]
theorem fr_X5_readNumbers_29 (a1 : Int32) : ∀ (f : Nat) (x2 : Int32) (M : PM) (r : Int32 × PM), f_X5_readNumbers_29 a1 f x2 M = some r → hr_fr hW_X5_readNumbers M r.2 := by
  intro f
  induction f with
  | zero => intro x2 M r h; cases h
  | succ f ih =>
    intro x2 M r h
    rw [f_X5_readNumbers_29.eq_2] at h
    refine hr_Fi h (fun _ h => ?_) (fun _ h => ?_)
    · cases h
      exact (hr_fr.rf _ M)
    · refine hr_Fi h (fun _ h => ?_) (fun _ h => ?_)
      · cases h
        exact (hr_fr.rf _ M)
      · refine hr_Fi h (fun _ h => ?_) (fun _ h => ?_)
        · refine hr_Fg h (fun _ h => ?_)
          refine hr_Fg h (fun _ h => ?_)
          refine hr_Fb h (fun v7 M7 e h => ?_)
          have FM7 : hr_fr hW_X5_readNumbers M M7 := hr_fr.tr (hr_fr.si rfl (hr_fr.si rfl (hr_fr.rf _ M))) (hr_fr.mono (W := hW_X5_advance) rfl (fr_X5_advance  _ _ e))
          exact hr_fr.tr FM7 (ih (x2 + 1) _ _ h)
        · cases h
          exact (hr_fr.rf _ M)
theorem fr_X5_readNumbers_2 (a1 : Int32) : ∀ (f : Nat) (x2 : Int32) (M : PM) (r : Int32 × PM), f_X5_readNumbers_2 a1 f x2 M = some r → hr_fr hW_X5_readNumbers M r.2 := by
  intro f
  induction f with
  | zero => intro x2 M r h; cases h
  | succ f ih =>
    intro x2 M r h
    rw [f_X5_readNumbers_2.eq_2] at h
    refine hr_Fi h (fun _ h => ?_) (fun _ h => ?_)
    · exact hr_fr.tr (hr_fr.rf _ M) (fr_X5_readNumbers_29 a1 FU 0 _ _ h)
    · refine hr_Fg h (fun _ h => ?_)
      refine hr_Fg h (fun _ h => ?_)
      exact hr_fr.tr (hr_fr.si rfl (hr_fr.si rfl (hr_fr.rf _ M))) (ih (x2 + 1) _ _ h)
theorem fr_X5_readNumbers (a1 : Int32) : ∀ (M : PM) (r : Int32 × PM), f_X5_readNumbers a1 M = some r → hr_fr hW_X5_readNumbers M r.2 := by
  intro M r h
  unfold f_X5_readNumbers at h
  exact hr_fr.tr (hr_fr.rf _ M) (fr_X5_readNumbers_2 a1 FU 0 _ _ h)
def hW_X5_readLine : List (Nat × Nat) := [(223, 10), (223, 13), (223, 14), (223, 15), (223, 3), (223, 4), (223, 7), (223, 8), (223, 9), (224, 1), (224, 2), (225, 0), (226, 0), (227, 0), (233, 1), (233, 2), (233, 3), (234, 0), (235, 0), (236, 0), (238, 0), (239, 0)]
theorem fr_X5_readLine_57 (a1 : Int32) (x2 : Nat) (x3 : Int32) (s0 : Int32) : ∀ (M : PM) (r : Int32 × PM), f_X5_readLine_57 a1 x2 x3 s0 M = some r → hr_fr hW_X5_readLine M r.2 := by
  intro M r h
  unfold f_X5_readLine_57 at h
  refine hr_Fi h (fun _ h => ?_) (fun _ h => ?_)
  · cases h
    exact (hr_fr.rf _ M)
  · refine hr_Fi h (fun _ h => ?_) (fun _ h => ?_)
    · refine hr_Fb h (fun v5 M5 e h => ?_)
      have FM5 : hr_fr hW_X5_readLine M M5 := hr_fr.tr (hr_fr.rf _ M) (hr_fr.mono (W := hW_X5_advance) rfl (fr_X5_advance  _ _ e))
      refine hr_Fi h (fun _ h => ?_) (fun _ h => ?_)
      · refine hr_Fb h (fun v8 M8 e h => ?_)
        have FM8 : hr_fr hW_X5_readLine M M8 := hr_fr.tr FM5 (hr_fr.mono (W := hW_X5_take) rfl (fr_X5_take x2 x3 _ _ e))
        cases h
        exact FM8
      · cases h
        exact FM5
    · cases h
      exact (hr_fr.rf _ M)
theorem fr_X5_readLine (a1 : Int32) : ∀ (M : PM) (r : Int32 × PM), f_X5_readLine a1 M = some r → hr_fr hW_X5_readLine M r.2 := by
  intro M r h
  unfold f_X5_readLine at h
  refine hr_Fi h (fun _ h => ?_) (fun _ h => ?_)
  · refine hr_Fb h (fun v3 M3 e h => ?_)
    have FM3 : hr_fr hW_X5_readLine M M3 := hr_fr.tr (hr_fr.rf _ M) (hr_fr.mono (W := hW_X5_lineNamed) rfl (fr_X5_lineNamed a1 _ _ e))
    refine hr_Fv h (fun hv h => ?_) (fun q3 hv h => ?_)
    · cases h
      exact FM3
    · refine hr_Fg h (fun _ h => ?_)
      refine hr_Fb h (fun v10 M10 e h => ?_)
      have FM10 : hr_fr hW_X5_readLine M M10 := hr_fr.tr FM3 (hr_fr.mono (W := hW_X5_advance) rfl (fr_X5_advance  _ _ e))
      refine hr_Fi h (fun _ h => ?_) (fun _ h => ?_)
      · refine hr_Fb h (fun v13 M13 e h => ?_)
        have FM13 : hr_fr hW_X5_readLine M M13 := hr_fr.tr FM10 (hr_fr.mono (W := hW_X5_readGuestHues) rfl (fr_X5_readGuestHues  _ _ e))
        exact hr_fr.tr FM13 (fr_X5_readLine_57 a1 q3 (M3.1 223 8) v13 _ _ h)
      · refine hr_Fb h (fun v16 M16 e h => ?_)
        have FM16 : hr_fr hW_X5_readLine M M16 := hr_fr.tr FM10 (hr_fr.mono (W := hW_X5_readNumbers) rfl (fr_X5_readNumbers (M10.1 q3 2) _ _ e))
        exact hr_fr.tr FM16 (fr_X5_readLine_57 a1 q3 (M3.1 223 8) v16 _ _ h)
  · cases h
    exact (hr_fr.rf _ M)
def hW_X6_has : List (Nat × Nat) := []
theorem fr_X6_has (a0 : Nat) (a1 : Int32) : ∀ (M : PM) (r : Int32 × PM), f_X6_has a0 a1 M = some r → hr_fr hW_X6_has M r.2 := by
  intro M r h
  unfold f_X6_has at h
  refine hr_Fg h (fun _ h => ?_)
  refine hr_Fi h (fun _ h => ?_) (fun _ h => ?_)
  · cases h
    exact (hr_fr.rf _ M)
  · refine hr_Fi h (fun _ h => ?_) (fun _ h => ?_)
    · cases h
      exact (hr_fr.rf _ M)
    · cases h
      exact (hr_fr.rf _ M)
def hW_X6_copyFrom (a0 : Nat) : List (Nat × Nat) := [(a0, 1), (a0, 2), (a0, 3), (a0 + 1, 0), (a0 + 2, 0), (a0 + 3, 0)]
theorem fr_X6_copyFrom (a0 : Nat) (a1 : Nat) : ∀ (M : PM) (r : Unit × PM), f_X6_copyFrom a0 a1 M = some r → hr_fr (hW_X6_copyFrom a0) M r.2 := by
  intro M r h
  unfold f_X6_copyFrom at h
  refine hr_Fg h (fun _ h => ?_)
  refine hr_Fg h (fun _ h => ?_)
  refine hr_Fg h (fun _ h => ?_)
  refine hr_Fg h (fun _ h => ?_)
  refine hr_Fg h (fun _ h => ?_)
  cases h
  exact (hr_fr.sr (fun k => (by simp [hr_in, hW_X6_copyFrom])) (hr_fr.sr (fun k => (by simp [hr_in, hW_X6_copyFrom])) (hr_fr.sr (fun k => (by simp [hr_in, hW_X6_copyFrom])) (hr_fr.si (by simp [hr_in, hW_X6_copyFrom]) (hr_fr.si (by simp [hr_in, hW_X6_copyFrom]) (hr_fr.si (by simp [hr_in, hW_X6_copyFrom]) (hr_fr.rf _ M)))))))
def hW_X7_waysBehind : List (Nat × Nat) := []
theorem fr_X7_waysBehind_25 (a1 : Nat) (a2 : Nat) (a3 : Int32) (a4 : Int32) : ∀ (f : Nat) (x5 : Int32) (x6 : Int64) (x8 : Int32) (M : PM) (r : Int64 × PM), f_X7_waysBehind_25 a1 a2 a3 a4 f x5 x6 x8 M = some r → hr_fr hW_X7_waysBehind M r.2 := by
  intro f
  induction f with
  | zero => intro x5 x6 x8 M r h; cases h
  | succ f ih =>
    intro x5 x6 x8 M r h
    rw [f_X7_waysBehind_25.eq_2] at h
    refine hr_Fi h (fun _ h => ?_) (fun _ h => ?_)
    · cases h
      exact (hr_fr.rf _ M)
    · refine hr_Fb h (fun v4 M4 e h => ?_)
      have FM4 : hr_fr hW_X7_waysBehind M M4 := hr_fr.tr (hr_fr.rf _ M) (hr_fr.mono (W := hW_X10_holdsBit) rfl (fr_X10_holdsBit x5 x8 _ _ e))
      refine hr_Fi h (fun _ h => ?_) (fun _ h => ?_)
      · exact hr_fr.tr FM4 (ih x5 x6 (x8 + 1) _ _ h)
      · refine hr_Fg h (fun _ h => ?_)
        exact hr_fr.tr FM4 (ih x5 (x6 + (M4.2.1 272 ((10 * (a3 + 1)) + x8).toNatClampNeg)) (x8 + 1) _ _ h)
theorem fr_X7_waysBehind (a1 : Nat) (a2 : Nat) (a3 : Int32) (a4 : Int32) : ∀ (M : PM) (r : Int64 × PM), f_X7_waysBehind a1 a2 a3 a4 M = some r → hr_fr hW_X7_waysBehind M r.2 := by
  intro M r h
  unfold f_X7_waysBehind at h
  refine hr_Fg h (fun _ h => ?_)
  refine hr_Fg h (fun _ h => ?_)
  refine hr_Fg h (fun _ h => ?_)
  refine hr_Fb h (fun v2 M2 e h => ?_)
  have FM2 : hr_fr hW_X7_waysBehind M M2 := hr_fr.tr (hr_fr.rf _ M) (hr_fr.mono (W := hW_X4_foesOf) rfl (fr_X4_foesOf a1 a4 _ _ e))
  exact hr_fr.tr FM2 (fr_X7_waysBehind_25 a1 a2 a3 a4 FU ((M.1 (a2 + 2) (a3 + 1).toNatClampNeg) &&& (v2 ^^^ (-1))) 0 0 _ _ h)
def hW_X7_waysBegunBy : List (Nat × Nat) := [(272, 0)]
theorem fr_X7_waysBegunBy_75 (a1 : Nat) (a2 : Nat) (a3 : Int32) (k67 : Int32 → PM → Option (Int64 × PM)) (hk67 : ∀ (y0 : Int32) (M : PM) (r : Int64 × PM), k67 y0 M = some r → hr_fr hW_X7_waysBegunBy M r.2) : ∀ (f : Nat) (x5 : Int32) (x6 : Int32) (M : PM) (r : Int64 × PM), f_X7_waysBegunBy_75 a1 a2 a3 k67 f x5 x6 M = some r → hr_fr hW_X7_waysBegunBy M r.2 := by
  intro f
  induction f with
  | zero => intro x5 x6 M r h; cases h
  | succ f ih =>
    intro x5 x6 M r h
    rw [f_X7_waysBegunBy_75.eq_2] at h
    refine hr_Fi h (fun _ h => ?_) (fun _ h => ?_)
    · exact hr_fr.tr (hr_fr.rf _ M) (hk67 (x5 + (-1)) _ _ h)
    · refine hr_Fb h (fun v4 M4 e h => ?_)
      have FM4 : hr_fr hW_X7_waysBegunBy M M4 := hr_fr.tr (hr_fr.rf _ M) (hr_fr.mono (W := hW_X7_waysBehind) rfl (fr_X7_waysBehind a1 a2 x5 x6 _ _ e))
      refine hr_Fg h (fun _ h => ?_)
      exact hr_fr.tr (hr_fr.sl rfl FM4) (ih x5 (x6 + 1) _ _ h)
theorem fr_X7_waysBegunBy_67 (a1 : Nat) (a2 : Nat) (a3 : Int32) : ∀ (f : Nat) (x5 : Int32) (M : PM) (r : Int64 × PM), f_X7_waysBegunBy_67 a1 a2 a3 f x5 M = some r → hr_fr hW_X7_waysBegunBy M r.2 := by
  intro f
  induction f with
  | zero => intro x5 M r h; cases h
  | succ f ih =>
    intro x5 M r h
    rw [f_X7_waysBegunBy_67.eq_2] at h
    refine hr_Fi h (fun _ h => ?_) (fun _ h => ?_)
    · refine hr_Fb h (fun v3 M3 e h => ?_)
      have FM3 : hr_fr hW_X7_waysBegunBy M M3 := hr_fr.tr (hr_fr.rf _ M) (hr_fr.mono (W := hW_X7_waysBehind) rfl (fr_X7_waysBehind a1 a2 0 a3 _ _ e))
      cases h
      exact FM3
    · exact hr_fr.tr (hr_fr.rf _ M) (fr_X7_waysBegunBy_75 a1 a2 a3 (fun x5 M => f_X7_waysBegunBy_67 a1 a2 a3 f x5 M) (fun x5 M r h => ih x5 M r h) FU x5 0 _ _ h)
theorem fr_X7_waysBegunBy_18 (a1 : Nat) (a2 : Nat) (a3 : Int32) : ∀ (f : Nat) (x4 : Int32) (x5 : Int32) (M : PM) (r : Int64 × PM), f_X7_waysBegunBy_18 a1 a2 a3 f x4 x5 M = some r → hr_fr hW_X7_waysBegunBy M r.2 := by
  intro f
  induction f with
  | zero => intro x4 x5 M r h; cases h
  | succ f ih =>
    intro x4 x5 M r h
    rw [f_X7_waysBegunBy_18.eq_2] at h
    refine hr_Fi h (fun _ h => ?_) (fun _ h => ?_)
    · exact hr_fr.tr (hr_fr.rf _ M) (fr_X7_waysBegunBy_67 a1 a2 a3 FU (x4 - 1) _ _ h)
    · refine hr_Fb h (fun v4 M4 e h => ?_)
      have FM4 : hr_fr hW_X7_waysBegunBy M M4 := hr_fr.tr (hr_fr.rf _ M) (hr_fr.mono (W := hW_X4_strengthOf) rfl (fr_X4_strengthOf a1 x5 a3 _ _ e))
      refine hr_Fi h (fun _ h => ?_) (fun _ h => ?_)
      · refine hr_Fg h (fun _ h => ?_)
        exact hr_fr.tr (hr_fr.sl rfl FM4) (ih x4 (x5 + 1) _ _ h)
      · refine hr_Fg h (fun _ h => ?_)
        exact hr_fr.tr (hr_fr.sl rfl FM4) (ih x4 (x5 + 1) _ _ h)
theorem fr_X7_waysBegunBy (a1 : Nat) (a2 : Nat) (a3 : Int32) : ∀ (M : PM) (r : Int64 × PM), f_X7_waysBegunBy a1 a2 a3 M = some r → hr_fr hW_X7_waysBegunBy M r.2 := by
  intro M r h
  unfold f_X7_waysBegunBy at h
  refine hr_Fg h (fun _ h => ?_)
  refine hr_Fg h (fun _ h => ?_)
  refine hr_Fi h (fun _ h => ?_) (fun _ h => ?_)
  · cases h
    exact (hr_fr.rf _ M)
  · exact hr_fr.tr (hr_fr.rf _ M) (fr_X7_waysBegunBy_18 a1 a2 a3 FU ((M.1 a2 0) - 1) 0 _ _ h)
def hW_X7_dressAtFirst : List (Nat × Nat) := [(273, 0)]
theorem fr_X7_dressAtFirst_52 (a1 : Nat) (a2 : Nat) (a3 : Int32) (k10 : Int32 → PM → Option (Unit × PM)) (hk10 : ∀ (y0 : Int32) (M : PM) (r : Unit × PM), k10 y0 M = some r → hr_fr hW_X7_dressAtFirst M r.2) : ∀ (f : Nat) (x4 : Int32) (x5 : Int32) (x6 : Int32) (M : PM) (r : Unit × PM), f_X7_dressAtFirst_52 a1 a2 a3 k10 f x4 x5 x6 M = some r → hr_fr hW_X7_dressAtFirst M r.2 := by
  intro f
  induction f with
  | zero => intro x4 x5 x6 M r h; cases h
  | succ f ih =>
    intro x4 x5 x6 M r h
    rw [f_X7_dressAtFirst_52.eq_2] at h
    refine hr_Fi h (fun _ h => ?_) (fun _ h => ?_)
    · exact hr_fr.tr (hr_fr.rf _ M) (hk10 (x4 + 1) _ _ h)
    · refine hr_Fb h (fun v4 M4 e h => ?_)
      have FM4 : hr_fr hW_X7_dressAtFirst M M4 := hr_fr.tr (hr_fr.rf _ M) (hr_fr.mono (W := hW_X10_holdsBit) rfl (fr_X10_holdsBit x5 x6 _ _ e))
      refine hr_Fi h (fun _ h => ?_) (fun _ h => ?_)
      · exact hr_fr.tr FM4 (ih x4 x5 (x6 + (-1)) _ _ h)
      · refine hr_Fg h (fun _ h => ?_)
        refine hr_Fi h (fun _ h => ?_) (fun _ h => ?_)
        · exact hr_fr.tr FM4 (ih x4 x5 (x6 + (-1)) _ _ h)
        · refine hr_Fg h (fun _ h => ?_)
          exact hr_fr.tr (hr_fr.si rfl FM4) (ih x4 x5 (x6 + (-1)) _ _ h)
theorem fr_X7_dressAtFirst_10 (a1 : Nat) (a2 : Nat) (a3 : Int32) : ∀ (f : Nat) (x4 : Int32) (M : PM) (r : Unit × PM), f_X7_dressAtFirst_10 a1 a2 a3 f x4 M = some r → hr_fr hW_X7_dressAtFirst M r.2 := by
  intro f
  induction f with
  | zero => intro x4 M r h; cases h
  | succ f ih =>
    intro x4 M r h
    rw [f_X7_dressAtFirst_10.eq_2] at h
    refine hr_Fi h (fun _ h => ?_) (fun _ h => ?_)
    · cases h
      exact (hr_fr.rf _ M)
    · refine hr_Fg h (fun _ h => ?_)
      refine hr_Fg h (fun _ h => ?_)
      refine hr_Fb h (fun v3 M3 e h => ?_)
      have FM3 : hr_fr hW_X7_dressAtFirst M M3 := hr_fr.tr (hr_fr.rf _ M) (hr_fr.mono (W := hW_X4_foesOf) rfl (fr_X4_foesOf a1 (M.1 273 (x4 - 1).toNatClampNeg) _ _ e))
      exact hr_fr.tr FM3 (fr_X7_dressAtFirst_52 a1 a2 a3 (fun x4 M => f_X7_dressAtFirst_10 a1 a2 a3 f x4 M) (fun x4 M r h => ih x4 M r h) FU x4 ((M.1 (a2 + 2) x4.toNatClampNeg) &&& (v3 ^^^ (-1))) ((M3.1 a1 0) - 1) _ _ h)
theorem fr_X7_dressAtFirst (a1 : Nat) (a2 : Nat) (a3 : Int32) : ∀ (M : PM) (r : Unit × PM), f_X7_dressAtFirst a1 a2 a3 M = some r → hr_fr hW_X7_dressAtFirst M r.2 := by
  intro M r h
  unfold f_X7_dressAtFirst at h
  refine hr_Fg h (fun _ h => ?_)
  refine hr_Fg h (fun _ h => ?_)
  refine hr_Fg h (fun _ h => ?_)
  exact hr_fr.tr (hr_fr.si rfl (hr_fr.rf _ M)) (fr_X7_dressAtFirst_10 a1 a2 a3 FU 1 _ _ h)
def hW_X7_seat : List (Nat × Nat) := [(271, 4), (272, 0), (273, 0)]
theorem fr_X7_seat_20 (a1 : Nat) (a2 : Nat) : ∀ (f : Nat) (x3 : Int32) (M : PM) (r : Unit × PM), f_X7_seat_20 a1 a2 f x3 M = some r → hr_fr hW_X7_seat M r.2 := by
  intro f
  induction f with
  | zero => intro x3 M r h; cases h
  | succ f ih =>
    intro x3 M r h
    rw [f_X7_seat_20.eq_2] at h
    refine hr_Fi h (fun _ h => ?_) (fun _ h => ?_)
    · cases h
      exact (hr_fr.rf _ M)
    · refine hr_Fg h (fun _ h => ?_)
      refine hr_Fb h (fun v3 M3 e h => ?_)
      have FM3 : hr_fr hW_X7_seat M M3 := hr_fr.tr (hr_fr.rf _ M) (hr_fr.mono (W := hW_X10_holdsBit) rfl (fr_X10_holdsBit (M.1 (a2 + 2) (0 : Int32).toNatClampNeg) x3 _ _ e))
      refine hr_Fi h (fun _ h => ?_) (fun _ h => ?_)
      · exact hr_fr.tr FM3 (ih (x3 + 1) _ _ h)
      · refine hr_Fb h (fun v7 M7 e h => ?_)
        have FM7 : hr_fr hW_X7_seat M M7 := hr_fr.tr FM3 (hr_fr.mono (W := hW_X7_waysBegunBy) rfl (fr_X7_waysBegunBy a1 a2 x3 _ _ e))
        refine hr_Fi h (fun _ h => ?_) (fun _ h => ?_)
        · refine hr_Fi h (fun _ h => ?_) (fun _ h => ?_)
          · exact hr_fr.tr (hr_fr.sl rfl FM7) (ih (x3 + 1) _ _ h)
          · refine hr_Fb h (fun v13 M13 e h => ?_)
            have FM13 : hr_fr hW_X7_seat M M13 := hr_fr.tr FM7 (hr_fr.mono (W := hW_X7_dressAtFirst) rfl (fr_X7_dressAtFirst a1 a2 x3 _ _ e))
            exact hr_fr.tr (hr_fr.sl rfl FM13) (ih (x3 + 1) _ _ h)
        · exact hr_fr.tr (hr_fr.sl rfl FM7) (ih (x3 + 1) _ _ h)
theorem fr_X7_seat (a1 : Nat) (a2 : Nat) : ∀ (M : PM) (r : Unit × PM), f_X7_seat a1 a2 M = some r → hr_fr hW_X7_seat M r.2 := by
  intro M r h
  unfold f_X7_seat at h
  refine hr_Fg h (fun _ h => ?_)
  refine hr_Fg h (fun _ h => ?_)
  refine hr_Fi h (fun _ h => ?_) (fun _ h => ?_)
  · cases h
    exact (hr_fr.sl rfl (hr_fr.sl rfl (hr_fr.rf _ M)))
  · exact hr_fr.tr (hr_fr.sl rfl (hr_fr.rf _ M)) (fr_X7_seat_20 a1 a2 FU 0 _ _ h)
def hW_X7_canDressFrom : List (Nat × Nat) := []
theorem fr_X7_canDressFrom_86 (a0 : Nat) (a1 : Nat) (a2 : Int32) (a3 : Int32) (x4 : Int32) : ∀ (M : PM) (r : Int32 × PM), f_X7_canDressFrom_86 a0 a1 a2 a3 x4 M = some r → hr_fr hW_X7_canDressFrom M r.2 := by
  intro M r h
  unfold f_X7_canDressFrom_86 at h
  refine hr_Fb h (fun v2 M2 e h => ?_)
  have FM2 : hr_fr hW_X7_canDressFrom M M2 := hr_fr.tr (hr_fr.rf _ M) (hr_fr.mono (W := hW_X4_foesOf) rfl (fr_X4_foesOf a0 a3 _ _ e))
  refine hr_Fi h (fun _ h => ?_) (fun _ h => ?_)
  · cases h
    exact FM2
  · cases h
    exact FM2
theorem fr_X7_canDressFrom_28 (a0 : Nat) (a1 : Nat) (a2 : Int32) (a3 : Int32) (k8 : Int32 → Int32 → PM → Option (Int32 × PM)) (hk8 : ∀ (y0 : Int32) (y1 : Int32) (M : PM) (r : Int32 × PM), k8 y0 y1 M = some r → hr_fr hW_X7_canDressFrom M r.2) : ∀ (f : Nat) (x4 : Int32) (x5 : Int32) (x6 : Int32) (x7 : Int32) (M : PM) (r : Int32 × PM), f_X7_canDressFrom_28 a0 a1 a2 a3 k8 f x4 x5 x6 x7 M = some r → hr_fr hW_X7_canDressFrom M r.2 := by
  intro f
  induction f with
  | zero => intro x4 x5 x6 x7 M r h; cases h
  | succ f ih =>
    intro x4 x5 x6 x7 M r h
    rw [f_X7_canDressFrom_28.eq_2] at h
    refine hr_Fi h (fun _ h => ?_) (fun _ h => ?_)
    · exact hr_fr.tr (hr_fr.rf _ M) (hk8 x6 (x5 + 1) _ _ h)
    · refine hr_Fb h (fun v4 M4 e h => ?_)
      have FM4 : hr_fr hW_X7_canDressFrom M M4 := hr_fr.tr (hr_fr.rf _ M) (hr_fr.mono (W := hW_X10_holdsBit) rfl (fr_X10_holdsBit x4 x7 _ _ e))
      refine hr_Fi h (fun _ h => ?_) (fun _ h => ?_)
      · exact hr_fr.tr FM4 (ih x4 x5 x6 (x7 + 1) _ _ h)
      · refine hr_Fg h (fun _ h => ?_)
        refine hr_Fb h (fun v8 M8 e h => ?_)
        have FM8 : hr_fr hW_X7_canDressFrom M M8 := hr_fr.tr FM4 (hr_fr.mono (W := hW_X4_foesOf) rfl (fr_X4_foesOf a0 x7 _ _ e))
        exact hr_fr.tr FM8 (ih x4 x5 (x6 ||| ((a2 &&& (M4.1 (a1 + 2) x5.toNatClampNeg)) &&& (v8 ^^^ (-1)))) (x7 + 1) _ _ h)
theorem fr_X7_canDressFrom_8 (a0 : Nat) (a1 : Nat) (a2 : Int32) (a3 : Int32) : ∀ (f : Nat) (x4 : Int32) (x5 : Int32) (M : PM) (r : Int32 × PM), f_X7_canDressFrom_8 a0 a1 a2 a3 f x4 x5 M = some r → hr_fr hW_X7_canDressFrom M r.2 := by
  intro f
  induction f with
  | zero => intro x4 x5 M r h; cases h
  | succ f ih =>
    intro x4 x5 M r h
    rw [f_X7_canDressFrom_8.eq_2] at h
    refine hr_Fi h (fun _ h => ?_) (fun _ h => ?_)
    · exact hr_fr.tr (hr_fr.rf _ M) (fr_X7_canDressFrom_86 a0 a1 a2 a3 x4 _ _ h)
    · refine hr_Fi h (fun _ h => ?_) (fun _ h => ?_)
      · exact hr_fr.tr (hr_fr.rf _ M) (fr_X7_canDressFrom_86 a0 a1 a2 a3 x4 _ _ h)
      · exact hr_fr.tr (hr_fr.rf _ M) (fr_X7_canDressFrom_28 a0 a1 a2 a3 (fun x4 x5 M => f_X7_canDressFrom_8 a0 a1 a2 a3 f x4 x5 M) (fun x4 x5 M r h => ih x4 x5 M r h) FU x4 x5 0 0 _ _ h)
theorem fr_X7_canDressFrom (a0 : Nat) (a1 : Nat) (a2 : Int32) (a3 : Int32) : ∀ (M : PM) (r : Int32 × PM), f_X7_canDressFrom a0 a1 a2 a3 M = some r → hr_fr hW_X7_canDressFrom M r.2 := by
  intro M r h
  unfold f_X7_canDressFrom at h
  refine hr_Fg h (fun _ h => ?_)
  refine hr_Fg h (fun _ h => ?_)
  exact hr_fr.tr (hr_fr.rf _ M) (fr_X7_canDressFrom_8 a0 a1 a2 a3 FU (jl 1 a3) 1 _ _ h)
def hW_X7_canDress : List (Nat × Nat) := []
theorem fr_X7_canDress_31 (a0 : Nat) (a1 : Nat) (a2 : Int32) : ∀ (f : Nat) (x3 : Int32) (M : PM) (r : Int32 × PM), f_X7_canDress_31 a0 a1 a2 f x3 M = some r → hr_fr hW_X7_canDress M r.2 := by
  intro f
  induction f with
  | zero => intro x3 M r h; cases h
  | succ f ih =>
    intro x3 M r h
    rw [f_X7_canDress_31.eq_2] at h
    refine hr_Fi h (fun _ h => ?_) (fun _ h => ?_)
    · cases h
      exact (hr_fr.rf _ M)
    · refine hr_Fg h (fun _ h => ?_)
      refine hr_Fb h (fun v4 M4 e h => ?_)
      have FM4 : hr_fr hW_X7_canDress M M4 := hr_fr.tr (hr_fr.rf _ M) (hr_fr.mono (W := hW_X10_holdsBit) rfl (fr_X10_holdsBit (a2 &&& (M.1 (a1 + 2) (0 : Int32).toNatClampNeg)) x3 _ _ e))
      refine hr_Fi h (fun _ h => ?_) (fun _ h => ?_)
      · exact hr_fr.tr FM4 (ih (x3 + 1) _ _ h)
      · refine hr_Fb h (fun v8 M8 e h => ?_)
        have FM8 : hr_fr hW_X7_canDress M M8 := hr_fr.tr FM4 (hr_fr.mono (W := hW_X7_canDressFrom) rfl (fr_X7_canDressFrom a0 a1 a2 x3 _ _ e))
        refine hr_Fi h (fun _ h => ?_) (fun _ h => ?_)
        · exact hr_fr.tr FM8 (ih (x3 + 1) _ _ h)
        · cases h
          exact FM8
theorem fr_X7_canDress_2 (a0 : Nat) (a1 : Nat) (a2 : Int32) : ∀ (f : Nat) (x3 : Int32) (M : PM) (r : Int32 × PM), f_X7_canDress_2 a0 a1 a2 f x3 M = some r → hr_fr hW_X7_canDress M r.2 := by
  intro f
  induction f with
  | zero => intro x3 M r h; cases h
  | succ f ih =>
    intro x3 M r h
    rw [f_X7_canDress_2.eq_2] at h
    refine hr_Fi h (fun _ h => ?_) (fun _ h => ?_)
    · exact hr_fr.tr (hr_fr.rf _ M) (fr_X7_canDress_31 a0 a1 a2 FU 0 _ _ h)
    · refine hr_Fg h (fun _ h => ?_)
      refine hr_Fi h (fun _ h => ?_) (fun _ h => ?_)
      · cases h
        exact (hr_fr.rf _ M)
      · exact hr_fr.tr (hr_fr.rf _ M) (ih (x3 + 1) _ _ h)
theorem fr_X7_canDress (a0 : Nat) (a1 : Nat) (a2 : Int32) : ∀ (M : PM) (r : Int32 × PM), f_X7_canDress a0 a1 a2 M = some r → hr_fr hW_X7_canDress M r.2 := by
  intro M r h
  unfold f_X7_canDress at h
  refine hr_Fg h (fun _ h => ?_)
  refine hr_Fg h (fun _ h => ?_)
  exact hr_fr.tr (hr_fr.rf _ M) (fr_X7_canDress_2 a0 a1 a2 FU 0 _ _ h)
def hW_X7_fewestHues : List (Nat × Nat) := []
theorem fr_X7_fewestHues_8 (a1 : Nat) (a2 : Nat) : ∀ (f : Nat) (x3 : Int32) (x4 : Int32) (M : PM) (r : Int32 × PM), f_X7_fewestHues_8 a1 a2 f x3 x4 M = some r → hr_fr hW_X7_fewestHues M r.2 := by
  intro f
  induction f with
  | zero => intro x3 x4 M r h; cases h
  | succ f ih =>
    intro x3 x4 M r h
    rw [f_X7_fewestHues_8.eq_2] at h
    refine hr_Fb h (fun v2 M2 e h => ?_)
    have FM2 : hr_fr hW_X7_fewestHues M M2 := hr_fr.tr (hr_fr.rf _ M) (hr_fr.mono (W := hW_X4_all) rfl (fr_X4_all a1 _ _ e))
    refine hr_Fi h (fun _ h => ?_) (fun _ h => ?_)
    · cases h
      exact FM2
    · refine hr_Fb h (fun v6 M6 e h => ?_)
      have FM6 : hr_fr hW_X7_fewestHues M M6 := hr_fr.tr FM2 (hr_fr.mono (W := hW_J6_bitCount_0f7a4) rfl (fr_J6_bitCount_0f7a4 x4 _ _ e))
      refine hr_Fi h (fun _ h => ?_) (fun _ h => ?_)
      · exact hr_fr.tr FM6 (ih x3 (x4 + 1) _ _ h)
      · refine hr_Fb h (fun v10 M10 e h => ?_)
        have FM10 : hr_fr hW_X7_fewestHues M M10 := hr_fr.tr FM6 (hr_fr.mono (W := hW_X7_canDress) rfl (fr_X7_canDress a1 a2 x4 _ _ e))
        refine hr_Fi h (fun _ h => ?_) (fun _ h => ?_)
        · exact hr_fr.tr FM10 (ih x3 (x4 + 1) _ _ h)
        · refine hr_Fb h (fun v14 M14 e h => ?_)
          have FM14 : hr_fr hW_X7_fewestHues M M14 := hr_fr.tr FM10 (hr_fr.mono (W := hW_J6_bitCount_0f7a4) rfl (fr_J6_bitCount_0f7a4 x4 _ _ e))
          exact hr_fr.tr FM14 (ih v14 (x4 + 1) _ _ h)
theorem fr_X7_fewestHues (a1 : Nat) (a2 : Nat) : ∀ (M : PM) (r : Int32 × PM), f_X7_fewestHues a1 a2 M = some r → hr_fr hW_X7_fewestHues M r.2 := by
  intro M r h
  unfold f_X7_fewestHues at h
  refine hr_Fg h (fun _ h => ?_)
  refine hr_Fg h (fun _ h => ?_)
  exact hr_fr.tr (hr_fr.rf _ M) (fr_X7_fewestHues_8 a1 a2 FU (M.1 a2 0) 1 _ _ h)
def hW_X7_strengthsRound : List (Nat × Nat) := []
theorem fr_X7_strengthsRound_5 (a1 : Nat) (a2 : Int32) : ∀ (f : Nat) (x3 : Int32) (x4 : Int32) (M : PM) (r : Int32 × PM), f_X7_strengthsRound_5 a1 a2 f x3 x4 M = some r → hr_fr hW_X7_strengthsRound M r.2 := by
  intro f
  induction f with
  | zero => intro x3 x4 M r h; cases h
  | succ f ih =>
    intro x3 x4 M r h
    rw [f_X7_strengthsRound_5.eq_2] at h
    refine hr_Fi h (fun _ h => ?_) (fun _ h => ?_)
    · refine hr_Fi h (fun _ h => ?_) (fun _ h => ?_)
      · cases h
        exact (hr_fr.rf _ M)
      · refine hr_Fg h (fun _ h => ?_)
        refine hr_Fg h (fun _ h => ?_)
        refine hr_Fb h (fun v5 M5 e h => ?_)
        have FM5 : hr_fr hW_X7_strengthsRound M M5 := hr_fr.tr (hr_fr.rf _ M) (hr_fr.mono (W := hW_X4_strengthOf) rfl (fr_X4_strengthOf a1 (M.1 274 (a2 - 1).toNatClampNeg) (M.1 274 (0 : Int32).toNatClampNeg) _ _ e))
        cases h
        exact FM5
    · refine hr_Fg h (fun _ h => ?_)
      refine hr_Fg h (fun _ h => ?_)
      refine hr_Fb h (fun v9 M9 e h => ?_)
      have FM9 : hr_fr hW_X7_strengthsRound M M9 := hr_fr.tr (hr_fr.rf _ M) (hr_fr.mono (W := hW_X4_strengthOf) rfl (fr_X4_strengthOf a1 (M.1 274 (x4 - 1).toNatClampNeg) (M.1 274 x4.toNatClampNeg) _ _ e))
      exact hr_fr.tr FM9 (ih (x3 + v9) (x4 + 1) _ _ h)
theorem fr_X7_strengthsRound (a1 : Nat) (a2 : Int32) : ∀ (M : PM) (r : Int32 × PM), f_X7_strengthsRound a1 a2 M = some r → hr_fr hW_X7_strengthsRound M r.2 := by
  intro M r h
  unfold f_X7_strengthsRound at h
  refine hr_Fg h (fun _ h => ?_)
  exact hr_fr.tr (hr_fr.rf _ M) (fr_X7_strengthsRound_5 a1 a2 FU 0 1 _ _ h)
def hW_X7_hueAt : List (Nat × Nat) := []
theorem fr_X7_hueAt_4 (a0 : Int32) (a1 : Int32) : ∀ (f : Nat) (x2 : Int32) (x3 : Int32) (M : PM) (r : Int32 × PM), f_X7_hueAt_4 a0 a1 f x2 x3 M = some r → hr_fr hW_X7_hueAt M r.2 := by
  intro f
  induction f with
  | zero => intro x2 x3 M r h; cases h
  | succ f ih =>
    intro x2 x3 M r h
    rw [f_X7_hueAt_4.eq_2] at h
    refine hr_Fi h (fun _ h => ?_) (fun _ h => ?_)
    · refine hr_Fb h (fun v3 M3 e h => ?_)
      have FM3 : hr_fr hW_X7_hueAt M M3 := hr_fr.tr (hr_fr.rf _ M) (hr_fr.mono (W := hW_X10_leastOf) rfl (fr_X10_leastOf x2 _ _ e))
      cases h
      exact FM3
    · exact hr_fr.tr (hr_fr.rf _ M) (ih (x2 &&& (x2 - 1)) (x3 + 1) _ _ h)
theorem fr_X7_hueAt (a0 : Int32) (a1 : Int32) : ∀ (M : PM) (r : Int32 × PM), f_X7_hueAt a0 a1 M = some r → hr_fr hW_X7_hueAt M r.2 := by
  intro M r h
  unfold f_X7_hueAt at h
  exact hr_fr.tr (hr_fr.rf _ M) (fr_X7_hueAt_4 a0 a1 FU a0 0 _ _ h)
def hW_X7_dine : List (Nat × Nat) := [(271, 5), (271, 6), (274, 0)]
theorem fr_X7_dine_26 (a1 : Nat) (a2 : Nat) (a3 : Int32) (a4 : Int32) (k16 : Int32 → Int32 → PM → Option (Unit × PM)) (hk16 : ∀ (y0 : Int32) (y1 : Int32) (M : PM) (r : Unit × PM), k16 y0 y1 M = some r → hr_fr hW_X7_dine M r.2) : ∀ (f : Nat) (x5 : Int32) (x6 : Int32) (x7 : Int32) (M : PM) (r : Unit × PM), f_X7_dine_26 a1 a2 a3 a4 k16 f x5 x6 x7 M = some r → hr_fr hW_X7_dine M r.2 := by
  intro f
  induction f with
  | zero => intro x5 x6 x7 M r h; cases h
  | succ f ih =>
    intro x5 x6 x7 M r h
    rw [f_X7_dine_26.eq_2] at h
    refine hr_Fi h (fun _ h => ?_) (fun _ h => ?_)
    · refine hr_Fb h (fun v3 M3 e h => ?_)
      have FM3 : hr_fr hW_X7_dine M M3 := hr_fr.tr (hr_fr.rf _ M) (hr_fr.mono (W := hW_X7_strengthsRound) rfl (fr_X7_strengthsRound a1 (M.1 a2 0) _ _ e))
      refine hr_Fi h (fun _ h => ?_) (fun _ h => ?_)
      · exact hr_fr.tr (hr_fr.si rfl (hr_fr.si rfl FM3)) (hk16 x5 (x6 + 1) _ _ h)
      · exact hr_fr.tr (hr_fr.si rfl (hr_fr.si rfl FM3)) (hk16 x5 (x6 + 1) _ _ h)
    · refine hr_Fg h (fun _ h => ?_)
      refine hr_Fb h (fun v10 M10 e h => ?_)
      have FM10 : hr_fr hW_X7_dine M M10 := hr_fr.tr (hr_fr.rf _ M) (hr_fr.mono (W := hW_J6_bitCount_0f7a4) rfl (fr_J6_bitCount_0f7a4 (M.1 (a2 + 2) x7.toNatClampNeg) _ _ e))
      refine hr_Fi h (fun _ h => ?_) (fun _ h => ?_)
      · refine hr_Fg h (fun _ h => ?_)
        exact hr_fr.tr (hr_fr.si rfl FM10) (ih ((x5 * 1103515245) + 12345) x6 (x7 + 1) _ _ h)
      · refine hr_Fg h (fun _ h => ?_)
        refine hr_Fg h (fun _ h => ?_)
        refine hr_Fb h (fun v15 M15 e h => ?_)
        have FM15 : hr_fr hW_X7_dine M M15 := hr_fr.tr FM10 (hr_fr.mono (W := hW_X7_hueAt) rfl (fr_X7_hueAt (M10.1 (a2 + 2) x7.toNatClampNeg) (jr (ju ((x5 * 1103515245) + 12345) 16) v10) _ _ e))
        refine hr_Fg h (fun _ h => ?_)
        exact hr_fr.tr (hr_fr.si rfl FM15) (ih ((x5 * 1103515245) + 12345) x6 (x7 + 1) _ _ h)
theorem fr_X7_dine_16 (a1 : Nat) (a2 : Nat) (a3 : Int32) (a4 : Int32) : ∀ (f : Nat) (x5 : Int32) (x6 : Int32) (M : PM) (r : Unit × PM), f_X7_dine_16 a1 a2 a3 a4 f x5 x6 M = some r → hr_fr hW_X7_dine M r.2 := by
  intro f
  induction f with
  | zero => intro x5 x6 M r h; cases h
  | succ f ih =>
    intro x5 x6 M r h
    rw [f_X7_dine_16.eq_2] at h
    refine hr_Fi h (fun _ h => ?_) (fun _ h => ?_)
    · cases h
      exact (hr_fr.rf _ M)
    · exact hr_fr.tr (hr_fr.rf _ M) (fr_X7_dine_26 a1 a2 a3 a4 (fun x5 x6 M => f_X7_dine_16 a1 a2 a3 a4 f x5 x6 M) (fun x5 x6 M r h => ih x5 x6 M r h) FU x5 x6 0 _ _ h)
theorem fr_X7_dine (a1 : Nat) (a2 : Nat) (a3 : Int32) (a4 : Int32) : ∀ (M : PM) (r : Unit × PM), f_X7_dine a1 a2 a3 a4 M = some r → hr_fr hW_X7_dine M r.2 := by
  intro M r h
  unfold f_X7_dine at h
  refine hr_Fg h (fun _ h => ?_)
  refine hr_Fg h (fun _ h => ?_)
  exact hr_fr.tr (hr_fr.si rfl (hr_fr.si rfl (hr_fr.rf _ M))) (fr_X7_dine_16 a1 a2 a3 a4 FU a3 0 _ _ h)
def hW_X8_put : List (Nat × Nat) := [(1, 2), (2, 0)]
theorem fr_X8_put_3 (a1 : Int32) : ∀ (f : Nat) (x2 : Int32) (M : PM) (r : Unit × PM), f_X8_put_3 a1 f x2 M = some r → hr_fr hW_X8_put M r.2 := by
  intro f
  induction f with
  | zero => intro x2 M r h; cases h
  | succ f ih =>
    intro x2 M r h
    rw [f_X8_put_3.eq_2] at h
    refine hr_Fi h (fun _ h => ?_) (fun _ h => ?_)
    · cases h
      exact (hr_fr.rf _ M)
    · refine hr_Fi h (fun _ h => ?_) (fun _ h => ?_)
      · cases h
        exact (hr_fr.rf _ M)
      · refine hr_Fg h (fun _ h => ?_)
        exact hr_fr.tr (hr_fr.si rfl (hr_fr.si rfl (hr_fr.rf _ M))) (ih (x2 + (-8)) _ _ h)
theorem fr_X8_put (a1 : Int32) : ∀ (M : PM) (r : Unit × PM), f_X8_put a1 M = some r → hr_fr hW_X8_put M r.2 := by
  intro M r h
  unfold f_X8_put at h
  exact hr_fr.tr (hr_fr.rf _ M) (fr_X8_put_3 a1 FU 24 _ _ h)
def hW_X8_slotFor : List (Nat × Nat) := []
theorem fr_X8_slotFor (a1 : Int32) (a2 : Int32) : ∀ (M : PM) (r : Int32 × PM), f_X8_slotFor a1 a2 M = some r → hr_fr hW_X8_slotFor M r.2 := by
  intro M r h
  unfold f_X8_slotFor at h
  refine hr_Fi h (fun _ h => ?_) (fun _ h => ?_)
  · cases h
    exact (hr_fr.rf _ M)
  · refine hr_Fi h (fun _ h => ?_) (fun _ h => ?_)
    · refine hr_Fi h (fun _ h => ?_) (fun _ h => ?_)
      · refine hr_Fg h (fun _ h => ?_)
        refine hr_Fi h (fun _ h => ?_) (fun _ h => ?_)
        · cases h
          exact (hr_fr.rf _ M)
        · refine hr_Fg h (fun _ h => ?_)
          cases h
          exact (hr_fr.rf _ M)
      · refine hr_Fi h (fun _ h => ?_) (fun _ h => ?_)
        · cases h
          exact (hr_fr.rf _ M)
        · refine hr_Fg h (fun _ h => ?_)
          refine hr_Fi h (fun _ h => ?_) (fun _ h => ?_)
          · cases h
            exact (hr_fr.rf _ M)
          · cases h
            exact (hr_fr.rf _ M)
    · cases h
      exact (hr_fr.rf _ M)
def hW_X8_rollIndex : List (Nat × Nat) := []
theorem fr_X8_rollIndex (a0 : Int32) (a1 : Int32) : ∀ (M : PM) (r : Int32 × PM), f_X8_rollIndex a0 a1 M = some r → hr_fr hW_X8_rollIndex M r.2 := by
  intro M r h
  unfold f_X8_rollIndex at h
  cases h
  exact (hr_fr.rf _ M)
def hW_X8_paletteAt : List (Nat × Nat) := []
theorem fr_X8_paletteAt (a1 : Int32) : ∀ (M : PM) (r : Value × PM), f_X8_paletteAt a1 M = some r → hr_fr hW_X8_paletteAt M r.2 := by
  intro M r h
  unfold f_X8_paletteAt at h
  refine hr_Fi h (fun _ h => ?_) (fun _ h => ?_)
  · cases h
    exact (hr_fr.rf _ M)
  · refine hr_Fg h (fun _ h => ?_)
    refine hr_Fi h (fun _ h => ?_) (fun _ h => ?_)
    · cases h
      exact (hr_fr.rf _ M)
    · refine hr_Fg h (fun _ h => ?_)
      refine hr_Fg h (fun _ h => ?_)
      cases h
      exact (hr_fr.rf _ M)
def hW_X8_rollAt : List (Nat × Nat) := []
theorem fr_X8_rollAt (a1 : Int32) (a2 : Int32) : ∀ (M : PM) (r : Value × PM), f_X8_rollAt a1 a2 M = some r → hr_fr hW_X8_rollAt M r.2 := by
  intro M r h
  unfold f_X8_rollAt at h
  refine hr_Fi h (fun _ h => ?_) (fun _ h => ?_)
  · cases h
    exact (hr_fr.rf _ M)
  · refine hr_Fg h (fun _ h => ?_)
    refine hr_Fi h (fun _ h => ?_) (fun _ h => ?_)
    · cases h
      exact (hr_fr.rf _ M)
    · refine hr_Fb h (fun v6 M6 e h => ?_)
      have FM6 : hr_fr hW_X8_rollAt M M6 := hr_fr.tr (hr_fr.rf _ M) (hr_fr.mono (W := hW_X8_rollIndex) rfl (fr_X8_rollIndex a1 a2 _ _ e))
      refine hr_Fg h (fun _ h => ?_)
      refine hr_Fg h (fun _ h => ?_)
      cases h
      exact FM6
def hW_X9_begin : List (Nat × Nat) := [(249, 1), (249, 2), (249, 3), (249, 4), (250, 0), (251, 0), (252, 0), (253, 0), (254, 0)]
theorem fr_X9_begin_67 (a1 : Nat) : ∀ (f : Nat) (x2 : Int32) (M : PM) (r : Unit × PM), f_X9_begin_67 a1 f x2 M = some r → hr_fr hW_X9_begin M r.2 := by
  intro f
  induction f with
  | zero => intro x2 M r h; cases h
  | succ f ih =>
    intro x2 M r h
    rw [f_X9_begin_67.eq_2] at h
    refine hr_Fi h (fun _ h => ?_) (fun _ h => ?_)
    · cases h
      exact (hr_fr.rf _ M)
    · refine hr_Fg h (fun _ h => ?_)
      refine hr_Fg h (fun _ h => ?_)
      refine hr_Fg h (fun _ h => ?_)
      exact hr_fr.tr (hr_fr.si rfl (hr_fr.si rfl (hr_fr.si rfl (hr_fr.rf _ M)))) (ih (x2 + 1) _ _ h)
theorem fr_X9_begin_22 (a1 : Nat) : ∀ (f : Nat) (x2 : Int32) (M : PM) (r : Unit × PM), f_X9_begin_22 a1 f x2 M = some r → hr_fr hW_X9_begin M r.2 := by
  intro f
  induction f with
  | zero => intro x2 M r h; cases h
  | succ f ih =>
    intro x2 M r h
    rw [f_X9_begin_22.eq_2] at h
    refine hr_Fi h (fun _ h => ?_) (fun _ h => ?_)
    · exact hr_fr.tr (hr_fr.rf _ M) (fr_X9_begin_67 a1 FU 0 _ _ h)
    · refine hr_Fg h (fun _ h => ?_)
      refine hr_Fb h (fun v4 M4 e h => ?_)
      have FM4 : hr_fr hW_X9_begin M M4 := hr_fr.tr (hr_fr.si rfl (hr_fr.rf _ M)) (hr_fr.mono (W := hW_X6_has) rfl (fr_X6_has a1 x2 _ _ e))
      refine hr_Fi h (fun _ h => ?_) (fun _ h => ?_)
      · refine hr_Fg h (fun _ h => ?_)
        exact hr_fr.tr (hr_fr.si rfl FM4) (ih (x2 + 1) _ _ h)
      · refine hr_Fg h (fun _ h => ?_)
        refine hr_Fg h (fun _ h => ?_)
        exact hr_fr.tr (hr_fr.si rfl FM4) (ih (x2 + 1) _ _ h)
theorem fr_X9_begin (a1 : Nat) : ∀ (M : PM) (r : Unit × PM), f_X9_begin a1 M = some r → hr_fr hW_X9_begin M r.2 := by
  intro M r h
  unfold f_X9_begin at h
  refine hr_Fg h (fun _ h => ?_)
  exact hr_fr.tr (hr_fr.si rfl (hr_fr.si rfl (hr_fr.si rfl (hr_fr.si rfl (hr_fr.rf _ M))))) (fr_X9_begin_22 a1 FU 0 _ _ h)
def hW_X9_move (a0 : Nat) : List (Nat × Nat) := [(a0, 0)]
theorem fr_X9_move_12 (a0 : Nat) (a1 : Int32) (a2 : Int32) (a3 : Int32) (s0 : Int32) : ∀ (M : PM) (r : Int32 × PM), f_X9_move_12 a0 a1 a2 a3 s0 M = some r → hr_fr (hW_X9_move a0) M r.2 := by
  intro M r h
  unfold f_X9_move_12 at h
  refine hr_Fi h (fun _ h => ?_) (fun _ h => ?_)
  · refine hr_Fg h (fun _ h => ?_)
    cases h
    exact (hr_fr.si (by simp [hr_in, hW_X9_move]) (hr_fr.rf _ M))
  · cases h
    exact (hr_fr.rf _ M)
theorem fr_X9_move (a0 : Nat) (a1 : Int32) (a2 : Int32) (a3 : Int32) : ∀ (M : PM) (r : Int32 × PM), f_X9_move a0 a1 a2 a3 M = some r → hr_fr (hW_X9_move a0) M r.2 := by
  intro M r h
  unfold f_X9_move at h
  refine hr_Fg h (fun _ h => ?_)
  refine hr_Fg h (fun _ h => ?_)
  refine hr_Fi h (fun _ h => ?_) (fun _ h => ?_)
  · exact hr_fr.tr (hr_fr.rf _ M) (fr_X9_move_12 a0 a1 a2 a3 1 _ _ h)
  · exact hr_fr.tr (hr_fr.rf _ M) (fr_X9_move_12 a0 a1 a2 a3 0 _ _ h)
def hW_X9_addThing : List (Nat × Nat) := [(249, 10), (255, 0), (256, 0)]
theorem fr_X9_addThing (a1 : Int32) (a2 : Int32) : ∀ (M : PM) (r : Unit × PM), f_X9_addThing a1 a2 M = some r → hr_fr hW_X9_addThing M r.2 := by
  intro M r h
  unfold f_X9_addThing at h
  refine hr_Fi h (fun _ h => ?_) (fun _ h => ?_)
  · cases h
    exact (hr_fr.rf _ M)
  · refine hr_Fg h (fun _ h => ?_)
    refine hr_Fg h (fun _ h => ?_)
    cases h
    exact (hr_fr.si rfl (hr_fr.si rfl (hr_fr.si rfl (hr_fr.rf _ M))))
def hW_X9_gatherThings : List (Nat × Nat) := [(249, 10), (255, 0), (256, 0)]
theorem fr_X9_gatherThings_53 (a1 : Nat) (a2 : Int32) : ∀ (f : Nat) (x3 : Int32) (M : PM) (r : Unit × PM), f_X9_gatherThings_53 a1 a2 f x3 M = some r → hr_fr hW_X9_gatherThings M r.2 := by
  intro f
  induction f with
  | zero => intro x3 M r h; cases h
  | succ f ih =>
    intro x3 M r h
    rw [f_X9_gatherThings_53.eq_2] at h
    refine hr_Fi h (fun _ h => ?_) (fun _ h => ?_)
    · cases h
      exact (hr_fr.rf _ M)
    · refine hr_Fg h (fun _ h => ?_)
      refine hr_Fi h (fun _ h => ?_) (fun _ h => ?_)
      · refine hr_Fg h (fun _ h => ?_)
        refine hr_Fi h (fun _ h => ?_) (fun _ h => ?_)
        · exact hr_fr.tr (hr_fr.rf _ M) (ih (x3 + 1) _ _ h)
        · refine hr_Fg h (fun _ h => ?_)
          refine hr_Fb h (fun v6 M6 e h => ?_)
          have FM6 : hr_fr hW_X9_gatherThings M M6 := hr_fr.tr (hr_fr.rf _ M) (hr_fr.mono (W := hW_X9_addThing) rfl (fr_X9_addThing (M.1 253 x3.toNatClampNeg) (-1) _ _ e))
          exact hr_fr.tr FM6 (ih (x3 + 1) _ _ h)
      · exact hr_fr.tr (hr_fr.rf _ M) (ih (x3 + 1) _ _ h)
theorem fr_X9_gatherThings_7 (a1 : Nat) (a2 : Int32) : ∀ (f : Nat) (x3 : Int32) (M : PM) (r : Unit × PM), f_X9_gatherThings_7 a1 a2 f x3 M = some r → hr_fr hW_X9_gatherThings M r.2 := by
  intro f
  induction f with
  | zero => intro x3 M r h; cases h
  | succ f ih =>
    intro x3 M r h
    rw [f_X9_gatherThings_7.eq_2] at h
    refine hr_Fi h (fun _ h => ?_) (fun _ h => ?_)
    · exact hr_fr.tr (hr_fr.rf _ M) (fr_X9_gatherThings_53 a1 a2 FU 0 _ _ h)
    · refine hr_Fg h (fun _ h => ?_)
      refine hr_Fi h (fun _ h => ?_) (fun _ h => ?_)
      · refine hr_Fg h (fun _ h => ?_)
        refine hr_Fi h (fun _ h => ?_) (fun _ h => ?_)
        · exact hr_fr.tr (hr_fr.rf _ M) (ih (x3 + 1) _ _ h)
        · refine hr_Fg h (fun _ h => ?_)
          refine hr_Fb h (fun v7 M7 e h => ?_)
          have FM7 : hr_fr hW_X9_gatherThings M M7 := hr_fr.tr (hr_fr.rf _ M) (hr_fr.mono (W := hW_X9_addThing) rfl (fr_X9_addThing (M.1 (a1 + 2) x3.toNatClampNeg) x3 _ _ e))
          exact hr_fr.tr FM7 (ih (x3 + 1) _ _ h)
      · exact hr_fr.tr (hr_fr.rf _ M) (ih (x3 + 1) _ _ h)
theorem fr_X9_gatherThings (a1 : Nat) (a2 : Int32) : ∀ (M : PM) (r : Unit × PM), f_X9_gatherThings a1 a2 M = some r → hr_fr hW_X9_gatherThings M r.2 := by
  intro M r h
  unfold f_X9_gatherThings at h
  refine hr_Fg h (fun _ h => ?_)
  exact hr_fr.tr (hr_fr.si rfl (hr_fr.rf _ M)) (fr_X9_gatherThings_7 a1 a2 FU 0 _ _ h)
def hW_X9_markFading : List (Nat × Nat) := [(249, 13)]
theorem fr_X9_markFading (a1 : Int32) : ∀ (M : PM) (r : Unit × PM), f_X9_markFading a1 M = some r → hr_fr hW_X9_markFading M r.2 := by
  intro M r h
  unfold f_X9_markFading at h
  refine hr_Fg h (fun _ h => ?_)
  refine hr_Fi h (fun _ h => ?_) (fun _ h => ?_)
  · cases h
    exact (hr_fr.rf _ M)
  · refine hr_Fg h (fun _ h => ?_)
    cases h
    exact (hr_fr.si rfl (hr_fr.rf _ M))
def hW_X9_rashOf : List (Nat × Nat) := [(249, 10), (249, 13), (255, 0), (256, 0)]
theorem fr_X9_rashOf_24 (a1 : Nat) (a2 : Nat) (a3 : Int32) (k12 : Int32 → Int32 → PM → Option (Int32 × PM)) (hk12 : ∀ (y0 : Int32) (y1 : Int32) (M : PM) (r : Int32 × PM), k12 y0 y1 M = some r → hr_fr hW_X9_rashOf M r.2) : ∀ (f : Nat) (x4 : Int32) (x5 : Int32) (x6 : Int32) (M : PM) (r : Int32 × PM), f_X9_rashOf_24 a1 a2 a3 k12 f x4 x5 x6 M = some r → hr_fr hW_X9_rashOf M r.2 := by
  intro f
  induction f with
  | zero => intro x4 x5 x6 M r h; cases h
  | succ f ih =>
    intro x4 x5 x6 M r h
    rw [f_X9_rashOf_24.eq_2] at h
    refine hr_Fi h (fun _ h => ?_) (fun _ h => ?_)
    · exact hr_fr.tr (hr_fr.rf _ M) (hk12 x4 (x5 + 1) _ _ h)
    · refine hr_Fg h (fun _ h => ?_)
      refine hr_Fg h (fun _ h => ?_)
      refine hr_Fb h (fun v4 M4 e h => ?_)
      have FM4 : hr_fr hW_X9_rashOf M M4 := hr_fr.tr (hr_fr.rf _ M) (hr_fr.mono (W := hW_X4_strengthOf) rfl (fr_X4_strengthOf a1 (M.1 255 x5.toNatClampNeg) (M.1 255 x6.toNatClampNeg) _ _ e))
      refine hr_Fi h (fun _ h => ?_) (fun _ h => ?_)
      · exact hr_fr.tr FM4 (ih x4 x5 (x6 + 1) _ _ h)
      · refine hr_Fb h (fun v8 M8 e h => ?_)
        have FM8 : hr_fr hW_X9_rashOf M M8 := hr_fr.tr FM4 (hr_fr.mono (W := hW_X9_markFading) rfl (fr_X9_markFading x5 _ _ e))
        refine hr_Fb h (fun v10 M10 e h => ?_)
        have FM10 : hr_fr hW_X9_rashOf M M10 := hr_fr.tr FM8 (hr_fr.mono (W := hW_X9_markFading) rfl (fr_X9_markFading x6 _ _ e))
        exact hr_fr.tr FM10 (ih (x4 + v4) x5 (x6 + 1) _ _ h)
theorem fr_X9_rashOf_12 (a1 : Nat) (a2 : Nat) (a3 : Int32) : ∀ (f : Nat) (x4 : Int32) (x5 : Int32) (M : PM) (r : Int32 × PM), f_X9_rashOf_12 a1 a2 a3 f x4 x5 M = some r → hr_fr hW_X9_rashOf M r.2 := by
  intro f
  induction f with
  | zero => intro x4 x5 M r h; cases h
  | succ f ih =>
    intro x4 x5 M r h
    rw [f_X9_rashOf_12.eq_2] at h
    refine hr_Fi h (fun _ h => ?_) (fun _ h => ?_)
    · cases h
      exact (hr_fr.rf _ M)
    · exact hr_fr.tr (hr_fr.rf _ M) (fr_X9_rashOf_24 a1 a2 a3 (fun x4 x5 M => f_X9_rashOf_12 a1 a2 a3 f x4 x5 M) (fun x4 x5 M r h => ih x4 x5 M r h) FU x4 x5 0 _ _ h)
theorem fr_X9_rashOf (a1 : Nat) (a2 : Nat) (a3 : Int32) : ∀ (M : PM) (r : Int32 × PM), f_X9_rashOf a1 a2 a3 M = some r → hr_fr hW_X9_rashOf M r.2 := by
  intro M r h
  unfold f_X9_rashOf at h
  refine hr_Fg h (fun _ h => ?_)
  refine hr_Fg h (fun _ h => ?_)
  refine hr_Fb h (fun v2 M2 e h => ?_)
  have FM2 : hr_fr hW_X9_rashOf M M2 := hr_fr.tr (hr_fr.rf _ M) (hr_fr.mono (W := hW_X9_gatherThings) rfl (fr_X9_gatherThings a2 a3 _ _ e))
  exact hr_fr.tr FM2 (fr_X9_rashOf_12 a1 a2 a3 FU 0 0 _ _ h)
def hW_X9_passHour : List (Nat × Nat) := [(249, 1), (249, 10), (249, 13), (249, 2), (249, 3), (249, 4), (251, 0), (254, 0), (255, 0), (256, 0)]
theorem fr_X9_passHour_109 (a1 : Nat) (a2 : Nat) : ∀ (f : Nat) (x3 : Int32) (M : PM) (r : Unit × PM), f_X9_passHour_109 a1 a2 f x3 M = some r → hr_fr hW_X9_passHour M r.2 := by
  intro f
  induction f with
  | zero => intro x3 M r h; cases h
  | succ f ih =>
    intro x3 M r h
    rw [f_X9_passHour_109.eq_2] at h
    refine hr_Fi h (fun _ h => ?_) (fun _ h => ?_)
    · cases h
      exact (hr_fr.si rfl (hr_fr.rf _ M))
    · refine hr_Fb h (fun v4 M4 e h => ?_)
      have FM4 : hr_fr hW_X9_passHour M M4 := hr_fr.tr (hr_fr.rf _ M) (hr_fr.mono (W := hW_X10_holdsBit) rfl (fr_X10_holdsBit (M.1 249 12) x3 _ _ e))
      refine hr_Fi h (fun _ h => ?_) (fun _ h => ?_)
      · exact hr_fr.tr FM4 (ih (x3 + 1) _ _ h)
      · refine hr_Fg h (fun _ h => ?_)
        refine hr_Fg h (fun _ h => ?_)
        exact hr_fr.tr (hr_fr.si rfl FM4) (ih (x3 + 1) _ _ h)
theorem fr_X9_passHour_65 (a1 : Nat) (a2 : Nat) (k7 : Int32 → PM → Option (Unit × PM)) (hk7 : ∀ (y0 : Int32) (M : PM) (r : Unit × PM), k7 y0 M = some r → hr_fr hW_X9_passHour M r.2) : ∀ (f : Nat) (x3 : Int32) (x4 : Int32) (x5 : Int32) (M : PM) (r : Unit × PM), f_X9_passHour_65 a1 a2 k7 f x3 x4 x5 M = some r → hr_fr hW_X9_passHour M r.2 := by
  intro f
  induction f with
  | zero => intro x3 x4 x5 M r h; cases h
  | succ f ih =>
    intro x3 x4 x5 M r h
    rw [f_X9_passHour_65.eq_2] at h
    refine hr_Fi h (fun _ h => ?_) (fun _ h => ?_)
    · exact hr_fr.tr (hr_fr.rf _ M) (hk7 (x3 + 1) _ _ h)
    · refine hr_Fg h (fun _ h => ?_)
      refine hr_Fi h (fun _ h => ?_) (fun _ h => ?_)
      · refine hr_Fg h (fun _ h => ?_)
        refine hr_Fg h (fun _ h => ?_)
        exact hr_fr.tr (hr_fr.si rfl (hr_fr.rf _ M)) (ih x3 x4 (x5 + 1) _ _ h)
      · exact hr_fr.tr (hr_fr.rf _ M) (ih x3 x4 (x5 + 1) _ _ h)
theorem fr_X9_passHour_7 (a1 : Nat) (a2 : Nat) : ∀ (f : Nat) (x3 : Int32) (M : PM) (r : Unit × PM), f_X9_passHour_7 a1 a2 f x3 M = some r → hr_fr hW_X9_passHour M r.2 := by
  intro f
  induction f with
  | zero => intro x3 M r h; cases h
  | succ f ih =>
    intro x3 M r h
    rw [f_X9_passHour_7.eq_2] at h
    refine hr_Fi h (fun _ h => ?_) (fun _ h => ?_)
    · exact hr_fr.tr (hr_fr.rf _ M) (fr_X9_passHour_109 a1 a2 FU 0 _ _ h)
    · refine hr_Fb h (fun v4 M4 e h => ?_)
      have FM4 : hr_fr hW_X9_passHour M M4 := hr_fr.tr (hr_fr.rf _ M) (hr_fr.mono (W := hW_X9_rashOf) rfl (fr_X9_rashOf a1 a2 x3 _ _ e))
      refine hr_Fi h (fun _ h => ?_) (fun _ h => ?_)
      · exact hr_fr.tr (hr_fr.si rfl FM4) (fr_X9_passHour_65 a1 a2 (fun x3 M => f_X9_passHour_7 a1 a2 f x3 M) (fun x3 M r h => ih x3 M r h) FU x3 v4 0 _ _ h)
      · refine hr_Fi h (fun _ h => ?_) (fun _ h => ?_)
        · exact hr_fr.tr (hr_fr.si rfl (hr_fr.si rfl (hr_fr.si rfl FM4))) (fr_X9_passHour_65 a1 a2 (fun x3 M => f_X9_passHour_7 a1 a2 f x3 M) (fun x3 M r h => ih x3 M r h) FU x3 v4 0 _ _ h)
        · exact hr_fr.tr (hr_fr.si rfl FM4) (fr_X9_passHour_65 a1 a2 (fun x3 M => f_X9_passHour_7 a1 a2 f x3 M) (fun x3 M r h => ih x3 M r h) FU x3 v4 0 _ _ h)
theorem fr_X9_passHour (a1 : Nat) (a2 : Nat) : ∀ (M : PM) (r : Unit × PM), f_X9_passHour a1 a2 M = some r → hr_fr hW_X9_passHour M r.2 := by
  intro M r h
  unfold f_X9_passHour at h
  refine hr_Fg h (fun _ h => ?_)
  refine hr_Fg h (fun _ h => ?_)
  exact hr_fr.tr (hr_fr.si rfl (hr_fr.rf _ M)) (fr_X9_passHour_7 a1 a2 FU 0 _ _ h)
def hW_X9_act : List (Nat × Nat) := [(249, 1), (249, 10), (249, 13), (249, 2), (249, 3), (249, 4), (250, 0), (251, 0), (252, 0), (253, 0), (254, 0), (255, 0), (256, 0)]
theorem fr_X9_act (a1 : Nat) (a2 : Nat) (a3 : Nat) (a4 : Int32) : ∀ (M : PM) (r : Int32 × PM), f_X9_act a1 a2 a3 a4 M = some r → hr_fr hW_X9_act M r.2 := by
  intro M r h
  unfold f_X9_act at h
  refine hr_Fg h (fun _ h => ?_)
  refine hr_Fg h (fun _ h => ?_)
  refine hr_Fg h (fun _ h => ?_)
  refine hr_Fg h (fun _ h => ?_)
  refine hr_Fg h (fun _ h => ?_)
  refine hr_Fg h (fun _ h => ?_)
  refine hr_Fi h (fun _ h => ?_) (fun _ h => ?_)
  · refine hr_Fb h (fun v3 M3 e h => ?_)
    have FM3 : hr_fr hW_X9_act M M3 := hr_fr.tr (hr_fr.rf _ M) (hr_fr.mono (W := hW_X6_has) rfl (fr_X6_has a2 (M.1 (a3 + 2) a4.toNatClampNeg) _ _ e))
    refine hr_Fi h (fun _ h => ?_) (fun _ h => ?_)
    · cases h
      exact FM3
    · refine hr_Fb h (fun v7 M7 e h => ?_)
      have FM7 : hr_fr hW_X9_act M M7 := hr_fr.tr FM3 (hr_fr.mono (W := (hW_X9_move 250)) rfl (fr_X9_move 250 (M.1 (a3 + 2) a4.toNatClampNeg) 1 (M.1 (a3 + 3) a4.toNatClampNeg) _ _ e))
      refine hr_Fi h (fun _ h => ?_) (fun _ h => ?_)
      · cases h
        exact FM7
      · cases h
        exact FM7
  · refine hr_Fi h (fun _ h => ?_) (fun _ h => ?_)
    · refine hr_Fb h (fun v12 M12 e h => ?_)
      have FM12 : hr_fr hW_X9_act M M12 := hr_fr.tr (hr_fr.rf _ M) (hr_fr.mono (W := hW_X6_has) rfl (fr_X6_has a2 (M.1 (a3 + 2) a4.toNatClampNeg) _ _ e))
      refine hr_Fi h (fun _ h => ?_) (fun _ h => ?_)
      · cases h
        exact FM12
      · refine hr_Fb h (fun v16 M16 e h => ?_)
        have FM16 : hr_fr hW_X9_act M M16 := hr_fr.tr FM12 (hr_fr.mono (W := (hW_X9_move 250)) rfl (fr_X9_move 250 (M.1 (a3 + 2) a4.toNatClampNeg) 0 (-1) _ _ e))
        refine hr_Fi h (fun _ h => ?_) (fun _ h => ?_)
        · cases h
          exact FM16
        · cases h
          exact FM16
    · refine hr_Fi h (fun _ h => ?_) (fun _ h => ?_)
      · refine hr_Fb h (fun v21 M21 e h => ?_)
        have FM21 : hr_fr hW_X9_act M M21 := hr_fr.tr (hr_fr.rf _ M) (hr_fr.mono (W := hW_X4_has) rfl (fr_X4_has a1 (M.1 (a3 + 3) a4.toNatClampNeg) _ _ e))
        refine hr_Fi h (fun _ h => ?_) (fun _ h => ?_)
        · cases h
          exact FM21
        · refine hr_Fg h (fun _ h => ?_)
          cases h
          exact (hr_fr.si rfl FM21)
      · refine hr_Fi h (fun _ h => ?_) (fun _ h => ?_)
        · refine hr_Fb h (fun v26 M26 e h => ?_)
          have FM26 : hr_fr hW_X9_act M M26 := hr_fr.tr (hr_fr.rf _ M) (hr_fr.mono (W := (hW_X9_move 252)) rfl (fr_X9_move 252 (M.1 (a3 + 2) a4.toNatClampNeg) 1 (M.1 (a3 + 3) a4.toNatClampNeg) _ _ e))
          refine hr_Fg h (fun _ h => ?_)
          cases h
          exact FM26
        · refine hr_Fi h (fun _ h => ?_) (fun _ h => ?_)
          · refine hr_Fb h (fun v28 M28 e h => ?_)
            have FM28 : hr_fr hW_X9_act M M28 := hr_fr.tr (hr_fr.rf _ M) (hr_fr.mono (W := (hW_X9_move 252)) rfl (fr_X9_move 252 (M.1 (a3 + 2) a4.toNatClampNeg) 0 (-1) _ _ e))
            refine hr_Fg h (fun _ h => ?_)
            cases h
            exact FM28
          · refine hr_Fb h (fun v30 M30 e h => ?_)
            have FM30 : hr_fr hW_X9_act M M30 := hr_fr.tr (hr_fr.rf _ M) (hr_fr.mono (W := hW_X9_passHour) rfl (fr_X9_passHour a1 a2 _ _ e))
            cases h
            exact FM30
def hW_X9_go : List (Nat × Nat) := [(249, 1), (249, 10), (249, 13), (249, 2), (249, 3), (249, 4), (250, 0), (251, 0), (252, 0), (253, 0), (254, 0), (255, 0), (256, 0)]
theorem fr_X9_go_11 (a1 : Nat) (a2 : Nat) (a3 : Nat) (a4 : Int32) : ∀ (f : Nat) (x5 : Int32) (x6 : Int32) (M : PM) (r : Int32 × PM), f_X9_go_11 a1 a2 a3 a4 f x5 x6 M = some r → hr_fr hW_X9_go M r.2 := by
  intro f
  induction f with
  | zero => intro x5 x6 M r h; cases h
  | succ f ih =>
    intro x5 x6 M r h
    rw [f_X9_go_11.eq_2] at h
    refine hr_Fi h (fun _ h => ?_) (fun _ h => ?_)
    · cases h
      exact (hr_fr.rf _ M)
    · refine hr_Fi h (fun _ h => ?_) (fun _ h => ?_)
      · cases h
        exact (hr_fr.rf _ M)
      · refine hr_Fb h (fun v6 M6 e h => ?_)
        have FM6 : hr_fr hW_X9_go M M6 := hr_fr.tr (hr_fr.rf _ M) (hr_fr.mono (W := hW_X9_act) rfl (fr_X9_act a1 a2 a3 x6 _ _ e))
        refine hr_Fi h (fun _ h => ?_) (fun _ h => ?_)
        · cases h
          exact FM6
        · exact hr_fr.tr FM6 (ih (x5 + 1) (x6 + 1) _ _ h)
theorem fr_X9_go (a1 : Nat) (a2 : Nat) (a3 : Nat) (a4 : Int32) : ∀ (M : PM) (r : Int32 × PM), f_X9_go a1 a2 a3 a4 M = some r → hr_fr hW_X9_go M r.2 := by
  intro M r h
  unfold f_X9_go at h
  refine hr_Fg h (fun _ h => ?_)
  refine hr_Fg h (fun _ h => ?_)
  refine hr_Fg h (fun _ h => ?_)
  refine hr_Fb h (fun v2 M2 e h => ?_)
  have FM2 : hr_fr hW_X9_go M M2 := hr_fr.tr (hr_fr.rf _ M) (hr_fr.mono (W := hW_X9_begin) rfl (fr_X9_begin a2 _ _ e))
  exact hr_fr.tr FM2 (fr_X9_go_11 a1 a2 a3 a4 FU 0 0 _ _ h)
