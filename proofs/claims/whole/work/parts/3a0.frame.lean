/-! FRAMES: what a function leaves as it was. A list of places that may be written: (cell, 0) the whole cell, (cell, k + 1) its slot k -/
def hr_in : List (Nat × Nat) → Nat → Nat → Bool
  | [], _, _ => false
  | (b, s) :: W, a, k => (Nat.beq b a && (Nat.beq s 0 || Nat.beq s (k + 1))) || hr_in W a k
def hr_cov : List (Nat × Nat) → Nat → Nat → Bool
  | [], _, _ => false
  | (b', s') :: V, b, s => (Nat.beq b' b && (Nat.beq s' 0 || Nat.beq s' s)) || hr_cov V b s
def hr_sub : List (Nat × Nat) → List (Nat × Nat) → Bool
  | [], _ => true
  | (b, s) :: W, V => hr_cov V b s && hr_sub W V
def hr_fr (W : List (Nat × Nat)) (M M' : PM) : Prop := (∀ a k, hr_in W a k = false → M'.1 a k = M.1 a k ∧ M'.2.1 a k = M.2.1 a k) ∧ M'.2.2 = M.2.2
theorem hr_fr.rf (W : List (Nat × Nat)) (M : PM) : hr_fr W M M := ⟨fun _ _ _ => ⟨rfl, rfl⟩, rfl⟩
theorem hr_fr.tr {W : List (Nat × Nat)} {M M1 M2 : PM} (h1 : hr_fr W M M1) (h2 : hr_fr W M1 M2) : hr_fr W M M2 :=
  ⟨fun a k h => ⟨(h2.1 a k h).1.trans (h1.1 a k h).1, (h2.1 a k h).2.trans (h1.1 a k h).2⟩, h2.2.trans h1.2⟩
theorem hr_fr.si {W : List (Nat × Nat)} {M M1 : PM} {a k : Nat} {v : Int32} (hin : hr_in W a k = true) (h : hr_fr W M M1) : hr_fr W M (hr_si M1 a k v) := by
  refine ⟨fun b j hb => ⟨?_, (h.1 b j hb).2⟩, h.2⟩
  show (if b = a then (if j = k then v else M1.1 b j) else M1.1 b j) = _
  by_cases e1 : b = a
  · by_cases e2 : j = k
    · subst e1 e2; rw [hin] at hb; cases hb
    · rw [if_pos e1, if_neg e2]; exact (h.1 b j hb).1
  · rw [if_neg e1]; exact (h.1 b j hb).1
theorem hr_fr.sl {W : List (Nat × Nat)} {M M1 : PM} {a k : Nat} {v : Int64} (hin : hr_in W a k = true) (h : hr_fr W M M1) : hr_fr W M (hr_sl M1 a k v) := by
  refine ⟨fun b j hb => ⟨(h.1 b j hb).1, ?_⟩, h.2⟩
  show (if b = a then (if j = k then v else M1.2.1 b j) else M1.2.1 b j) = _
  by_cases e1 : b = a
  · by_cases e2 : j = k
    · subst e1 e2; rw [hin] at hb; cases hb
    · rw [if_pos e1, if_neg e2]; exact (h.1 b j hb).2
  · rw [if_neg e1]; exact (h.1 b j hb).2
theorem hr_fr.sr {W : List (Nat × Nat)} {M M1 : PM} {a : Nat} {f : Nat → Int32} (hin : ∀ k, hr_in W a k = true) (h : hr_fr W M M1) : hr_fr W M (hr_sr M1 a f) := by
  refine ⟨fun b j hb => ⟨?_, (h.1 b j hb).2⟩, h.2⟩
  show (if b = a then f else M1.1 b) j = _
  by_cases e1 : b = a
  · subst e1; rw [hin j] at hb; cases hb
  · rw [if_neg e1]; exact (h.1 b j hb).1
theorem hr_cov_in : ∀ {V : List (Nat × Nat)} {b s a k : Nat}, hr_cov V b s = true → hr_in V a k = false → (Nat.beq b a && (Nat.beq s 0 || Nat.beq s (k + 1))) = false
  | [], _, _, _, _, h, _ => by cases h
  | (b', s') :: V, b, s, a, k, h, h2 => by
    unfold hr_cov at h
    unfold hr_in at h2
    rw [Bool.or_eq_false_iff] at h2
    rw [Bool.or_eq_true] at h
    rcases h with h | h
    · rw [Bool.and_eq_true, Bool.or_eq_true] at h
      have e1 := Nat.eq_of_beq_eq_true h.1
      subst e1
      rcases h.2 with e | e
      · have e2 := Nat.eq_of_beq_eq_true e
        subst e2
        have h3 := h2.1
        cases hq : Nat.beq b' a with
        | false => rfl
        | true => rw [hq] at h3; cases h3
      · have e2 := Nat.eq_of_beq_eq_true e
        subst e2
        exact h2.1
    · exact hr_cov_in h h2.2
theorem hr_sub_in : ∀ {W V : List (Nat × Nat)} {a k : Nat}, hr_sub W V = true → hr_in V a k = false → hr_in W a k = false
  | [], _, _, _, _, _ => rfl
  | (b, s) :: W, V, a, k, h, h2 => by
    unfold hr_sub at h
    rw [Bool.and_eq_true] at h
    unfold hr_in
    rw [hr_cov_in h.1 h2, hr_sub_in h.2 h2]
    rfl
theorem hr_fr.mono {W V : List (Nat × Nat)} {M M' : PM} (hs : hr_sub W V = true) (h : hr_fr W M M') : hr_fr V M M' := ⟨fun a k hk => h.1 a k (hr_sub_in hs hk), h.2⟩
