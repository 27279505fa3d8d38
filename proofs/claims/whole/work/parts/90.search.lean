/-! THE SEARCH FOR A MIX, colour by colour as they are reached -/
def bqV (P : Pal) (B : Nat → Bool) (c0 : Nat) (qc : Nat → Nat) (j : Nat) : Nat := if j = 0 then mxD P B c0 + 1 else nd P B (pH P) (qc j)
/-- one by which the fewest units can be had -/
def bqp (P : Pal) (B : Nat → Bool) (c0 : Nat) (qc qu : Nat → Nat) (j : Nat) : Prop := qu j + bqV P B c0 qc j = mxD P B c0 + 1
/-- what is reached: m colours, by so many units, by a first one; seen ones; k of them gone through, and h hues more -/
def bq (P : Pal) (B : Nat → Bool) (c0 : Nat) (qc qu qf : Nat → Nat) (S : Nat → Bool) (m k h : Nat) : Prop :=
  ((k < m ∧ h ≤ pH P) ∧ (qc 0 = c0 ∧ qu 0 = 0) ∧ cnt S 1000 + 1 = m) ∧
  ((∀ j, j < m → qc j < 1000 ∧ qu j ≤ j) ∧ (∀ j, 1 ≤ j → j < m → B (qc j) = false ∧ 1 ≤ qu j) ∧ ∀ x, x < 1000 → S x = true → ∃ j, 1 ≤ j ∧ j < m ∧ qc j = x) ∧
  ((∀ i j, i ≤ j → j < m → qu i ≤ qu j) ∧ (∀ j, j < m → qu j ≤ qu k + 1) ∧ ∀ j, j < m → mxD P B c0 + 1 ≤ qu j + bqV P B c0 qc j) ∧
  ((∀ i a, i < k → a < pH P → S (mxd P (qc i) a) = true) ∧ ∀ a, a < h → S (mxd P (qc k) a) = true) ∧
  (mxD P B c0 < 1000000 → (∀ j, j < m → bqp P B c0 qc qu j → (∀ i, i < j → qu i = qu j → ¬ bqp P B c0 qc qu i) → qc j = mxs P B c0 (qu j) ∧ (1 ≤ j → qf j = mxh P B c0 (mxD P B c0))) ∧ ∃ j, j < m ∧ qu j = qu k ∧ bqp P B c0 qc qu j)
section BQ
variable {P : Pal} {B : Nat → Bool} {c0 : Nat} {qc qu qf : Nat → Nat} {S : Nat → Bool} {m k h : Nat}
theorem cnt_false (n : Nat) : cnt (fun _ => false) n = 0 := by
  induction n with
  | zero => rfl
  | succ n ih => exact ih
theorem bq_start (hn : pH P ≤ 10) (hc : c0 < 1000) (hq : qc 0 = c0) (hu : qu 0 = 0) : bq P B c0 qc qu qf (fun _ => false) 1 0 0 := by
  have v0 : bqV P B c0 qc 0 = mxD P B c0 + 1 := if_pos rfl
  refine ⟨⟨⟨by omega, Nat.zero_le _⟩, ⟨hq, hu⟩, by rw [cnt_false]⟩, ⟨fun j hj => ?_, fun j h1 h2 => by omega, fun x _ hx => by cases hx⟩, ⟨fun i j h1 h2 => ?_, fun j hj => ?_, fun j hj => ?_⟩, ⟨fun i a hi => by omega, fun a ha => by omega⟩, fun hD => ⟨fun j hj _ _ => ?_, 0, by omega, rfl, ?_⟩⟩
  · rw [show j = 0 by omega, hq, hu]; omega
  · rw [show i = 0 by omega, show j = 0 by omega]; exact Nat.le_refl _
  · rw [show j = 0 by omega]; omega
  · rw [show j = 0 by omega, v0]; omega
  · rw [show j = 0 by omega, hq, hu]
    exact ⟨rfl, fun z => by omega⟩
  · show qu 0 + _ = _
    rw [hu, v0]; omega
theorem cnt_one {p : Nat → Bool} {y n : Nat} (hy : y < n) (hp : p y = false) : cnt (fun x => p x || decide (x = y)) n = cnt p n + 1 ∧ cnt p n < n := by
  induction n with
  | zero => omega
  | succ n ih =>
    have e1 : cnt (fun x => p x || decide (x = y)) (n + 1) = cnt (fun x => p x || decide (x = y)) n + (if (p n || decide (n = y)) = true then 1 else 0) := rfl
    have e2 : cnt p (n + 1) = cnt p n + (if p n = true then 1 else 0) := rfl
    have hl := cnt_le p n
    by_cases z : n = y
    · subst z
      have e3 : cnt (fun x => p x || decide (x = n)) n = cnt p n := cnt_congr (fun x hx => by rw [decide_eq_false (by omega), Bool.or_false])
      rw [e1, e2, e3, hp, decide_eq_true rfl, Bool.or_true, if_pos rfl, if_neg (by simp)]
      omega
    · obtain ⟨i1, i2⟩ := ih (by omega)
      rw [e1, e2, i1, decide_eq_false z, Bool.or_false]
      split <;> omega
/-- what is behind the first one of a level by which the fewest can be had -/
theorem bq_succ (hn : pH P ≤ 10) (hc : c0 < 1000) (q : bq P B c0 qc qu qf S m k h) (hD : mxD P B c0 < 1000000) {i : Nat} (hi : i < m) (hp : bqp P B c0 qc qu i) (hf : ∀ j, j < i → qu j = qu i → ¬ bqp P B c0 qc qu j) :
    qu i ≤ mxD P B c0 ∧ qc i = mxs P B c0 (qu i) ∧ (S (mxs P B c0 (qu i + 1)) = true → ∃ j, 1 ≤ j ∧ j < m ∧ qu i + 1 ≤ qu j ∧ (qu j = qu i + 1 → bqp P B c0 qc qu j)) := by
  obtain ⟨⟨⟨q1, q2⟩, ⟨q3, q4⟩, q5⟩, ⟨q6, q7, q8⟩, ⟨q9, q10, q11⟩, ⟨q12, q13⟩, q14⟩ := q
  have hx := (q14 hD).1 i hi hp hf
  have hle : qu i ≤ mxD P B c0 := by
    by_cases z : i = 0
    · rw [z, q4]; exact Nat.zero_le _
    · have := q7 i (by omega) hi
      have h0 : nd P B (pH P) (qc i) ≠ 0 := fun z2 => by
        rw [(nd_0 hn (q6 i hi).1).mp z2] at this
        cases this.1
      unfold bqp bqV at hp
      rw [if_neg z] at hp
      omega
  refine ⟨hle, hx.1, fun hS => ?_⟩
  obtain ⟨j, j1, j2, j3⟩ := q8 _ (mxs_lt hc _) hS
  have ok := mxs_ok hn hc hD (qu i) hle
  have hj := q11 j j2
  have ev : bqV P B c0 qc j = mxD P B c0 - qu i := by
    unfold bqV
    rw [if_neg (by omega), j3]
    exact ok.2.1
  rw [ev] at hj
  refine ⟨j, j1, j2, by omega, fun z => ?_⟩
  unfold bqp
  rw [ev, z]
  omega
/-- a new one, the first of its level by which the fewest can be had -/
theorem bq_new (hn : pH P ≤ 10) (hc : c0 < 1000) (q : bq P B c0 qc qu qf S m k h) (hD : mxD P B c0 < 1000000) (hh : h < pH P) (hp : qu k + nd P B (pH P) (mxd P (qc k) h) = mxD P B c0) (hno : ∀ i, i < m → qu i = qu k + 1 → ¬ bqp P B c0 qc qu i) :
    mxd P (qc k) h = mxs P B c0 (qu k + 1) ∧ (if qu k = 0 then h else qf k) = mxh P B c0 (mxD P B c0) := by
  have q0 := q
  obtain ⟨⟨⟨q1, q2⟩, ⟨q3, q4⟩, q5⟩, ⟨q6, q7, q8⟩, ⟨q9, q10, q11⟩, ⟨q12, q13⟩, q14⟩ := q
  have hk : bqp P B c0 qc qu k := by
    have h1 := q11 k q1
    have h2 : bqV P B c0 qc k ≤ 1 + nd P B (pH P) (mxd P (qc k) h) := by
      unfold bqV
      by_cases z : k = 0
      · rw [if_pos z, z, q3]
        have := (lsN_le (b := 1000000) (f := fun h => nd P B (pH P) (mxd P c0 h)) (n := pH P)).2 h hh
        unfold mxD
        omega
      · rw [if_neg z]
        exact nd_step hn (q6 k q1).1 hh
    unfold bqp
    omega
  -- the first one of the level
  obtain ⟨i, i1, i2, i3, i4⟩ : ∃ i, i ≤ k ∧ qu i = qu k ∧ bqp P B c0 qc qu i ∧ ∀ j, j < i → qu j = qu i → ¬ bqp P B c0 qc qu j := by
    have : ∀ t, t ≤ k → qu t = qu k → bqp P B c0 qc qu t → ∃ i, i ≤ k ∧ qu i = qu k ∧ bqp P B c0 qc qu i ∧ ∀ j, j < i → qu j = qu i → ¬ bqp P B c0 qc qu j := by
      intro t
      induction t using Nat.strongRecOn with
      | ind t ih =>
        intro h1 h2 h3
        by_cases z : ∃ j, j < t ∧ qu j = qu t ∧ bqp P B c0 qc qu j
        · obtain ⟨j, j1, j2, j3⟩ := z
          exact ih j j1 (by omega) (by omega) j3
        · exact ⟨t, h1, h2, h3, fun j j1 j2 j3 => z ⟨j, j1, j2, j3⟩⟩
    exact this k (Nat.le_refl _) rfl hk
  obtain ⟨s1, s2, s3⟩ := bq_succ hn hc q0 hD (show i < m by omega) i3 i4
  have ok := mxs_ok hn hc hD (qu i) s1
  have no : S (mxs P B c0 (qu i + 1)) ≠ true := by
    intro z
    obtain ⟨j, j1, j2, j3, j4⟩ := s3 z
    have := q10 j j2
    exact hno j j2 (by omega) (j4 (by omega))
  have nx : mxs P B c0 (qu i + 1) = mxd P (qc i) (mxh P B (mxs P B c0 (qu i)) (mxD P B c0 - qu i)) := by
    rw [s2]; rfl
  have hik : i = k := by
    rcases Nat.lt_or_ge i k with z | z
    · exfalso
      apply no
      rw [nx]
      exact q12 i _ z ok.1
    · omega
  subst hik
  have hhl : mxh P B (mxs P B c0 (qu i)) (mxD P B c0 - qu i) = h := by
    rcases Nat.lt_trichotomy (mxh P B (mxs P B c0 (qu i)) (mxD P B c0 - qu i)) h with z | z | z
    · exfalso
      apply no
      rw [nx]
      exact q13 _ z
    · exact z
    · exfalso
      have hne := ok.2.2 h z
      rw [← s2] at hne
      exact hne (Nat.eq_sub_of_add_eq' hp)
  refine ⟨by rw [nx, hhl], ?_⟩
  by_cases z : i = 0
  · subst z
    rw [if_pos q4, ← hhl, q4]
    rfl
  · have := (q7 i (by omega) q1).2
    rw [if_neg (by omega)]
    exact ((q14 hD).1 i q1 i3 i4).2 (by omega)
theorem bq_few (q : bq P B c0 qc qu qf S m k h) : m ≤ 1001 := by
  have := cnt_le S 1000
  have := q.1.2.2
  omega
/-- a colour that was seen -/
theorem bq_seen (q : bq P B c0 qc qu qf S m k h) (hh : h < pH P) (hs : S (mxd P (qc k) h) = true) : bq P B c0 qc qu qf S m k (h + 1) := by
  obtain ⟨⟨⟨q1, q2⟩, q3, q5⟩, q6, q9, ⟨q12, q13⟩, q14⟩ := q
  refine ⟨⟨⟨q1, hh⟩, q3, q5⟩, q6, q9, ⟨q12, fun a ha => ?_⟩, q14⟩
  by_cases z : a = h
  · rw [z]; exact hs
  · exact q13 a (by omega)
/-- a colour that is borne -/
theorem bq_found (hn : pH P ≤ 10) (hc : c0 < 1000) (q : bq P B c0 qc qu qf S m k h) (hh : h < pH P) (hb : B (mxd P (qc k) h) = true) : mxD P B c0 < 1000000 ∧ qu k = mxD P B c0 ∧ mxd P (qc k) h = mxs P B c0 (mxD P B c0 + 1) ∧ (if qu k = 0 then h else qf k) = mxh P B c0 (mxD P B c0) := by
  have q0 := q
  obtain ⟨⟨⟨q1, q2⟩, ⟨q3, q4⟩, q5⟩, ⟨q6, q7, q8⟩, ⟨q9, q10, q11⟩, ⟨q12, q13⟩, q14⟩ := q
  have h0 : nd P B (pH P) (mxd P (qc k) h) = 0 := (nd_0 hn (mxd_lt P _ h)).mpr hb
  have h1 := q11 k q1
  have h2 : bqV P B c0 qc k ≤ 1 := by
    unfold bqV
    by_cases z : k = 0
    · rw [if_pos z]
      have := (lsN_le (b := 1000000) (f := fun h => nd P B (pH P) (mxd P c0 h)) (n := pH P)).2 h hh
      rw [z, q3] at h0
      unfold mxD
      omega
    · rw [if_neg z]
      have := nd_step (P := P) (B := B) hn (q6 k q1).1 hh
      omega
  have hm := bq_few q0
  have h3 := (q6 k q1).2
  have hD : mxD P B c0 < 1000000 := by omega
  have hL : qu k ≤ mxD P B c0 := by
    obtain ⟨j, j1, j2, j3⟩ := (q14 hD).2
    by_cases z : j = 0
    · rw [← j2, z, q4]; exact Nat.zero_le _
    · have h5 := q7 j (by omega) j1
      have h6 : nd P B (pH P) (qc j) ≠ 0 := fun z2 => by
        rw [(nd_0 hn (q6 j j1).1).mp z2] at h5
        cases h5.1
      unfold bqp bqV at j3
      rw [if_neg z] at j3
      omega
  have hq : qu k = mxD P B c0 := by omega
  obtain ⟨e1, e2⟩ := bq_new hn hc q0 hD hh (by omega) (fun i i1 i2 i3 => by
    have z : i ≠ 0 := fun z => by rw [z, q4] at i2; omega
    have h5 := q7 i (by omega) i1
    have h6 : nd P B (pH P) (qc i) ≠ 0 := fun z2 => by
      rw [(nd_0 hn (q6 i i1).1).mp z2] at h5
      cases h5.1
    unfold bqp bqV at i3
    rw [if_neg z] at i3
    omega)
  refine ⟨hD, hq, ?_, e2⟩
  rw [e1, hq]
/-- a new colour, not borne -/
theorem bq_push (hn : pH P ≤ 10) (hc : c0 < 1000) (q : bq P B c0 qc qu qf S m k h) (hh : h < pH P) (hs : S (mxd P (qc k) h) = false) (hb : B (mxd P (qc k) h) = false) {qc' qu' qf' : Nat → Nat} {S' : Nat → Bool} (e : ∀ j, j < m → qc' j = qc j ∧ qu' j = qu j ∧ qf' j = qf j) (ec : qc' m = mxd P (qc k) h) (eu : qu' m = qu k + 1) (ef : qf' m = if qu k = 0 then h else qf k) (eS : ∀ x, S' x = (S x || decide (x = mxd P (qc k) h))) : bq P B c0 qc' qu' qf' S' (m + 1) k (h + 1) := by
  have q0 := q
  obtain ⟨⟨⟨q1, q2⟩, ⟨q3, q4⟩, q5⟩, ⟨q6, q7, q8⟩, ⟨q9, q10, q11⟩, ⟨q12, q13⟩, q14⟩ := q
  have hy := mxd_lt P (qc k) h
  have eS' : S' = fun x => S x || decide (x = mxd P (qc k) h) := funext eS
  have c1 := cnt_one hy hs
  have m0 : 0 < m := by omega
  have v : ∀ j, j < m → bqV P B c0 qc' j = bqV P B c0 qc j := fun j hj => by unfold bqV; rw [(e j hj).1]
  have p : ∀ j, j < m → (bqp P B c0 qc' qu' j ↔ bqp P B c0 qc qu j) := fun j hj => by unfold bqp; rw [v j hj, (e j hj).2.1]
  have vm : bqV P B c0 qc' m = nd P B (pH P) (mxd P (qc k) h) := by unfold bqV; rw [if_neg (by omega), ec]
  have h2 : bqV P B c0 qc k ≤ 1 + nd P B (pH P) (mxd P (qc k) h) := by
    unfold bqV
    by_cases z : k = 0
    · rw [if_pos z, z, q3]
      have := (lsN_le (b := 1000000) (f := fun h => nd P B (pH P) (mxd P c0 h)) (n := pH P)).2 h hh
      unfold mxD
      omega
    · rw [if_neg z]
      exact nd_step hn (q6 k q1).1 hh
  have h3 := q11 k q1
  have ek := (e k q1).2.1
  refine ⟨⟨⟨by omega, hh⟩, ⟨by rw [(e 0 m0).1]; exact q3, by rw [(e 0 m0).2.1]; exact q4⟩, by rw [eS', c1.1]; omega⟩, ⟨fun j hj => ?_, fun j h1 hj => ?_, fun x hx hS => ?_⟩, ⟨fun i j h1 hj => ?_, fun j hj => ?_, fun j hj => ?_⟩, ⟨fun i a hi ha => ?_, fun a ha => ?_⟩, fun hD => ⟨fun j hj hp hf => ?_, ?_⟩⟩
  · by_cases z : j = m
    · rw [z, ec, eu]
      have := (q6 k q1).2
      exact ⟨hy, by omega⟩
    · rw [(e j (by omega)).1, (e j (by omega)).2.1]
      exact q6 j (by omega)
  · by_cases z : j = m
    · rw [z, ec, eu]
      exact ⟨hb, by omega⟩
    · rw [(e j (by omega)).1, (e j (by omega)).2.1]
      exact q7 j h1 (by omega)
  · rw [eS] at hS
    by_cases z : x = mxd P (qc k) h
    · exact ⟨m, by omega, by omega, by rw [ec, z]⟩
    · rw [decide_eq_false z, Bool.or_false] at hS
      obtain ⟨j, j1, j2, j3⟩ := q8 x hx hS
      exact ⟨j, j1, by omega, by rw [(e j j2).1, j3]⟩
  · by_cases z : j = m
    · rw [z, eu]
      by_cases z2 : i = m
      · rw [z2, eu]; exact Nat.le_refl _
      · rw [(e i (by omega)).2.1]
        exact q10 i (by omega)
    · rw [(e j (by omega)).2.1, (e i (by omega)).2.1]
      exact q9 i j h1 (by omega)
  · rw [ek]
    by_cases z : j = m
    · rw [z, eu]; exact Nat.le_refl _
    · rw [(e j (by omega)).2.1]
      exact q10 j (by omega)
  · by_cases z : j = m
    · rw [z, eu, vm]; omega
    · rw [(e j (by omega)).2.1, v j (by omega)]
      exact q11 j (by omega)
  · rw [(e i (by omega)).1, eS, q12 i a hi ha]; rfl
  · rw [(e k q1).1, eS]
    by_cases z : a = h
    · rw [z, decide_eq_true rfl, Bool.or_true]
    · rw [q13 a (by omega)]; rfl
  · by_cases z : j = m
    · subst z
      have hp2 : qu k + nd P B (pH P) (mxd P (qc k) h) = mxD P B c0 := by
        unfold bqp at hp
        rw [vm, eu] at hp
        omega
      obtain ⟨g1, g2⟩ := bq_new hn hc q0 hD hh hp2 (fun i i1 i2 i3 => hf i i1 (by rw [(e i i1).2.1, i2, eu]) ((p i i1).mpr i3))
      rw [ec, eu, g1, ef, g2]
      exact ⟨rfl, fun _ => rfl⟩
    · have hjm : j < m := by omega
      rw [(e j hjm).1, (e j hjm).2.1, (e j hjm).2.2]
      refine (q14 hD).1 j hjm ((p j hjm).mp hp) (fun i i1 i2 i3 => hf i i1 ?_ ((p i (by omega)).mpr i3))
      rw [(e i (by omega)).2.1, (e j hjm).2.1]
      exact i2
  · obtain ⟨j, j1, j2, j3⟩ := (q14 hD).2
    exact ⟨j, by omega, by rw [(e j j1).2.1, ek]; exact j2, (p j j1).mpr j3⟩
/-- what follows of a colour gone through, the last one of its level -/
theorem bq_done (hn : pH P ≤ 10) (hc : c0 < 1000) (q : bq P B c0 qc qu qf S m k (pH P)) (hD : mxD P B c0 < 1000000) (hl : ∀ t, t < m → qu t = qu k → t ≤ k) : ∃ j, 1 ≤ j ∧ j < m ∧ qu j = qu k + 1 ∧ bqp P B c0 qc qu j := by
  have q0 := q
  obtain ⟨⟨⟨q1, q2⟩, ⟨q3, q4⟩, q5⟩, ⟨q6, q7, q8⟩, ⟨q9, q10, q11⟩, ⟨q12, q13⟩, q14⟩ := q
  obtain ⟨t, t1, t2, t3⟩ := (q14 hD).2
  obtain ⟨i, i1, i2, i3, i4⟩ : ∃ i, i < m ∧ qu i = qu k ∧ bqp P B c0 qc qu i ∧ ∀ j, j < i → qu j = qu i → ¬ bqp P B c0 qc qu j := by
    have : ∀ t, t < m → qu t = qu k → bqp P B c0 qc qu t → ∃ i, i < m ∧ qu i = qu k ∧ bqp P B c0 qc qu i ∧ ∀ j, j < i → qu j = qu i → ¬ bqp P B c0 qc qu j := by
      intro t
      induction t using Nat.strongRecOn with
      | ind t ih =>
        intro h1 h2 h3
        by_cases z : ∃ j, j < t ∧ qu j = qu t ∧ bqp P B c0 qc qu j
        · obtain ⟨j, j1, j2, j3⟩ := z
          exact ih j j1 (by omega) (by omega) j3
        · exact ⟨t, h1, h2, h3, fun j j1 j2 j3 => z ⟨j, j1, j2, j3⟩⟩
    exact this t t1 t2 t3
  have hik := hl i i1 i2
  obtain ⟨s1, s2, s3⟩ := bq_succ hn hc q0 hD i1 i3 i4
  have ok := mxs_ok hn hc hD (qu i) s1
  have nx : mxs P B c0 (qu i + 1) = mxd P (qc i) (mxh P B (mxs P B c0 (qu i)) (mxD P B c0 - qu i)) := by
    rw [s2]; rfl
  have hS : S (mxs P B c0 (qu i + 1)) = true := by
    rw [nx]
    by_cases z : i = k
    · rw [z]
      rw [z] at ok
      exact q13 _ ok.1
    · exact q12 i _ (by omega) ok.1
  obtain ⟨j, j1, j2, j3, j4⟩ := s3 hS
  have := q10 j j2
  exact ⟨j, j1, j2, by omega, j4 (by omega)⟩
/-- on to the next colour -/
theorem bq_next (hn : pH P ≤ 10) (hc : c0 < 1000) (q : bq P B c0 qc qu qf S m k (pH P)) (hk : k + 1 < m) : bq P B c0 qc qu qf S m (k + 1) 0 := by
  have q0 := q
  obtain ⟨⟨⟨q1, q2⟩, q3, q5⟩, q6, ⟨q9, q10, q11⟩, ⟨q12, q13⟩, q14⟩ := q
  refine ⟨⟨⟨hk, Nat.zero_le _⟩, q3, q5⟩, q6, ⟨q9, fun j hj => ?_, q11⟩, ⟨fun i a hi ha => ?_, fun a ha => by omega⟩, fun hD => ⟨(q14 hD).1, ?_⟩⟩
  · have := q9 k (k + 1) (by omega) hk
    have := q10 j hj
    omega
  · by_cases z : i = k
    · rw [z]; exact q13 a ha
    · exact q12 i a (by omega) ha
  · have h1 := q9 k (k + 1) (by omega) hk
    have h2 := q10 (k + 1) hk
    by_cases z : qu (k + 1) = qu k
    · obtain ⟨j, j1, j2, j3⟩ := (q14 hD).2
      exact ⟨j, j1, by omega, j3⟩
    · obtain ⟨j, -, j2, j3, j4⟩ := bq_done hn hc q0 hD (fun t t1 t2 => by
        rcases Nat.lt_or_ge k t with y | y
        · have := q9 (k + 1) t y t1
          omega
        · exact y)
      exact ⟨j, j2, by omega, j4⟩
/-- none is left: none will do -/
theorem bq_end (hn : pH P ≤ 10) (hc : c0 < 1000) (q : bq P B c0 qc qu qf S m k (pH P)) (hk : k + 1 = m) : mxD P B c0 = 1000000 := by
  have hle : mxD P B c0 ≤ 1000000 := (lsN_le (b := 1000000) (f := fun h => nd P B (pH P) (mxd P c0 h)) (n := pH P)).1
  refine Classical.byContradiction (fun z => ?_)
  obtain ⟨j, -, j2, j3, -⟩ := bq_done hn hc q (by omega) (fun t t1 _ => by omega)
  have := q.2.2.1.1 j k (by omega) (by omega)
  omega
end BQ
