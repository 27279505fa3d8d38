/-! RULES for runs of the pure machine -/
theorem hr_le_refl : ∀ a : PL, hr_le a a
  | [] => trivial
  | none :: a => hr_le_refl a
  | some _ :: a => ⟨rfl, hr_le_refl a⟩
theorem hr_ex_mono : ∀ (n n' m pc : Nat) (ls : PL) (st : List Value) (M : PM) (r : Option Value × PM), n ≤ n' → hr_ex n m pc ls st M r → hr_ex n' m pc ls st M r := by
  intro n
  induction n with
  | zero => intro n' m pc ls st M r _ h; exact h.elim
  | succ n ih =>
    intro n' m pc ls st M r hn h
    match n', hn with
    | n' + 1, hn =>
      have hn' : n ≤ n' := by omega
      unfold hr_ex at h ⊢
      obtain ⟨ls0, hle, h⟩ := h
      refine ⟨ls0, hle, ?_⟩
      split at h
      · exact h.elim
      · exact h.elim
      · split at h
        · exact h.elim
        · split at h
          · exact h
          · split at h
            · split at h
              · obtain ⟨h1, h2, v, M1, h3, h4⟩ := h
                exact ⟨h1, h2, v, M1, ih _ _ _ _ _ _ _ hn' h3, ih _ _ _ _ _ _ _ hn' h4⟩
              · exact h.elim
            · obtain ⟨h1, v, M1, h3, h4⟩ := h
              exact ⟨h1, v, M1, ih _ _ _ _ _ _ _ hn' h3, ih _ _ _ _ _ _ _ hn' h4⟩
            · split at h
              · exact h.elim
              · exact ⟨h.1, ih _ _ _ _ _ _ _ hn' h.2⟩
def hr_G (m pc : Nat) (ls : PL) (st : List Value) (M : PM) (r : Option Value × PM) : Prop := ∃ n, hr_ex n m pc ls st M r
/-- the block's first instruction is neither a call nor a return -/
def hr_hd (o : Nat) (rt : Option FieldType) (blk : List (Instr × Nat)) (st : List Value) : Bool := match blk with
  | (i, len) :: _ => hr_ln i len && ((hr_ret rt i st).isNone && (hr_call o i).isNone)
  | [] => false
theorem hr_Gle {m pc : Nat} {ls lsx : PL} {st : List Value} {M : PM} {r : Option Value × PM} (hle : hr_le ls lsx) (k : hr_G m pc ls st M r) : hr_G m pc lsx st M r := by
  obtain ⟨n, h⟩ := k
  match n, h with
  | n + 1, h =>
    refine ⟨n + 1, ?_⟩
    unfold hr_ex at h ⊢
    obtain ⟨ls0, h0, h⟩ := h
    refine ⟨ls0, ?_, h⟩
    have tr : ∀ {a b c : PL}, hr_le a b → hr_le b c → hr_le a c := by
      intro a
      induction a with
      | nil => intro b c h1 h2; cases b <;> cases c <;> first | trivial | exact h1.elim | exact h2.elim
      | cons x a ih =>
        intro b c h1 h2
        cases b with
        | nil => cases x <;> exact h1.elim
        | cons y b =>
          cases c with
          | nil => cases y <;> exact h2.elim
          | cons z c =>
            cases x with
            | none =>
              cases y with
              | none => exact ih (b := b) (c := c) h1 h2
              | some y => exact ih (b := b) (c := c) h1 h2.2
            | some x =>
              cases y with
              | none => exact absurd h1.1 (by simp)
              | some y => exact ⟨h1.1.trans h2.1, ih (b := b) (c := c) h1.2 h2.2⟩
    exact tr h0 hle
/-- what the tables say of a method -/
def hr_mf (m o d : Nat) (rt : Option FieldType) (nL np : Nat) (bk : hr_Bk) : Prop := hr_mO m = o ∧ hr_mD m = d ∧ hr_mR m = rt ∧ hr_mV m = nL ∧ hr_mP m = np ∧ hr_mB m = bk
theorem hr_Grun {m o d nL np : Nat} {rt : Option FieldType} {bk : hr_Bk} (mf : hr_mf m o d rt nL np bk) {pc : Nat} {ls : PL} {st : List Value} {M : PM} {r : Option Value × PM} {blk : List (Instr × Nat)} {P : Prop} {pc' : Nat} {ls' : PL} {st' : List Value} {M' : PM} (hb : bk.lookup pc = some blk) (hh : hr_hd o rt blk st = true) (hr : hr_run o d blk pc ls st M = some (P, pc', ls', st', M')) (hP : P) (k : hr_G m pc' ls' st' M' r) : hr_G m pc ls st M r := by
  obtain ⟨n, h⟩ := k
  refine ⟨n + 1, ?_⟩
  obtain ⟨e1, e2, e3, e4, e5, e6⟩ := mf
  unfold hr_ex
  refine ⟨ls, hr_le_refl ls, ?_⟩
  rw [e6, hb]
  match blk, hh, hr with
  | (i, len) :: is, hh, hr =>
    simp only [hr_hd, Bool.and_eq_true, Option.isNone_iff_eq_none] at hh
    simp only [hh.1, e1, e2, e3, hh.2.1, hh.2.2, hr]
    exact ⟨hP, h⟩
theorem hr_Gret {m o d nL np : Nat} {rt : Option FieldType} {bk : hr_Bk} (mf : hr_mf m o d rt nL np bk) {pc : Nat} {ls : PL} {st : List Value} {M : PM} {i : Instr} {len : Nat} {is : List (Instr × Nat)} {g : Prop} {v : Option Value} (hb : bk.lookup pc = some ((i, len) :: is)) (hl : hr_ln i len = true) (hr : hr_ret rt i st = some (g, v)) (hg : g) : hr_G m pc ls st M (v, M) := by
  obtain ⟨e1, e2, e3, e4, e5, e6⟩ := mf
  refine ⟨1, ?_⟩
  unfold hr_ex
  refine ⟨ls, hr_le_refl ls, ?_⟩
  rw [e6, hb]
  simp only [hl, e3, hr]
  exact ⟨hg, trivial⟩
def hr_stb (np d d' nL' : Nat) (as rest : List Value) (k : Nat) : Bool := decide (as.length = np + k) && (decide (d' < d) && (decide (hr_cat rest ≤ 8) && decide ((hr_ent1 as).length ≤ nL')))
theorem hr_Gcv {m o d nL np : Nat} {rt : Option FieldType} {bk : hr_Bk} (mf : hr_mf m o d rt nL np bk) {m' o' d' nL' np' : Nat} {rt' : Option FieldType} {bk' : hr_Bk} (mf' : hr_mf m' o' d' rt' nL' np' bk') {pc pc2 : Nat} {ls : PL} {st : List Value} {M : PM} {r : Option Value × PM} {i : Instr} {is : List (Instr × Nat)} {b : Nat} {as rest st2 : List Value} {v : Option Value} {M1 : PM} (hb : bk.lookup pc = some ((i, 3) :: is)) (hl : hr_ln i 3 = true) (hn : hr_ret rt i st = none) (hc : hr_call o i = some (0, m')) (hd : st.drop np' = .ref b :: rest) (ht : (st.take np').reverse = as) (hs : hr_stb np' d d' nL' (.ref b :: as) rest 1 = true) (hk : hr_K b = hr_kd o')
    (k1 : hr_G m' 0 (hr_ent nL' (.ref b :: as)) [] M (v, M1)) (h2 : v.toList ++ rest = st2) (hp : pc + 3 = pc2) (k2 : hr_G m pc2 ls st2 M1 r) : hr_G m pc ls st M r := by
  obtain ⟨n1, h1⟩ := k1
  obtain ⟨n2, h2'⟩ := k2
  obtain ⟨e1, e2, e3, e4, e5, e6⟩ := mf
  obtain ⟨f1, f2, f3, f4, f5, f6⟩ := mf'
  subst h2 hp
  refine ⟨max n1 n2 + 1, ?_⟩
  unfold hr_ex
  refine ⟨ls, hr_le_refl ls, ?_⟩
  rw [e6, hb]
  simp only [hl, e1, e3, hn, hc, f5, hd, ht, hr_sta, e2, f2, f4, f1]
  exact ⟨hs, hk, v, M1, hr_ex_mono _ _ _ _ _ _ _ _ (Nat.le_max_left _ _) h1, hr_ex_mono _ _ _ _ _ _ _ _ (Nat.le_max_right _ _) h2'⟩
theorem hr_Gcs {m o d nL np : Nat} {rt : Option FieldType} {bk : hr_Bk} (mf : hr_mf m o d rt nL np bk) {m' o' d' nL' np' : Nat} {rt' : Option FieldType} {bk' : hr_Bk} (mf' : hr_mf m' o' d' rt' nL' np' bk') {pc pc2 q : Nat} {ls : PL} {st : List Value} {M : PM} {r : Option Value × PM} {i : Instr} {is : List (Instr × Nat)} {as rest st2 : List Value} {v : Option Value} {M1 : PM} (hb : bk.lookup pc = some ((i, 3) :: is)) (hl : hr_ln i 3 = true) (hn : hr_ret rt i st = none) (hc : hr_call o i = some (q + 1, m')) (hd : st.drop np' = rest) (ht : (st.take np').reverse = as) (hs : hr_stb np' d d' nL' as rest 0 = true)
    (k1 : hr_G m' 0 (hr_ent nL' as) [] M (v, M1)) (h2 : v.toList ++ rest = st2) (hp : pc + 3 = pc2) (k2 : hr_G m pc2 ls st2 M1 r) : hr_G m pc ls st M r := by
  obtain ⟨n1, h1⟩ := k1
  obtain ⟨n2, h2'⟩ := k2
  obtain ⟨e1, e2, e3, e4, e5, e6⟩ := mf
  obtain ⟨f1, f2, f3, f4, f5, f6⟩ := mf'
  subst h2 hp
  refine ⟨max n1 n2 + 1, ?_⟩
  unfold hr_ex
  refine ⟨ls, hr_le_refl ls, ?_⟩
  rw [e6, hb]
  simp only [hl, e1, e3, hn, hc, f5, hd, ht, hr_sta, e2, f2, f4]
  exact ⟨hs, v, M1, hr_ex_mono _ _ _ _ _ _ _ _ (Nat.le_max_left _ _) h1, hr_ex_mono _ _ _ _ _ _ _ _ (Nat.le_max_right _ _) h2'⟩
theorem hr_Gif {α : Type} {c : Prop} [Decidable c] {m t f : Nat} {ls : PL} {st : List Value} {M : PM} {r : Option Value × PM} {a b : Option α} {x : α} (h : (if c then a else b) = some x) (kt : c → a = some x → hr_G m t ls st M r) (kf : ¬ c → b = some x → hr_G m f ls st M r) : hr_G m (if c then t else f) ls st M r := by
  by_cases hc : c
  · rw [if_pos hc] at h ⊢; exact kt hc h
  · rw [if_neg hc] at h ⊢; exact kf hc h
theorem hr_le_0 : hr_le [] [] := trivial
theorem hr_le_s {v : Value} {a b : PL} (h : hr_le a b) : hr_le (some v :: a) (some v :: b) := ⟨rfl, h⟩
theorem hr_le_n {w : Option Value} {a b : PL} (h : hr_le a b) : hr_le (none :: a) (w :: b) := h
theorem hr_dk {a k : Nat} (h : hr_K a = k) (hk : k < 11) : a < hr_n := hr_K_dyn (by omega)
theorem hr_11 {a k : Nat} (h : hr_K a = k) (hk : 11 ≤ k ∧ k ≤ 18) : 11 ≤ hr_K a ∧ hr_K a ≤ 18 := by rw [h]; exact hk
theorem hr_15 {a k : Nat} (h : hr_K a = k) (hk : 15 ≤ k ∧ k ≤ 18) : 15 ≤ hr_K a ∧ hr_K a ≤ 18 := by rw [h]; exact hk
def FU : Nat := 4000
def jr (x y : Int32) : Int32 := x - x / y * y
def ja (x : Int32) : Int32 := if 0 ≤ x then x else 0 - x
def jx (x y : Int32) : Int32 := if x < y then y else x
def jn (x y : Int32) : Int32 := if y < x then y else x
def ju (x y : Int32) : Int32 := (x.toUInt32 >>> (y.toUInt32 &&& Int32.toUInt32 31)).toInt32
def jl (x y : Int32) : Int32 := x <<< (y &&& 31)
def js (x y : Int32) : Int32 := x >>> (y &&& 31)
def jL (x : Int64) (y : Int32) : Int64 := x <<< (y.toInt64 &&& 63)
def hr_bd {α β : Type} (x : Option (α × PM)) (f : α → PM → Option β) : Option β := match x with
  | none => none
  | some q => f q.1 q.2
/-! taking a function's result apart -/
theorem hr_Fi {α : Type} {c X : Prop} [Decidable c] {a b : Option α} {r : α} (h : (if c then a else b) = some r) (kt : c → a = some r → X) (kf : ¬ c → b = some r → X) : X := by
  by_cases hc : c
  · rw [if_pos hc] at h; exact kt hc h
  · rw [if_neg hc] at h; exact kf hc h
theorem hr_Fg {α : Type} {c X : Prop} [Decidable c] {a : Option α} {r : α} (h : (if c then a else none) = some r) (k : c → a = some r → X) : X := by
  by_cases hc : c
  · rw [if_pos hc] at h; exact k hc h
  · rw [if_neg hc] at h; cases h
theorem hr_Fb {α β : Type} {X : Prop} {x : Option (α × PM)} {f : α → PM → Option β} {r : β} (h : hr_bd x f = some r) (k : ∀ a M, x = some (a, M) → f a M = some r → X) : X := by
  cases x with
  | none => cases h
  | some a => exact k a.1 a.2 rfl h
theorem hr_Fv {α : Type} {X : Prop} {v : Value} {a : Option α} {b : Nat → Option α} {r : α} (h : (match v with | .null => a | .ref q => b q | _ => none) = some r) (kn : v = .null → a = some r → X) (kr : ∀ q, v = .ref q → b q = some r → X) : X := by
  cases v <;> first | exact kn rfl h | exact kr _ rfl h | cases h
/-- an index in its row, as a test -/
def inB (i : Int32) (n : Nat) : Bool := decide (¬ i < 0) && decide (i.toNatClampNeg < n)
theorem inB_in {i : Int32} {n : Nat} (h : inB i n = true) : vp_in i n := by
  simp only [inB, Bool.and_eq_true, decide_eq_true_eq] at h
  exact fun z => z.elim h.1 (fun q => by omega)
theorem inB_N {i : Int32} {a n : Nat} (hn : hr_N a = n) (h : inB i n = true) : vp_in i (hr_N a) := by
  rw [hn]
  exact inB_in h
