/-! THE CLASS POURS -/
theorem and_mem {P : Pal} {f : Nat} (hf : f < 2 ^ pH P) (s : Int32) : nI f &&& s = nI (f &&& memS P s) := by
  have h2 : 1 ≤ 2 ^ pH P := Nat.one_le_two_pow
  have e : f &&& (2 ^ pH P - 1) = f := by rw [Nat.and_two_pow_sub_one_eq_mod, Nat.mod_eq_of_lt hf]
  have m : memS P s &&& (2 ^ pH P - 1) = memS P s := by rw [Nat.and_two_pow_sub_one_eq_mod, Nat.mod_eq_of_lt (memS_lt s)]
  rw [← q_and, ← memS_eq, Int32.and_comm s, ← Int32.and_assoc, q_and f, e]
/-- whether a colour is borne by a set -/
def mixB (P : Pal) (s : Int32) (c : Nat) : Bool := decide (foesC P (c / 100) (c / 10 % 10) (c % 10) &&& memS P s = 0)
/-- what is reached, as it lies -/
def bqM (M : PM) (qc qu qf : Nat → Nat) (S : Nat → Bool) (m : Nat) : Prop := M.1 257 6 = nI m ∧ (∀ j, j < m → M.1 261 j = nI (qc j) ∧ M.1 262 j = nI (qu j)) ∧ (∀ j, 1 ≤ j → j < m → M.1 263 j = nI (qf j)) ∧ ∀ x, x < 1000 → M.1 260 x = bI (S x)
/-- one more -/
def upQ {α : Type} (q : Nat → α) (m : Nat) (v : α) (j : Nat) : α := if j = m then v else q j
theorem upQ_at {α : Type} (q : Nat → α) (m : Nat) (v : α) : upQ q m v m = v := if_pos rfl
theorem upQ_ne {α : Type} (q : Nat → α) {m j : Nat} (v : α) (h : j ≠ m) : upQ q m v j = q j := if_neg h
theorem s_enqueue {M : PM} {m : Nat} (h : M.1 257 6 = nI m) (hm : m ≤ 1000) (x y z : Int32) : f_X0_enqueue x y z M = some ((), hr_si (hr_si (hr_si (hr_si M 261 m x) 262 m y) 263 m z) 257 6 (nI (m + 1))) := by
  have e0 : ∀ (N : PM) (a k : Nat) (v : Int32), ¬ a = 257 → N.1 257 6 = nI m → (hr_si N a k v).1 257 6 = nI m := by
    intro N a k v ha hN
    rw [q_si1, if_neg (by omega)]
    exact hN
  have e1 := e0 M 261 m x (by omega) h
  have e2 := e0 _ 262 m y (by omega) e1
  have e3 := e0 _ 263 m z (by omega) e2
  unfold f_X0_enqueue
  rw [h, q_cl (by omega), e1, q_cl (by omega), e2, q_cl (by omega), e3]
  simp (disch := omega) only [q_lit, q_m1, q_m2, q_m1000, q_add, q_mul, q_cl, q_le, q_lt, q_eq, q_in, q_bd_some, eq_self, if_true, if_false, q_b0, q_b1, q_b01, q_bt, q_bf, q_ft, q_tf, Nat.mul_zero, Nat.add_zero, Nat.zero_add, or_true, true_or, not_true_eq_false, not_false_eq_true, reduceCtorEq, show ¬ 1001 ≤ m by omega]
section CLS
variable {a : Nat} {P : Pal} {M : PM} {qc qu qf : Nat → Nat} {S : Nat → Bool} {m k h : Nat}
theorem bqM.si {M : PM} (hM : bqM M qc qu qf S m) {b j : Nat} {v : Int32} (h0 : ¬ (b = 257 ∧ j = 6)) (h1 : b ≠ 260) (h2 : b ≠ 261) (h3 : b ≠ 262) (h4 : b ≠ 263) : bqM (hr_si M b j v) qc qu qf S m := by
  unfold bqM
  rw [si_ne _ _ _ (Ne.symm h1), si_ne _ _ _ (Ne.symm h2), si_ne _ _ _ (Ne.symm h3), si_ne _ _ _ (Ne.symm h4), q_si1]
  refine ⟨?_, hM.2⟩
  by_cases e : 257 = b
  · rw [if_pos e, if_neg (by omega)]; exact hM.1
  · rw [if_neg e]; exact hM.1
theorem bqM.add {M : PM} (hM : bqM M qc qu qf S m) (hm : 1 ≤ m) (y u f : Nat) : bqM (hr_si (hr_si (hr_si (hr_si (hr_si M 260 y (nI 1)) 261 m (nI y)) 262 m (nI u)) 263 m (nI f)) 257 6 (nI (m + 1))) (upQ qc m y) (upQ qu m u) (upQ qf m f) (fun x => S x || decide (x = y)) (m + 1) := by
  refine ⟨by rw [si_same, if_pos rfl], fun j hj => ⟨?_, ?_⟩, fun j h1 hj => ?_, fun x hx => ?_⟩
  · rw [si_ne _ _ _ (by omega), si_ne _ _ _ (by omega), si_ne _ _ _ (by omega), si_same]
    by_cases e : j = m
    · rw [if_pos e, e, upQ_at]
    · rw [if_neg e, si_ne _ _ _ (by omega), upQ_ne _ _ e]
      exact (hM.2.1 j (by omega)).1
  · rw [si_ne _ _ _ (by omega), si_ne _ _ _ (by omega), si_same]
    by_cases e : j = m
    · rw [if_pos e, e, upQ_at]
    · rw [if_neg e, si_ne _ _ _ (by omega), si_ne _ _ _ (by omega), upQ_ne _ _ e]
      exact (hM.2.1 j (by omega)).2
  · rw [si_ne _ _ _ (by omega), si_same]
    by_cases e : j = m
    · rw [if_pos e, e, upQ_at]
    · rw [if_neg e, si_ne _ _ _ (by omega), si_ne _ _ _ (by omega), si_ne _ _ _ (by omega), upQ_ne _ _ e]
      exact hM.2.2.1 j h1 (by omega)
  · rw [si_ne _ _ _ (by omega), si_ne _ _ _ (by omega), si_ne _ _ _ (by omega), si_ne _ _ _ (by omega), si_same]
    dsimp only
    by_cases e : x = y
    · rw [if_pos e, decide_eq_true e, Bool.or_true]; rfl
    · rw [if_neg e, decide_eq_false e, Bool.or_false]
      exact hM.2.2.2 x hx
theorem s_pour115 (hP : rP M a P) (ha : a + 9 ≤ 240) (hM : bqM M qc qu qf S m) (hk : k < m) (hm : m ≤ 1000) (hu : qu k ≤ 1000) {r y b f c : Nat} (hr : r ≤ 9) (hy : y ≤ 9) (hb : b ≤ 9) (hc : c = 100 * r + 10 * y + b) (s a3 : Int32) : ∃ M', f_X0_pour_115 a (nI k) a3 s (nI r) (nI y) (nI b) (nI c) (nI f) (hr_si M 260 c (nI 1)) = some (bI (mixB P s c), M') ∧ bqM M' (upQ qc m c) (upQ qu m (qu k + 1)) (upQ qf m f) (fun x => S x || decide (x = c)) (m + 1) ∧ (mixB P s c = true → M'.1 257 7 = nI (qu k + 1) ∧ M'.1 257 8 = nI f ∧ M'.1 257 9 = nI c) := by
  have e0 : (hr_si M 260 c (nI 1)).1 257 6 = nI m := by rw [si_ne _ _ _ (by omega)]; exact hM.1
  have eu : (hr_si M 260 c (nI 1)).1 262 k = nI (qu k) := by rw [si_ne _ _ _ (by omega)]; exact (hM.2.1 k hk).2
  have hadd := hM.add (by omega) c (qu k + 1) f
  have hP2 : rP (hr_si (hr_si (hr_si (hr_si (hr_si M 260 c (nI 1)) 261 m (nI c)) 262 m (nI (qu k + 1))) 263 m (nI f)) 257 6 (nI (m + 1))) a P := hP.agr (fun d h1 h2 => by
    rw [si_ne _ _ _ (by omega), si_ne _ _ _ (by omega), si_ne _ _ _ (by omega), si_ne _ _ _ (by omega), si_ne _ _ _ (by omega)])
  have eu2 := (hadd.2.1 k (by omega)).2
  rw [upQ_ne _ _ (show k ≠ m by omega)] at eu2
  have hfl : foesC P r y b < 2 ^ pH P := bset_lt _ _
  have hBe : mixB P s c = decide (foesC P r y b &&& memS P s = 0) := by
    unfold mixB
    rw [show c / 100 = r by omega, show c / 10 % 10 = y by omega, show c % 10 = b by omega]
  have hml : foesC P r y b &&& memS P s < 2 ^ pH P := Nat.lt_of_le_of_lt Nat.and_le_left hfl
  have h3 : 2 ^ pH P ≤ 2 ^ 10 := Nat.pow_le_pow_right (by decide) hP.1.2.1
  unfold f_X0_pour_115
  rw [if_pos (q_in (by omega) (by omega)), q_cl (by omega), eu, q_lit 1, gO 1, q_add, s_enqueue e0 hm, q_bd_some, s_foesOfColour hP2 hr hy hb, q_bd_some, and_mem hfl]
  by_cases z : foesC P r y b &&& memS P s = 0
  · rw [if_pos (show nI (foesC P r y b &&& memS P s) = 0 by rw [z]; rfl), if_pos (q_in (by omega) (by omega)), hBe, decide_eq_true z]
    refine ⟨_, rfl, ?_, fun _ => ⟨?_, ?_, ?_⟩⟩
    · exact ((hadd.si (by omega) (by omega) (by omega) (by omega) (by omega)).si (by omega) (by omega) (by omega) (by omega) (by omega)).si (by omega) (by omega) (by omega) (by omega) (by omega)
    · rw [si_same, if_neg (by omega), si_same, if_pos rfl, si_ne _ _ _ (show 262 ≠ 257 by omega), eu2, q_add]
    · rw [si_same, if_pos rfl]
    · rw [si_same, if_neg (by omega), si_same, if_neg (by omega), si_same, if_pos rfl]
  · rw [if_neg (show ¬ nI (foesC P r y b &&& memS P s) = 0 from fun z2 => z ((q_eq (by omega) (by omega)).mp z2)), hBe, decide_eq_false z]
    exact ⟨_, rfl, hadd, fun z2 => by cases z2⟩
theorem s_pour (hP : rP M a P) (ha : a + 9 ≤ 240) (hM : bqM M qc qu qf S m) (hk : k < m) (hk0 : qu k = 0 → k = 0) (hm : m ≤ 1001) (hc : qc k < 1000) (hu : qu k ≤ 1000) (hu0 : k = 0 → qu k = 0) (hh : h < pH P) (s : Int32) :
    (S (mxd P (qc k) h) = true → f_X0_pour a (nI k) (nI h) s M = some (nI 0, M)) ∧ (S (mxd P (qc k) h) = false → m ≤ 1000 → ∃ M', f_X0_pour a (nI k) (nI h) s M = some (bI (mixB P s (mxd P (qc k) h)), M') ∧ bqM M' (upQ qc m (mxd P (qc k) h)) (upQ qu m (qu k + 1)) (upQ qf m (if qu k = 0 then h else qf k)) (fun x => S x || decide (x = mxd P (qc k) h)) (m + 1) ∧ (mixB P s (mxd P (qc k) h) = true → M'.1 257 7 = nI (qu k + 1) ∧ M'.1 257 8 = nI (if qu k = 0 then h else qf k) ∧ M'.1 257 9 = nI (mxd P (qc k) h))) := by
  have h9 := pP_le hP.1.2
  have h10 := hP.1.2.1
  have p0 := h9 (3 * h)
  have p1 := h9 (3 * h + 1)
  have p2 := h9 (3 * h + 2)
  obtain ⟨k1, k2⟩ := hM.2.1 k hk
  have hy := mxd_lt P (qc k) h
  have eS := hM.2.2.2 _ hy
  have e3 : k ≠ 0 → (hr_si M 260 (mxd P (qc k) h) (nI 1)).1 263 k = nI (qf k) := fun z => by rw [si_ne _ _ _ (by omega)]; exact hM.2.2.1 k (by omega) hk
  have e2 : (hr_si M 260 (mxd P (qc k) h) (nI 1)).1 262 k = nI (qu k) := by rw [si_ne _ _ _ (by omega)]; exact k2
  have ex : 100 * ((qc k / 100 + pP P (3 * h)) % 10) + 10 * ((qc k / 10 + pP P (3 * h + 1)) % 10) + (qc k + pP P (3 * h + 2)) % 10 = mxd P (qc k) h := rfl
  have r1 : (qc k / 100 + pP P (3 * h)) % 10 < 10 := Nat.mod_lt _ (by omega)
  have r2 : (qc k / 10 + pP P (3 * h + 1)) % 10 < 10 := Nat.mod_lt _ (by omega)
  have r3 : (qc k + pP P (3 * h + 2)) % 10 < 10 := Nat.mod_lt _ (by omega)
  unfold f_X0_pour
  rw [if_pos hP.1.1, q_cl (show k < 2147483648 by omega)]
  rw [show (0 : Int32) = nI 0 from rfl, show (1 : Int32) = nI 1 from rfl, show (2 : Int32) = nI 2 from rfl, s_part hP hh (by omega), q_bd_some, s_part hP hh (by omega), q_bd_some, s_part hP hh (by omega), q_bd_some, k1, Nat.add_zero]
  rw [q_lit 100, q_lit 10, gO 100, gO 10, q_div (by omega) (by omega) (by omega), q_div (by omega) (by omega) (by omega), q_add, q_add, q_add, q_rem (by omega) (by omega) (by omega), q_rem (by omega) (by omega) (by omega), q_rem (by omega) (by omega) (by omega), q_mul, q_mul, q_add, q_add, ex, q_cl (by omega), if_pos (q_in (by omega) (by omega)), if_pos (q_in (by omega) (by omega)), if_pos (q_in (by omega) (by omega)), if_pos (q_in (by omega) (by omega)), eS]
  constructor
  · intro z
    rw [z, if_neg (by decide)]
  · intro z hm2
    rw [z, if_pos (show bI false = nI 0 from rfl), if_pos (q_in (by omega) (by omega)), if_pos (q_in (by omega) (by omega)), show vp_nar .boolean (nI 1) = nI 1 from nar_b.2, e2]
    by_cases w : qu k = 0
    · rw [w, if_pos rfl, if_pos rfl]
      have := s_pour115 hP ha hM hk hm2 hu (r := (qc k / 100 + pP P (3 * h)) % 10) (y := (qc k / 10 + pP P (3 * h + 1)) % 10) (b := (qc k + pP P (3 * h + 2)) % 10) (f := h) (c := mxd P (qc k) h) (by omega) (by omega) (by omega) rfl s (nI h)
      rw [w] at this
      exact this
    · rw [if_neg (fun z2 => w ((q_eq (by omega) (by omega)).mp z2)), if_pos (q_in (by omega) (by omega)), e3 (fun z2 => w (hu0 z2)), if_neg w]
      exact s_pour115 hP ha hM hk hm2 hu (by omega) (by omega) (by omega) rfl s (nI h)
end CLS
