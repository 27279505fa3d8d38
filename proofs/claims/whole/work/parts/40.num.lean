/-! NUMBERS of the pure memory: naturals (nI), integers (zI), booleans (bI), longs (lN); bits; the functions' results -/
def zI (i : Int) : Int32 := Int32.ofInt i
def bI (b : Bool) : Int32 := if b then nI 1 else nI 0
theorem q_lit (n : Nat) : (OfNat.ofNat n : Int32) = nI (OfNat.ofNat n) := rfl
theorem q_add (a b : Nat) : nI a + nI b = nI (a + b) := nI_add a b
theorem q_mul (a b : Nat) : nI a * nI b = nI (a * b) := pk_mul a b
theorem q_sub {a b : Nat} (h : b ≤ a) : nI a - nI b = nI (a - b) := pk_sub h
theorem q_cl {n : Nat} (h : n < 2147483648) : (nI n).toNatClampNeg = n := nI_clamp h
theorem q_le {a b : Nat} (ha : a < 2147483648) (hb : b < 2147483648) : nI a ≤ nI b ↔ a ≤ b := nI_leI ha hb
theorem q_lt {a b : Nat} (ha : a < 2147483648) (hb : b < 2147483648) : nI a < nI b ↔ a < b := nI_ltI ha hb
theorem q_eq {a b : Nat} (ha : a < 2147483648) (hb : b < 2147483648) : nI a = nI b ↔ a = b := nI_eq ha hb
theorem q_in {i n : Nat} (h : i < n) (hn : n ≤ 2147483648) : inB (nI i) n = true := by
  simp only [inB, Bool.and_eq_true, decide_eq_true_eq]
  exact ⟨nI_pos (by omega), by rw [nI_clamp (by omega)]; exact h⟩
theorem q_nz (n : Nat) : nI n = zI n := Int32.ofInt_eq_ofNat.symm
theorem q_neg (n : Nat) : -(nI n) = zI (-(n : Int)) := by
  rw [q_nz]
  exact (Int32.ofInt_neg _).symm
theorem q_m1 : -(nI 1) = zI (-1) := by decide
theorem q_m2 : -(nI 2) = zI (-2) := by decide
theorem q_m1000 : -(nI 1000) = zI (-1000) := by decide
theorem q_zadd (a b : Int) : zI a + zI b = zI (a + b) := (Int32.ofInt_add a b).symm
theorem q_zsub (a b : Int) : zI a - zI b = zI (a - b) := (Int32.ofInt_sub a b).symm
theorem q_zmul (a b : Int) : zI a * zI b = zI (a * b) := (Int32.ofInt_mul a b).symm
theorem q_nzadd (a : Nat) (b : Int) : nI a + zI b = zI (a + b) := by rw [q_nz, q_zadd]
theorem q_znadd (a : Int) (b : Nat) : zI a + nI b = zI (a + b) := by rw [q_nz, q_zadd]
theorem q_nzsub (a : Nat) (b : Int) : nI a - zI b = zI (a - b) := by rw [q_nz, q_zsub]
theorem q_znsub (a : Int) (b : Nat) : zI a - nI b = zI (a - b) := by rw [q_nz, q_zsub]
theorem q_nsub (a b : Nat) : nI a - nI b = zI (a - b) := by rw [q_nz, q_nz, q_zsub]
theorem q_zInt {z : Int} (h : -2147483648 ≤ z ∧ z < 2147483648) : (zI z).toInt = z := Int32.toInt_ofInt_of_le h.1 h.2
theorem q_nInt {n : Nat} (h : n < 2147483648) : (nI n).toInt = n := nI_toInt h
theorem q_zcl {z : Int} (h : -2147483648 ≤ z ∧ z < 2147483648) : (zI z).toNatClampNeg = z.toNat := Int32.toNatClampNeg_ofInt_of_le h.1 h.2
theorem q_zle {a b : Int} (ha : -2147483648 ≤ a ∧ a < 2147483648) (hb : -2147483648 ≤ b ∧ b < 2147483648) : zI a ≤ zI b ↔ a ≤ b := by rw [Int32.le_iff_toInt_le, q_zInt ha, q_zInt hb]
theorem q_zlt {a b : Int} (ha : -2147483648 ≤ a ∧ a < 2147483648) (hb : -2147483648 ≤ b ∧ b < 2147483648) : zI a < zI b ↔ a < b := by rw [Int32.lt_iff_toInt_lt, q_zInt ha, q_zInt hb]
theorem q_zeq {a b : Int} (ha : -2147483648 ≤ a ∧ a < 2147483648) (hb : -2147483648 ≤ b ∧ b < 2147483648) : zI a = zI b ↔ a = b := by rw [← Int32.toInt_inj, q_zInt ha, q_zInt hb]
theorem q_nzle {a : Nat} {b : Int} (ha : a < 2147483648) (hb : -2147483648 ≤ b ∧ b < 2147483648) : nI a ≤ zI b ↔ (a : Int) ≤ b := by rw [q_nz, q_zle (by omega) hb]
theorem q_znle {a : Int} {b : Nat} (ha : -2147483648 ≤ a ∧ a < 2147483648) (hb : b < 2147483648) : zI a ≤ nI b ↔ a ≤ (b : Int) := by rw [q_nz, q_zle ha (by omega)]
theorem q_nzlt {a : Nat} {b : Int} (ha : a < 2147483648) (hb : -2147483648 ≤ b ∧ b < 2147483648) : nI a < zI b ↔ (a : Int) < b := by rw [q_nz, q_zlt (by omega) hb]
theorem q_znlt {a : Int} {b : Nat} (ha : -2147483648 ≤ a ∧ a < 2147483648) (hb : b < 2147483648) : zI a < nI b ↔ a < (b : Int) := by rw [q_nz, q_zlt ha (by omega)]
theorem q_nzeq {a : Nat} {b : Int} (ha : a < 2147483648) (hb : -2147483648 ≤ b ∧ b < 2147483648) : nI a = zI b ↔ (a : Int) = b := by rw [q_nz, q_zeq (by omega) hb]
theorem q_zneq {a : Int} {b : Nat} (ha : -2147483648 ≤ a ∧ a < 2147483648) (hb : b < 2147483648) : zI a = nI b ↔ a = (b : Int) := by rw [q_nz, q_zeq ha (by omega)]
/-- any int is one of these -/
theorem q_any (x : Int32) : x < 0 ∨ ∃ n : Nat, n < 2147483648 ∧ x = nI n := by
  by_cases h : x < 0
  · exact Or.inl h
  · obtain ⟨j, h1, h2⟩ := nI_of h
    exact Or.inr ⟨j, h1, h2⟩
theorem q_anyz (x : Int32) : ∃ z : Int, (-2147483648 ≤ z ∧ z < 2147483648) ∧ x = zI z := ⟨x.toInt, ⟨Int32.le_toInt x, Int32.toInt_lt x⟩, (Int32.ofInt_toInt x).symm⟩
theorem q_div {a d : Nat} (ha : a < 2147483648) (h0 : 0 < d) (hd : d < 2147483648) : nI a / nI d = nI (a / d) := pk_div ha h0 hd
theorem q_rem {a d : Nat} (ha : a < 2147483648) (h0 : 0 < d) (hd : d < 2147483648) : jr (nI a) (nI d) = nI (a % d) := pk_rem ha h0 hd
/-! booleans -/
theorem q_b0 (b : Bool) : (bI b = nI 0) = (b = false) := by cases b <;> decide
theorem q_b1 (b : Bool) : (bI b = nI 1) = (b = true) := by cases b <;> decide
theorem q_b01 (b : Bool) : (b = false ∨ b = true) = True := by cases b <;> simp
theorem q_bt : bI true = nI 1 := rfl
theorem q_bf : bI false = nI 0 := rfl
theorem q_bb (a b : Bool) : (bI a = bI b) = (a = b) := by cases a <;> cases b <;> decide
theorem q_ft : (false = true) = False := by simp
theorem q_tf : (true = false) = False := by simp
/-! Math's own -/
theorem q_ja {a : Nat} (h : a < 2147483648) : ja (nI a) = nI a := by
  unfold ja
  rw [if_pos (nI_pos' h)]
theorem q_jaz {z : Int} (h : -2147483648 < z ∧ z < 2147483648) : ja (zI z) = nI z.natAbs := by
  unfold ja
  rw [q_lit, show (OfNat.ofNat 0 : Nat) = 0 from rfl, q_nz, q_nz]
  by_cases hz : 0 ≤ z
  · rw [if_pos ((q_zle (by omega) (by omega)).mpr (by omega))]
    congr 1
    omega
  · rw [if_neg (fun q => hz (by have := (q_zle (by omega) (by omega)).mp q; omega)), q_zsub]
    congr 1
    omega
theorem q_jx {a b : Nat} (ha : a < 2147483648) (hb : b < 2147483648) : jx (nI a) (nI b) = nI (max a b) := by
  unfold jx
  by_cases h : a < b
  · rw [if_pos ((q_lt ha hb).mpr h)]
    congr 1
    omega
  · rw [if_neg (fun q => h ((q_lt ha hb).mp q))]
    congr 1
    omega
theorem q_jn {a b : Nat} (ha : a < 2147483648) (hb : b < 2147483648) : jn (nI a) (nI b) = nI (min a b) := by
  unfold jn
  by_cases h : b < a
  · rw [if_pos ((q_lt hb ha).mpr h)]
    congr 1
    omega
  · rw [if_neg (fun q => h ((q_lt hb ha).mp q))]
    congr 1
    omega
/-! bits -/
theorem q_bv (a : Nat) : (nI a).toBitVec = BitVec.ofNat 32 a := rfl
theorem q_and (a b : Nat) : nI a &&& nI b = nI (a &&& b) := by
  apply Int32.toBitVec_inj.1
  show BitVec.ofNat 32 a &&& BitVec.ofNat 32 b = BitVec.ofNat 32 (a &&& b)
  apply BitVec.eq_of_getLsbD_eq
  intro i hi
  simp [hi]
theorem q_or (a b : Nat) : nI a ||| nI b = nI (a ||| b) := by
  apply Int32.toBitVec_inj.1
  show BitVec.ofNat 32 a ||| BitVec.ofNat 32 b = BitVec.ofNat 32 (a ||| b)
  apply BitVec.eq_of_getLsbD_eq
  intro i hi
  simp [hi]
/-- the bits of the one without the other's -/
def bd (a b : Nat) : Nat := a ^^^ (a &&& b)
theorem bd_bit (a b i : Nat) : (bd a b).testBit i = (a.testBit i && !b.testBit i) := by
  unfold bd
  rw [Nat.testBit_xor, Nat.testBit_and]
  cases a.testBit i <;> cases b.testBit i <;> rfl
theorem bd_le (a b : Nat) : bd a b ≤ a := by
  apply Nat.le_of_testBit
  intro i h
  rw [bd_bit, Bool.and_eq_true] at h
  exact h.1
theorem q_m1bv : (zI (-1)).toBitVec = BitVec.allOnes 32 := by decide
theorem q_bd (a b : Nat) : nI a &&& (nI b ^^^ zI (-1)) = nI (bd a b) := by
  apply Int32.toBitVec_inj.1
  rw [Int32.toBitVec_and, Int32.toBitVec_xor, q_m1bv]
  show BitVec.ofNat 32 a &&& (BitVec.ofNat 32 b ^^^ BitVec.allOnes 32) = BitVec.ofNat 32 (bd a b)
  apply BitVec.eq_of_getLsbD_eq
  intro i hi
  rw [BitVec.getLsbD_and, BitVec.getLsbD_xor, BitVec.getLsbD_allOnes, BitVec.getLsbD_ofNat, BitVec.getLsbD_ofNat, BitVec.getLsbD_ofNat, bd_bit]
  simp [hi]
theorem q_sl : ∀ n, n < 32 → ((nI n &&& 31).toBitVec.smod 32).toNat = n := by decide +kernel
theorem q_js {a k : Nat} (ha : a < 2147483648) (hk : k < 32) : js (nI a) (nI k) = nI (a >>> k) := by
  unfold js
  rw [pk_shrN ha (nI k &&& 31) k (q_sl k hk), Nat.shiftRight_eq_div_pow]
theorem q_jl {k : Nat} (hk : k < 31) : jl (nI 1) (nI k) = nI (2 ^ k) := by
  have h2 : 2 ^ k < 2 ^ 32 := Nat.pow_lt_pow_right (by decide) (by omega)
  unfold jl
  rw [pk_shlN (nI k &&& 31) k (q_sl k (by omega)) (by omega), Nat.one_mul]
theorem q_bit {a k : Nat} (ha : a < 2147483648) (hk : k < 32) : js (nI a) (nI k) &&& nI 1 = bI (a.testBit k) := by
  rw [q_js ha hk, q_and, Nat.and_one_is_mod, Nat.shiftRight_eq_div_pow, Nat.testBit_eq_decide_div_mod_eq]
  rcases Nat.mod_two_eq_zero_or_one (a / 2 ^ k) with h | h <;> rw [h] <;> rfl
theorem q_bitz {z : Int} {k : Nat} (hk : k < 32) : js (zI z) (nI k) &&& nI 1 = bI ((zI z).toBitVec.getLsbD k) := by
  apply Int32.toBitVec_inj.1
  have e : (js (zI z) (nI k)).toBitVec = (zI z).toBitVec.sshiftRight k := by
    unfold js
    rw [Int32.toBitVec_shiftRight]
    show (zI z).toBitVec.sshiftRight ((nI k &&& 31).toBitVec.smod 32).toNat = _
    rw [q_sl k hk]
  rw [Int32.toBitVec_and, e]
  apply BitVec.eq_of_getLsbD_eq
  intro i hi
  rw [BitVec.getLsbD_and, BitVec.getLsbD_sshiftRight]
  cases i with
  | zero =>
    cases h : (zI z).toBitVec.getLsbD k <;> simp [h, hk, bI, q_bv]
  | succ i =>
    cases h : (zI z).toBitVec.getLsbD k <;> simp [h, hk, bI, q_bv]
/-! results -/
theorem q_bd_some {α β : Type} (v : α) (M : PM) (f : α → PM → Option β) : hr_bd (some (v, M)) f = f v M := rfl
theorem q_si1 (M : PM) (a k : Nat) (v : Int32) (x y : Nat) : (hr_si M a k v).1 x y = if x = a then (if y = k then v else M.1 x y) else M.1 x y := rfl
theorem q_si2 (M : PM) (a k : Nat) (v : Int32) : (hr_si M a k v).2 = M.2 := rfl
theorem q_sl1 (M : PM) (a k : Nat) (v : Int64) : (hr_sl M a k v).1 = M.1 := rfl
theorem q_sl2 (M : PM) (a k : Nat) (v : Int64) (x y : Nat) : (hr_sl M a k v).2.1 x y = if x = a then (if y = k then v else M.2.1 x y) else M.2.1 x y := rfl
theorem q_sl3 (M : PM) (a k : Nat) (v : Int64) : (hr_sl M a k v).2.2 = M.2.2 := rfl
theorem q_sr1 (M : PM) (a : Nat) (f : Nat → Int32) (x : Nat) : (hr_sr M a f).1 x = if x = a then f else M.1 x := rfl
theorem q_sr2 (M : PM) (a : Nat) (f : Nat → Int32) : (hr_sr M a f).2 = M.2 := rfl
/-- it comes to an end, and there so -/
def hw {α : Type} (x : Option (α × PM)) (Q : α → PM → Prop) : Prop := ∃ v M, x = some (v, M) ∧ Q v M
theorem hw.ok {α : Type} {v : α} {M : PM} {Q : α → PM → Prop} (h : Q v M) : hw (some (v, M)) Q := ⟨v, M, rfl, h⟩
theorem hw.bd {α β : Type} {x : Option (α × PM)} {f : α → PM → Option (β × PM)} {Q : β → PM → Prop} (h : hw x (fun v M => hw (f v M) Q)) : hw (hr_bd x f) Q := by
  obtain ⟨v, M, e, h⟩ := h
  rw [e]
  exact h
theorem hw.mono {α : Type} {x : Option (α × PM)} {P Q : α → PM → Prop} (h : hw x P) (hq : ∀ v M, P v M → Q v M) : hw x Q := by
  obtain ⟨v, M, e, h⟩ := h
  exact ⟨v, M, e, hq v M h⟩
theorem hw.fr {α : Type} {x : Option (α × PM)} {Q : α → PM → Prop} {W : List (Nat × Nat)} {M0 : PM} (h : hw x Q) (hf : ∀ r, x = some r → hr_fr W M0 r.2) : hw x (fun v M => Q v M ∧ hr_fr W M0 M) := by
  obtain ⟨v, M, e, h⟩ := h
  exact ⟨v, M, e, h, hf _ e⟩
/-! sums and counts -/
def sumN (f : Nat → Nat) : Nat → Nat
  | 0 => 0
  | n + 1 => sumN f n + f n
def cnt (p : Nat → Bool) : Nat → Nat
  | 0 => 0
  | n + 1 => cnt p n + (if p n then 1 else 0)
def exb (p : Nat → Bool) : Nat → Bool
  | 0 => false
  | n + 1 => exb p n || p n
def fol {α : Type} (g : Nat → α → α) (a : α) : Nat → α
  | 0 => a
  | n + 1 => g n (fol g a n)
theorem exb_iff {p : Nat → Bool} {n : Nat} : exb p n = true ↔ ∃ k, k < n ∧ p k = true := by
  induction n with
  | zero => simp [exb]
  | succ n ih =>
    simp only [exb, Bool.or_eq_true, ih]
    constructor
    · rintro (⟨k, h1, h2⟩ | h)
      · exact ⟨k, by omega, h2⟩
      · exact ⟨n, by omega, h⟩
    · rintro ⟨k, h1, h2⟩
      by_cases hk : k = n
      · subst hk; exact Or.inr h2
      · exact Or.inl ⟨k, by omega, h2⟩
theorem exb_no {p : Nat → Bool} {n : Nat} : exb p n = false ↔ ∀ k, k < n → p k = false := by
  rw [← Bool.not_eq_true, exb_iff]
  constructor
  · intro h k hk
    cases hp : p k
    · rfl
    · exact absurd ⟨k, hk, hp⟩ h
  · rintro h ⟨k, h1, h2⟩
    rw [h k h1] at h2
    cases h2
theorem cnt_le (p : Nat → Bool) (n : Nat) : cnt p n ≤ n := by
  induction n with
  | zero => exact Nat.le_refl _
  | succ n ih =>
    unfold cnt
    split <;> omega
theorem sumN_le {f : Nat → Nat} {b n : Nat} (h : ∀ k, k < n → f k ≤ b) : sumN f n ≤ n * b := by
  induction n with
  | zero => exact Nat.zero_le _
  | succ n ih =>
    have h1 := ih (fun k hk => h k (by omega))
    have h2 := h n (by omega)
    rw [Nat.succ_mul]
    unfold sumN
    omega
theorem sumN_congr {f g : Nat → Nat} {n : Nat} (h : ∀ k, k < n → f k = g k) : sumN f n = sumN g n := by
  induction n with
  | zero => rfl
  | succ n ih =>
    unfold sumN
    rw [ih (fun k hk => h k (by omega)), h n (by omega)]
theorem cnt_congr {f g : Nat → Bool} {n : Nat} (h : ∀ k, k < n → f k = g k) : cnt f n = cnt g n := by
  induction n with
  | zero => rfl
  | succ n ih =>
    unfold cnt
    rw [ih (fun k hk => h k (by omega)), h n (by omega)]
theorem exb_congr {f g : Nat → Bool} {n : Nat} (h : ∀ k, k < n → f k = g k) : exb f n = exb g n := by
  induction n with
  | zero => rfl
  | succ n ih =>
    unfold exb
    rw [ih (fun k hk => h k (by omega)), h n (by omega)]
theorem FU_lt {n : Nat} (h : n < 4000) : n < FU := h
