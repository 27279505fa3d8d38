/-! TOKENS of a tape, by numbers; the class's reader goes on -/
def btN (x : Int32) : Nat := (x &&& 255).toBitVec.toNat
theorem btN_eq (x : Int32) : x &&& 255 = nI (btN x) := i_nat _
theorem btN_lt (x : Int32) : btN x < 256 := by
  have h : btN x = x.toBitVec.toNat &&& 255 := by
    unfold btN
    rw [Int32.toBitVec_and, BitVec.toNat_and]
    rfl
  rw [h]
  exact Nat.lt_of_le_of_lt Nat.and_le_right (by decide)
def blk (c : Nat) : Bool := decide (c = 10 ∨ c = 32)
def ltr (c : Nat) : Bool := decide (97 ≤ c ∧ c ≤ 122)
def dgt (c : Nat) : Bool := decide (48 ≤ c ∧ c ≤ 57)
/-- the first place from p on where it isn't so, or the end -/
def stp (B : Nat → Nat) (L : Nat) (q : Nat → Bool) : Nat → Nat → Nat
  | 0, p => p
  | f + 1, p => if p < L ∧ q (B p) = true then stp B L q f (p + 1) else p
theorem stp_ok {B : Nat → Nat} {L : Nat} {q : Nat → Bool} : ∀ f p, p ≤ L → L < f + p → p ≤ stp B L q f p ∧ stp B L q f p ≤ L ∧ (∀ i, p ≤ i → i < stp B L q f p → q (B i) = true) ∧ (stp B L q f p < L → q (B (stp B L q f p)) = false) := by
  intro f
  induction f with
  | zero => intro p h1 h2; omega
  | succ f ih =>
    intro p h1 h2
    unfold stp
    by_cases z : p < L ∧ q (B p) = true
    · rw [if_pos z]
      obtain ⟨i1, i2, i3, i4⟩ := ih (p + 1) (by omega) (by omega)
      refine ⟨by omega, i2, fun i hi hj => ?_, i4⟩
      by_cases e : i = p
      · rw [e]; exact z.2
      · exact i3 i (by omega) hj
    · rw [if_neg z]
      refine ⟨Nat.le_refl _, h1, fun i hi hj => by omega, fun h => ?_⟩
      cases hq : q (B p) with
      | false => rfl
      | true => exact absurd ⟨h, hq⟩ z
/-- a place like the last one is it -/
theorem stp_is {B : Nat → Nat} {L : Nat} {q : Nat → Bool} {p e : Nat} (hp : p ≤ L) (hL : L ≤ 600) (h1 : p ≤ e) (h2 : e ≤ L) (h3 : ∀ i, p ≤ i → i < e → q (B i) = true) (h4 : e < L → q (B e) = false) : stp B L q 601 p = e := by
  obtain ⟨s1, s2, s3, s4⟩ := stp_ok (B := B) (q := q) 601 p hp (by omega)
  rcases Nat.lt_trichotomy (stp B L q 601 p) e with z | z | z
  · have := h3 _ s1 z
    rw [s4 (by omega)] at this
    cases this
  · exact z
  · have := s3 e h1 z
    rw [h4 (by omega)] at this
    cases this
section TOK
variable (B : Nat → Nat) (L : Nat)
def sT (p : Nat) : Nat := stp B L blk 601 p
def eT (p : Nat) : Nat := stp B L (if ltr (B (sT B L p)) then ltr else dgt) 601 (sT B L p)
/-- what is there: 0 the end, 1 a word, 2 a number, 3 a semicolon, 4 something else -/
def kT (p : Nat) : Nat := if L ≤ sT B L p then 0 else if ltr (B (sT B L p)) then 1 else if dgt (B (sT B L p)) then (if eT B L p - sT B L p ≤ 2 then 2 else 4) else if B (sT B L p) = 59 then 3 else 4
def nT (p : Nat) : Nat := if L ≤ sT B L p then sT B L p else if ltr (B (sT B L p)) ∨ dgt (B (sT B L p)) then eT B L p else sT B L p + 1
def vT (p : Nat) : Nat := if eT B L p - sT B L p ≤ 1 then B (sT B L p) - 48 else 10 * (B (sT B L p) - 48) + (B (sT B L p + 1) - 48)
end TOK
theorem tok_ok {B : Nat → Nat} {L : Nat} (hL : L ≤ 600) {p : Nat} (hp : p ≤ L) : p ≤ sT B L p ∧ sT B L p ≤ L ∧ sT B L p ≤ nT B L p ∧ nT B L p ≤ L ∧ (kT B L p ≠ 0 → sT B L p < nT B L p) ∧ (kT B L p = 0 → sT B L p = L) := by
  obtain ⟨s1, s2, s3, s4⟩ := stp_ok (B := B) (q := blk) 601 p hp (by omega)
  have s1' : p ≤ sT B L p := s1
  have s2' : sT B L p ≤ L := s2
  obtain ⟨e1, e2, e3, e4⟩ := stp_ok (B := B) (q := (if ltr (B (sT B L p)) then ltr else dgt)) 601 (sT B L p) s2' (by omega)
  have e1' : sT B L p ≤ eT B L p := e1
  have e2' : eT B L p ≤ L := e2
  have e4' : eT B L p < L → (if ltr (B (sT B L p)) then ltr else dgt) (B (eT B L p)) = false := e4
  refine ⟨s1', s2', ?_, ?_, ?_, ?_⟩
  · unfold nT; split
    · omega
    · split <;> omega
  · unfold nT; split
    · omega
    · split <;> omega
  · intro hk
    unfold kT at hk
    unfold nT
    by_cases z : L ≤ sT B L p
    · rw [if_pos z] at hk; exact absurd rfl hk
    · rw [if_neg z]
      by_cases z2 : ltr (B (sT B L p)) = true ∨ dgt (B (sT B L p)) = true
      · rw [if_pos z2]
        rcases Nat.lt_or_ge (sT B L p) (eT B L p) with y | y
        · exact y
        · have ee : eT B L p = sT B L p := by omega
          have := e4' (by omega)
          rw [ee] at this
          cases hl : ltr (B (sT B L p)) with
          | true => rw [hl, if_pos rfl, hl] at this; cases this
          | false =>
            rw [hl, if_neg (by simp)] at this
            rcases z2 with z2 | z2
            · rw [hl] at z2; cases z2
            · rw [z2] at this; cases this
      · rw [if_neg z2]; omega
  · intro hk
    unfold kT at hk
    by_cases z : L ≤ sT B L p
    · omega
    · rw [if_neg z] at hk
      split at hk
      · cases hk
      · split at hk
        · split at hk <;> cases hk
        · split at hk <;> cases hk
/-! the class's reader -/
/-- the tape that is read -/
def rdT (M : PM) (B : Nat → Nat) (L : Nat) : Prop := M.2.2 = 2 ∧ M.1 223 5 = nI L ∧ ∀ i, i < 600 → M.1 2 i &&& 255 = nI (B i)
section CLS
variable {B : Nat → Nat} {L : Nat}
theorem s_byteAt {M : PM} (h : rdT M B L) (hL : L ≤ 600) (hB : ∀ i, B i < 256) {k : Nat} (hk : k < 2147483648) : f_X5_byteAt (nI k) M = some (if k < L then nI (B k) else zI (-1), M) := by
  obtain ⟨h1, h2, h3⟩ := h
  unfold f_X5_byteAt
  rw [if_neg (nI_pos hk), h2, h1, N_2, show (Int32.ofNat 600) = nI 600 from rfl, show (-1 : Int32) = zI (-1) by decide]
  by_cases z : k < L
  · rw [if_neg (fun y => by have := (q_le (by omega) (by omega)).mp y; omega), if_pos K_2, if_pos ((q_lt (by omega) (by omega)).mpr (by omega)), if_pos K_2, if_pos (q_in (by omega) (by omega)), q_cl (by omega), h3 k (by omega), if_pos z]
  · rw [if_pos ((q_le (by omega) (by omega)).mpr (by omega)), if_neg z]
theorem s_isBlank {c : Nat} (hc : c < 256) (M : PM) : f_X5_isBlank (nI c) M = some (bI (blk c), M) := by
  unfold f_X5_isBlank blk
  rw [q_lit 10, gO 10, q_lit 32, gO 32]
  by_cases z : c = 10
  · rw [if_pos (by rw [z]), decide_eq_true (Or.inl z)]; rfl
  · rw [if_neg (fun y => z ((q_eq (by omega) (by omega)).mp y))]
    by_cases z2 : c = 32
    · rw [if_pos (by rw [z2]), decide_eq_true (Or.inr z2)]; rfl
    · rw [if_neg (fun y => z2 ((q_eq (by omega) (by omega)).mp y)), decide_eq_false (by omega)]; rfl
theorem s_isBlank1 (M : PM) : f_X5_isBlank (zI (-1)) M = some (bI false, M) := by
  unfold f_X5_isBlank
  rw [if_neg (by decide), if_neg (by decide)]
  rfl
theorem s_isLetter {c : Nat} (hc : c < 256) (M : PM) : f_X5_isLetter (nI c) M = some (bI (ltr c), M) := by
  unfold f_X5_isLetter ltr
  rw [q_lit 97, gO 97, q_lit 122, gO 122]
  by_cases z : c < 97
  · rw [if_pos ((q_lt (by omega) (by omega)).mpr z), decide_eq_false (by omega)]; rfl
  · rw [if_neg (fun y => z ((q_lt (by omega) (by omega)).mp y))]
    by_cases z2 : 122 < c
    · rw [if_pos ((q_lt (by omega) (by omega)).mpr z2), decide_eq_false (by omega)]; rfl
    · rw [if_neg (fun y => z2 ((q_lt (by omega) (by omega)).mp y)), decide_eq_true (by omega)]; rfl
theorem s_isLetter1 (M : PM) : f_X5_isLetter (zI (-1)) M = some (bI false, M) := by
  unfold f_X5_isLetter
  rw [if_pos (by decide)]
  rfl
theorem s_isDigit {c : Nat} (hc : c < 256) (M : PM) : f_X5_isDigit (nI c) M = some (bI (dgt c), M) := by
  unfold f_X5_isDigit dgt
  rw [q_lit 48, gO 48, q_lit 57, gO 57]
  by_cases z : c < 48
  · rw [if_pos ((q_lt (by omega) (by omega)).mpr z), decide_eq_false (by omega)]; rfl
  · rw [if_neg (fun y => z ((q_lt (by omega) (by omega)).mp y))]
    by_cases z2 : 57 < c
    · rw [if_pos ((q_lt (by omega) (by omega)).mpr z2), decide_eq_false (by omega)]; rfl
    · rw [if_neg (fun y => z2 ((q_lt (by omega) (by omega)).mp y)), decide_eq_true (by omega)]; rfl
theorem s_isDigit1 (M : PM) : f_X5_isDigit (zI (-1)) M = some (bI false, M) := by
  unfold f_X5_isDigit
  rw [if_pos (by decide)]
  rfl
/-- what advance may write -/
abbrev advW : List (Nat × Nat) := [(223, 7), (223, 8), (223, 9), (223, 10)]
theorem rdT.fr {M M' : PM} (h : rdT M B L) {W : List (Nat × Nat)} (hf : hr_fr W M M') (h5 : hr_in W 223 5 = false) (h2 : ∀ k, hr_in W 2 k = false) : rdT M' B L := ⟨hf.2.trans h.1, (hf.at 223 5 h5).trans h.2.1, fun i hi => by rw [hf.at 2 i (h2 i)]; exact h.2.2 i hi⟩
/-- the token at p is looked at -/
def cTk (M : PM) (B : Nat → Nat) (L p : Nat) : Prop := M.1 223 6 = nI (nT B L p) ∧ M.1 223 7 = nI (kT B L p) ∧ M.1 223 8 = nI (sT B L p) ∧ (kT B L p = 2 → M.1 223 9 = nI (vT B L p))
theorem s_adv82 {M0 M : PM} (hr : rdT M0 B L) (hL : L ≤ 600) (hB : ∀ i, B i < 256) {p e : Nat} (hp : p ≤ L) (he : stp B L ltr 601 p = e) (h6 : M.1 223 6 = nI p) (hf : hr_fr advW M0 M) : ∃ M', f_X5_advance_82 FU (nI 0) M = some ((), M') ∧ hr_fr advW M0 M' ∧ M'.1 223 6 = nI e ∧ M'.1 223 7 = M.1 223 7 ∧ M'.1 223 8 = M.1 223 8 := by
  obtain ⟨s1, s2, s3, s4⟩ := stp_ok (B := B) (q := ltr) 601 p hp (by omega)
  rw [he] at s1 s2 s3 s4
  refine hr_for (σ := PM) (fun f i N => f_X5_advance_82 f (nI i) N) (e - p) (fun i N => hr_fr advW M0 N ∧ N.1 223 6 = nI (p + i) ∧ N.1 223 7 = M.1 223 7 ∧ N.1 223 8 = M.1 223 8) (fun r => ∃ M', r = some ((), M') ∧ hr_fr advW M0 M' ∧ M'.1 223 6 = nI e ∧ M'.1 223 7 = M.1 223 7 ∧ M'.1 223 8 = M.1 223 8) ?_ ?_ FU 0 M (Nat.zero_le _) (FU_ok (by omega)) ⟨hf, h6, rfl, rfl⟩
  · rintro f i N hi ⟨i1, i2, i3, i4⟩
    right
    have hb := s3 (p + i) (by omega) (by omega)
    show ∃ s', f_X5_advance_82 (f + 1) (nI i) N = f_X5_advance_82 f (nI (i + 1)) s' ∧ _
    rw [f_X5_advance_82.eq_2, q_lit 600, gO 600, if_neg (fun y => by have := (q_lt (by omega) (by omega)).mp y; omega), i2, s_byteAt (hr.fr i1 rfl (fun _ => rfl)) hL hB (by omega), if_pos (show p + i < L by omega), q_bd_some, s_isLetter (hB _), q_bd_some, hb, if_neg (show ¬ bI true = 0 by decide), i2, q_lit 1, gO 1, q_add, q_add]
    refine ⟨_, rfl, hr_fr.si rfl i1, by rw [si_same, if_pos rfl]; rfl, ?_, ?_⟩
    · rw [si_same, if_neg (by omega)]; exact i3
    · rw [si_same, if_neg (by omega)]; exact i4
  · rintro f N ⟨i1, i2, i3, i4⟩
    show ∃ M', f_X5_advance_82 (f + 1) (nI (e - p)) N = _ ∧ _
    rw [f_X5_advance_82.eq_2, q_lit 600, gO 600, if_neg (fun y => by have := (q_lt (by omega) (by omega)).mp y; omega), i2, show p + (e - p) = e by omega, s_byteAt (hr.fr i1 rfl (fun _ => rfl)) hL hB (by omega), q_bd_some]
    rw [show p + (e - p) = e by omega] at i2
    by_cases z : e < L
    · rw [if_pos z, s_isLetter (hB _), q_bd_some, s4 z, if_pos (show bI false = 0 from rfl)]
      exact ⟨N, rfl, i1, i2, i3, i4⟩
    · rw [if_neg z, s_isLetter1, q_bd_some, if_pos (show bI false = 0 from rfl)]
      exact ⟨N, rfl, i1, i2, i3, i4⟩
theorem s_readDigits {M0 M : PM} (hr : rdT M0 B L) (hL : L ≤ 600) (hB : ∀ i, B i < 256) {p e : Nat} (hp : p < L) (he : stp B L dgt 601 p = e) (h6 : M.1 223 6 = nI p) (h8 : M.1 223 8 = nI p) (hf : hr_fr advW M0 M) : ∃ M', f_X5_readDigits M = some ((), M') ∧ hr_fr advW M0 M' ∧ M'.1 223 6 = nI e ∧ M'.1 223 7 = nI (if e - p ≤ 2 then 2 else 4) ∧ M'.1 223 8 = nI p ∧ (p < e → e - p ≤ 2 → M'.1 223 9 = nI (if e - p ≤ 1 then B p - 48 else 10 * (B p - 48) + (B (p + 1) - 48))) := by
  obtain ⟨s1, s2, s3, s4⟩ := stp_ok (B := B) (L := L) (q := dgt) 601 p (by omega) (by omega)
  rw [he] at s1 s2 s3 s4
  have dg : ∀ i, p ≤ i → i < e → 48 ≤ B i ∧ B i ≤ 57 := fun i h1 h2 => of_decide_eq_true (s3 i h1 h2)
  unfold f_X5_readDigits
  refine hr_for (σ := PM) (fun f i N => f_X5_readDigits_7 f (nI i) N) (e - p) (fun i N => hr_fr advW M0 N ∧ N.1 223 6 = nI (p + i) ∧ N.1 223 8 = nI p ∧ (i ≤ 2 → N.1 223 9 = nI (if i = 0 then 0 else if i ≤ 1 then B p - 48 else 10 * (B p - 48) + (B (p + 1) - 48)))) (fun r => ∃ M', r = some ((), M') ∧ hr_fr advW M0 M' ∧ M'.1 223 6 = nI e ∧ M'.1 223 7 = nI (if e - p ≤ 2 then 2 else 4) ∧ M'.1 223 8 = nI p ∧ (p < e → e - p ≤ 2 → M'.1 223 9 = nI (if e - p ≤ 1 then B p - 48 else 10 * (B p - 48) + (B (p + 1) - 48)))) ?_ ?_ FU 0 (hr_si M 223 9 0) (Nat.zero_le _) (FU_ok (by omega)) ⟨hr_fr.si rfl hf, by rw [si_same, if_neg (by omega)]; exact h6, by rw [si_same, if_neg (by omega)]; exact h8, fun _ => by rw [si_same, if_pos rfl]; rfl⟩
  · rintro f i N hi ⟨i1, i2, i3, i4⟩
    right
    have hb := s3 (p + i) (by omega) (by omega)
    have hd := dg (p + i) (by omega) (by omega)
    have eb := s_byteAt (M := N) (hr.fr i1 rfl (fun _ => rfl)) hL hB (k := p + i) (by omega)
    rw [if_pos (show p + i < L by omega)] at eb
    have e6 : ∀ v, (hr_si N 223 9 v).1 223 6 = nI (p + i) := fun v => by rw [si_same, if_neg (by omega)]; exact i2
    show ∃ s', f_X5_readDigits_7 (f + 1) (nI i) N = f_X5_readDigits_7 f (nI (i + 1)) s' ∧ _
    rw [f_X5_readDigits_7.eq_2, q_lit 600, gO 600, if_neg (fun y => by have := (q_lt (by omega) (by omega)).mp y; omega), i2, eb, q_bd_some, s_isDigit (hB _), q_bd_some, hb, if_neg (show ¬ bI true = 0 by decide), i2, eb, q_bd_some, e6, q_lit 1, gO 1, q_add, q_add]
    refine ⟨_, rfl, hr_fr.si rfl (hr_fr.si rfl i1), by rw [si_same, if_pos rfl]; rfl, ?_, fun hle => ?_⟩
    · rw [si_same, if_neg (by omega), si_same, if_neg (by omega)]; exact i3
    · rw [si_same, if_neg (by omega), si_same, if_pos rfl, i4 (by omega), q_lit 10, gO 10, q_lit 48, gO 48, q_mul, q_add, q_sub (by omega), if_neg (show ¬ i + 1 = 0 by omega)]
      congr 1
      by_cases z : i = 0
      · rw [if_pos z, if_pos (by omega), z, Nat.add_zero]; omega
      · have z1 : i = 1 := by omega
        have hd0 := dg p (by omega) (by omega)
        rw [if_neg z, if_pos (by omega), if_neg (by omega), z1]
        rw [z1] at hd
        omega
  · rintro f N ⟨i1, i2, i3, i4⟩
    have e67 : f_X5_readDigits_67 N = some ((), hr_si N 223 7 (nI (if e - p ≤ 2 then 2 else 4))) := by
      unfold f_X5_readDigits_67
      rw [i2, i3, show p + (e - p) = e by omega, q_sub (by omega), q_lit 2, gO 2]
      by_cases z : e - p ≤ 2
      · rw [if_pos ((q_le (by omega) (by omega)).mpr z), if_pos z]
      · rw [if_neg (fun y => z ((q_le (by omega) (by omega)).mp y)), if_neg z]; rfl
    have fin : (∃ M', (some ((), hr_si N 223 7 (nI (if e - p ≤ 2 then 2 else 4))) : Option (Unit × PM)) = some ((), M') ∧ hr_fr advW M0 M' ∧ M'.1 223 6 = nI e ∧ M'.1 223 7 = nI (if e - p ≤ 2 then 2 else 4) ∧ M'.1 223 8 = nI p ∧ (p < e → e - p ≤ 2 → M'.1 223 9 = nI (if e - p ≤ 1 then B p - 48 else 10 * (B p - 48) + (B (p + 1) - 48)))) := by
      refine ⟨_, rfl, hr_fr.si rfl i1, ?_, by rw [si_same, if_pos rfl], ?_, fun h1 h2 => ?_⟩
      · rw [si_same, if_neg (by omega), i2]; congr 1; omega
      · rw [si_same, if_neg (by omega)]; exact i3
      · rw [si_same, if_neg (by omega), i4 h2, if_neg (show ¬ e - p = 0 by omega)]
    show ∃ M', f_X5_readDigits_7 (f + 1) (nI (e - p)) N = _ ∧ _
    rw [f_X5_readDigits_7.eq_2, q_lit 600, gO 600, if_neg (fun y => by have := (q_lt (by omega) (by omega)).mp y; omega), i2, show p + (e - p) = e by omega, s_byteAt (hr.fr i1 rfl (fun _ => rfl)) hL hB (by omega), q_bd_some]
    by_cases z : e < L
    · rw [if_pos z, s_isDigit (hB _), q_bd_some, s4 z, if_pos (show bI false = 0 from rfl), e67]
      exact fin
    · rw [if_neg z, s_isDigit1, q_bd_some, if_pos (show bI false = 0 from rfl), e67]
      exact fin
theorem ltr_dgt {c : Nat} (h : ltr c = true) : dgt c = false := by
  have := of_decide_eq_true h
  exact decide_eq_false (by omega)
theorem s_advance {M0 : PM} (hr : rdT M0 B L) (hL : L ≤ 600) (hB : ∀ i, B i < 256) {p : Nat} (hp : p ≤ L) (h6 : M0.1 223 6 = nI p) : ∃ M', f_X5_advance M0 = some ((), M') ∧ hr_fr advW M0 M' ∧ cTk M' B L p := by
  obtain ⟨s1, s2, s3, s4⟩ := stp_ok (B := B) (q := blk) 601 p hp (by omega)
  have hs : stp B L blk 601 p = sT B L p := rfl
  rw [hs] at s1 s2 s3 s4
  unfold f_X5_advance
  have e39 : ∀ N, hr_fr advW M0 N → N.1 223 6 = nI (sT B L p) → ∃ M', f_X5_advance_39 N = some ((), M') ∧ hr_fr advW M0 M' ∧ cTk M' B L p := by
    intro N hf h6
    have f1 : hr_fr advW M0 (hr_si N 223 8 (nI (sT B L p))) := hr_fr.si rfl hf
    have g6 : (hr_si N 223 8 (nI (sT B L p))).1 223 6 = nI (sT B L p) := by rw [si_same, if_neg (by omega)]; exact h6
    have g8 : (hr_si N 223 8 (nI (sT B L p))).1 223 8 = nI (sT B L p) := by rw [si_same, if_pos rfl]
    unfold f_X5_advance_39 cTk
    rw [h6, g6, s_byteAt (hr.fr f1 rfl (fun _ => rfl)) hL hB (by omega), q_bd_some]
    by_cases z : sT B L p < L
    · have en : ∀ b, nT B L p = b ↔ (if ltr (B (sT B L p)) = true ∨ dgt (B (sT B L p)) = true then eT B L p else sT B L p + 1) = b := fun b => by unfold nT; rw [if_neg (by omega)]
      rw [if_pos z, if_pos (show (0 : Int32) ≤ nI (B (sT B L p)) from nI_pos' (by have := hB (sT B L p); omega)), s_isLetter (hB _), q_bd_some]
      cases hl : ltr (B (sT B L p)) with
      | true =>
        have ek : kT B L p = 1 := by unfold kT; rw [if_neg (by omega), hl, if_pos rfl]
        have ee : stp B L ltr 601 (sT B L p) = eT B L p := by unfold eT; rw [hl, if_pos rfl]
        have enn : nT B L p = eT B L p := by unfold nT; rw [if_neg (by omega), if_pos (Or.inl hl)]
        rw [if_neg (show ¬ bI true = 0 by decide), show (1 : Int32) = nI 1 from rfl, show (0 : Int32) = nI 0 from rfl]
        obtain ⟨M', m1, m2, m3, m4, m5⟩ := s_adv82 (M := hr_si (hr_si N 223 8 (nI (sT B L p))) 223 7 (nI 1)) hr hL hB s2 ee (by rw [si_same, if_neg (by omega)]; exact g6) (hr_fr.si rfl f1)
        refine ⟨M', m1, m2, by rw [m3, enn], ?_, ?_, fun h => by omega⟩
        · rw [m4, si_same, if_pos rfl, ek]
        · rw [m5, si_same, if_neg (by omega)]; exact g8
      | false =>
        rw [if_pos (show bI false = 0 from rfl), s_isDigit (hB _), q_bd_some]
        cases hd : dgt (B (sT B L p)) with
        | true =>
          have ee : stp B L dgt 601 (sT B L p) = eT B L p := by unfold eT; rw [hl, if_neg (by simp)]
          have enn : nT B L p = eT B L p := by unfold nT; rw [if_neg (by omega), if_pos (Or.inr hd)]
          have ek : kT B L p = if eT B L p - sT B L p ≤ 2 then 2 else 4 := by unfold kT; rw [if_neg (by omega), hl, if_neg (by simp), hd, if_pos rfl]
          rw [if_neg (show ¬ bI true = 0 by decide)]
          obtain ⟨M', m1, m2, m3, m4, m5, m6⟩ := s_readDigits hr hL hB z ee g6 g8 f1
          rw [m1, q_bd_some]
          have lt := (tok_ok (B := B) hL hp).2.2.2.2.1
          refine ⟨M', rfl, m2, by rw [m3, enn], by rw [m4, ek], m5, fun h => ?_⟩
          have hle : eT B L p - sT B L p ≤ 2 := by
            rw [ek] at h
            by_cases y : eT B L p - sT B L p ≤ 2
            · exact y
            · rw [if_neg y] at h; omega
          rw [m6 (by rw [← enn]; exact lt (by omega)) hle]
          rfl
        | false =>
          have enn : nT B L p = sT B L p + 1 := by unfold nT; rw [if_neg (by omega), hl, hd, if_neg (by simp)]
          have ek : kT B L p = if B (sT B L p) = 59 then 3 else 4 := by unfold kT; rw [if_neg (by omega), hl, if_neg (by simp), hd, if_neg (by simp)]
          have hb := hB (sT B L p)
          have fin : ∀ v, v ≠ 2 → kT B L p = v → ∃ M', (some ((), hr_si (hr_si (hr_si N 223 8 (nI (sT B L p))) 223 7 (nI v)) 223 6 ((hr_si (hr_si N 223 8 (nI (sT B L p))) 223 7 (nI v)).1 223 6 + 1)) : Option (Unit × PM)) = some ((), M') ∧ hr_fr advW M0 M' ∧ M'.1 223 6 = nI (nT B L p) ∧ M'.1 223 7 = nI (kT B L p) ∧ M'.1 223 8 = nI (sT B L p) ∧ (kT B L p = 2 → M'.1 223 9 = nI (vT B L p)) := by
            intro v hv hk
            refine ⟨_, rfl, hr_fr.si rfl (hr_fr.si rfl f1), ?_, ?_, ?_, fun h => by omega⟩
            · rw [si_same, if_pos rfl, si_same, if_neg (by omega), g6, enn, q_lit 1, gO 1, q_add]
            · rw [si_same, if_neg (by omega), si_same, if_pos rfl, hk]
            · rw [si_same, if_neg (by omega), si_same, if_neg (by omega)]; exact g8
          rw [if_pos (show bI false = 0 from rfl)]
          by_cases y : B (sT B L p) = 59
          · rw [if_pos (show nI (B (sT B L p)) = 59 by rw [y]; rfl)]
            exact fin 3 (by omega) (by rw [ek, if_pos y])
          · rw [if_neg (show ¬ nI (B (sT B L p)) = 59 from fun w => y ((q_eq (b := 59) (by omega) (by omega)).mp w))]
            exact fin 4 (by omega) (by rw [ek, if_neg y])
    · have enn : nT B L p = sT B L p := by unfold nT; rw [if_pos (by omega)]
      have ek : kT B L p = 0 := by unfold kT; rw [if_pos (by omega)]
      rw [if_neg z, if_neg (show ¬ (0 : Int32) ≤ zI (-1) by decide)]
      refine ⟨_, rfl, hr_fr.si rfl f1, ?_, ?_, ?_, fun h => by omega⟩
      · rw [si_same, if_neg (by omega), enn]; exact g6
      · rw [si_same, if_pos rfl, ek]; rfl
      · rw [si_same, if_neg (by omega)]; exact g8
  refine hr_for (σ := PM) (fun f i N => f_X5_advance_2 f (nI i) N) (sT B L p - p) (fun i N => hr_fr advW M0 N ∧ N.1 223 6 = nI (p + i)) (fun r => ∃ M', r = some ((), M') ∧ hr_fr advW M0 M' ∧ cTk M' B L p) ?_ ?_ FU 0 M0 (Nat.zero_le _) (FU_ok (by omega)) ⟨hr_fr.rf _ _, h6⟩
  · rintro f i N hi ⟨i1, i2⟩
    right
    have hb := s3 (p + i) (by omega) (by omega)
    show ∃ s', f_X5_advance_2 (f + 1) (nI i) N = f_X5_advance_2 f (nI (i + 1)) s' ∧ _
    rw [f_X5_advance_2.eq_2, q_lit 600, gO 600, if_neg (fun y => by have := (q_lt (by omega) (by omega)).mp y; omega), i2, s_byteAt (hr.fr i1 rfl (fun _ => rfl)) hL hB (by omega), if_pos (show p + i < L by omega), q_bd_some, s_isBlank (hB _), q_bd_some, hb, if_neg (show ¬ bI true = 0 by decide), i2, q_lit 1, gO 1, q_add, q_add]
    exact ⟨_, rfl, hr_fr.si rfl i1, by rw [si_same, if_pos rfl]; rfl⟩
  · rintro f N ⟨i1, i2⟩
    rw [show p + (sT B L p - p) = sT B L p by omega] at i2
    have := e39 N i1 i2
    show ∃ M', f_X5_advance_2 (f + 1) (nI (sT B L p - p)) N = _ ∧ _
    rw [f_X5_advance_2.eq_2, q_lit 600, gO 600, if_neg (fun y => by have := (q_lt (by omega) (by omega)).mp y; omega), i2, s_byteAt (hr.fr i1 rfl (fun _ => rfl)) hL hB (by omega), q_bd_some]
    by_cases z : sT B L p < L
    · rw [if_pos z, s_isBlank (hB _), q_bd_some, s4 z, if_pos (show bI false = 0 from rfl)]
      exact this
    · rw [if_neg z, s_isBlank1, q_bd_some, if_pos (show bI false = 0 from rfl)]
      exact this
end CLS
