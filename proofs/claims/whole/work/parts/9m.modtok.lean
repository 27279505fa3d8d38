/-! TOKENS, by the model -/
theorem lN_shl8 (n : Nat) : jL (lN n) 8 = lN (n * 256) := by
  unfold jL
  apply Int64.toBitVec_inj.1
  have e : ((8 : Int32).toInt64 &&& 63).toBitVec.smod 64 = 8#64 := by decide
  rw [Int64.toBitVec_shiftLeft]
  show (lN n).toBitVec <<< (((8 : Int32).toInt64 &&& 63).toBitVec.smod 64) = BitVec.ofNat 64 (n * 256)
  rw [e]
  show BitVec.ofNat 64 n <<< (8#64) = _
  apply BitVec.eq_of_toNat_eq
  rw [BitVec.shiftLeft_eq', BitVec.toNat_shiftLeft, BitVec.toNat_ofNat, BitVec.toNat_ofNat, BitVec.toNat_ofNat, show 8 % 2 ^ 64 = 8 from rfl, Nat.shiftLeft_eq]
  omega
theorem lN_or (a b : Nat) : lN a ||| lN b = lN (a ||| b) := by
  apply Int64.toBitVec_inj.1
  show BitVec.ofNat 64 a ||| BitVec.ofNat 64 b = BitVec.ofNat 64 (a ||| b)
  apply BitVec.eq_of_getLsbD_eq
  intro i hi
  simp [hi]
theorem or_256 (a : Nat) {b : Nat} (hb : b < 256) : a * 256 ||| b = a * 256 + b := by
  have := Nat.two_pow_add_eq_or_of_lt (i := 8) hb a
  rw [Nat.mul_comm a]
  exact this.symm
/-- bytes packed -/
def pckN (f : Nat → Nat) : Nat → Nat
  | 0 => 0
  | n + 1 => pckN f n * 256 + f n
def wrd (B : Nat → Nat) (L p : Nat) : Nat := if nT B L p - sT B L p ≤ 8 then pckN (fun i => B (sT B L p + i)) (nT B L p - sT B L p) else 0
def mKd (k : Nat) : Nat := if k = 0 then 0 else if k = 1 then 2 else if k = 2 then 3 else if k = 3 then 4 else 1
/-- the tape that the model reads -/
def mrd (M : PM) (B : Nat → Nat) (L : Nat) : Prop := M.1 275 12 = nI L ∧ ∀ i, i < 600 → M.1 276 i &&& 255 = nI (B i)
def mTk (M : PM) (B : Nat → Nat) (L p : Nat) : Prop := M.1 275 11 = nI (nT B L p) ∧ M.1 275 13 = nI (sT B L p) ∧ M.1 275 14 = nI (mKd (kT B L p)) ∧ (kT B L p = 2 → M.1 275 15 = nI (vT B L p)) ∧ (kT B L p = 1 → M.2.1 275 16 = lN (wrd B L p))
abbrev tokW : List (Nat × Nat) := [(275, 12), (275, 14), (275, 15), (275, 16), (275, 17)]
section MOD
variable {B : Nat → Nat} {L : Nat}
theorem mrd.fr {M M' : PM} (h : mrd M B L) {W : List (Nat × Nat)} (hf : hr_fr W M M') (h5 : hr_in W 275 12 = false) (h2 : ∀ k, hr_in W 276 k = false) : mrd M' B L := ⟨(hf.at 275 12 h5).trans h.1, fun i hi => by rw [hf.at 276 i (h2 i)]; exact h.2 i hi⟩
theorem s_see {M : PM} (h : mrd M B L) (hL : L ≤ 600) {k : Nat} (hk : k < 2147483648) (h11 : M.1 275 11 = nI k) : f_X11_see M = some (if k < L then nI (B k) else zI (-1), M) := by
  unfold f_X11_see
  rw [h11, h.1, show (-1 : Int32) = zI (-1) by decide]
  by_cases z : k < L
  · rw [if_neg (fun y => by have := (q_le (by omega) (by omega)).mp y; omega), if_pos (q_in (by omega) (by omega)), q_cl (by omega), h.2 k (by omega), if_pos z]
  · rw [if_pos ((q_le (by omega) (by omega)).mpr (by omega)), if_neg z]
theorem s_inl {c : Nat} (hc : c < 256) (M : PM) : f_X11_in (nI c) 97 122 M = some (bI (ltr c), M) := by
  rw [show (97 : Int32) = nI 97 from rfl, show (122 : Int32) = nI 122 from rfl, s_inab M _ (by omega) (by omega), q_cl (by omega)]
  congr 2
  unfold ltr
  congr 1
  rw [decide_eq_decide]
  exact ⟨fun z => ⟨z.2.1, z.2.2⟩, fun z => ⟨nI_pos (by omega), z.1, z.2⟩⟩
theorem s_ind {c : Nat} (hc : c < 256) (M : PM) : f_X11_in (nI c) 48 57 M = some (bI (dgt c), M) := by
  rw [show (48 : Int32) = nI 48 from rfl, show (57 : Int32) = nI 57 from rfl, s_inab M _ (by omega) (by omega), q_cl (by omega)]
  congr 2
  unfold dgt
  congr 1
  rw [decide_eq_decide]
  exact ⟨fun z => ⟨z.2.1, z.2.2⟩, fun z => ⟨nI_pos (by omega), z.1, z.2⟩⟩
theorem s_in1 (M : PM) (a b : Nat) (ha : a < 2147483648) : f_X11_in (zI (-1)) (nI a) (nI b) M = some (bI false, M) := by
  unfold f_X11_in
  rw [if_pos ((q_znlt (by omega) ha).mpr (by omega))]
  rfl
theorem s_tok74 {M0 M : PM} (hr : mrd M0 B L) (hL : L ≤ 600) (hB : ∀ i, B i < 256) {p e : Nat} (hp : p ≤ L) (he : stp B L ltr 601 p = e) (h11 : M.1 275 11 = nI p) (h16 : M.2.1 275 16 = lN 0) (hf : hr_fr tokW M0 M) : ∃ M', f_X11_token_74 FU (nI 0) M = some ((), M') ∧ hr_fr tokW M0 M' ∧ M'.1 275 11 = nI e ∧ M'.1 275 13 = M.1 275 13 ∧ M'.1 275 14 = nI 2 ∧ M'.2.1 275 16 = lN (if e - p ≤ 8 then pckN (fun i => B (p + i)) (e - p) else 0) := by
  obtain ⟨s1, s2, s3, s4⟩ := stp_ok (B := B) (L := L) (q := ltr) 601 p hp (by omega)
  rw [he] at s1 s2 s3 s4
  refine hr_for (σ := PM) (fun f i N => f_X11_token_74 f (nI i) N) (e - p) (fun i N => hr_fr tokW M0 N ∧ N.1 275 11 = nI (p + i) ∧ N.1 275 13 = M.1 275 13 ∧ (i ≤ 8 → N.2.1 275 16 = lN (pckN (fun i => B (p + i)) i))) (fun r => ∃ M', r = some ((), M') ∧ hr_fr tokW M0 M' ∧ M'.1 275 11 = nI e ∧ M'.1 275 13 = M.1 275 13 ∧ M'.1 275 14 = nI 2 ∧ M'.2.1 275 16 = lN (if e - p ≤ 8 then pckN (fun i => B (p + i)) (e - p) else 0)) ?_ ?_ FU 0 M (Nat.zero_le _) (FU_ok (by omega)) ⟨hf, h11, rfl, fun _ => h16⟩
  · rintro f i N hi ⟨i1, i2, i3, i4⟩
    right
    have hb := s3 (p + i) (by omega) (by omega)
    have eb := s_see (M := N) (hr.fr i1 rfl (fun _ => rfl)) hL (k := p + i) (by omega) i2
    rw [if_pos (show p + i < L by omega)] at eb
    have hlt := hB (p + i)
    show ∃ s', f_X11_token_74 (f + 1) (nI i) N = f_X11_token_74 f (nI (i + 1)) s' ∧ _
    rw [f_X11_token_74.eq_2, eb, q_bd_some, s_inl (hB _), q_bd_some, hb, if_neg (show ¬ bI true = 0 by decide), eb, q_bd_some, nI_l (by omega), show (hr_sl N 275 16 (jL (N.2.1 275 16) 8 ||| lN (B (p + i)))).1 275 11 = nI (p + i) from i2, q_lit 1, gO 1, q_add, q_add]
    refine ⟨_, rfl, hr_fr.si rfl (hr_fr.sl rfl i1), by rw [si_same, if_pos rfl]; rfl, ?_, fun hle => ?_⟩
    · rw [si_same, if_neg (by omega)]; exact i3
    · show (hr_sl N 275 16 (jL (N.2.1 275 16) 8 ||| lN (B (p + i)))).2.1 275 16 = _
      rw [sl_same, if_pos rfl, i4 (by omega), lN_shl8, lN_or, or_256 _ hlt]
      rfl
  · rintro f N ⟨i1, i2, i3, i4⟩
    have eb := s_see (M := N) (hr.fr i1 rfl (fun _ => rfl)) hL (k := p + (e - p)) (by omega) i2
    rw [show p + (e - p) = e by omega] at eb i2
    have fin : ∃ M', (if nI (e - p) ≤ 8 then some ((), hr_si (hr_sl N 275 16 (N.2.1 275 16)) 275 14 2) else some ((), hr_si (hr_sl N 275 16 0) 275 14 2) : Option (Unit × PM)) = some ((), M') ∧ hr_fr tokW M0 M' ∧ M'.1 275 11 = nI e ∧ M'.1 275 13 = M.1 275 13 ∧ M'.1 275 14 = nI 2 ∧ M'.2.1 275 16 = lN (if e - p ≤ 8 then pckN (fun i => B (p + i)) (e - p) else 0) := by
      by_cases z : e - p ≤ 8
      · rw [if_pos (show nI (e - p) ≤ 8 from (q_le (b := 8) (by omega) (by omega)).mpr z), if_pos z]
        refine ⟨_, rfl, hr_fr.si rfl (hr_fr.sl rfl i1), ?_, ?_, by rw [si_same, if_pos rfl]; rfl, ?_⟩
        · rw [si_same, if_neg (by omega)]; exact i2
        · rw [si_same, if_neg (by omega)]; exact i3
        · show (hr_sl N 275 16 (N.2.1 275 16)).2.1 275 16 = _
          rw [sl_same, if_pos rfl]
          exact i4 z
      · rw [if_neg (show ¬ nI (e - p) ≤ 8 from fun y => z ((q_le (b := 8) (by omega) (by omega)).mp y)), if_neg z]
        refine ⟨_, rfl, hr_fr.si rfl (hr_fr.sl rfl i1), ?_, ?_, by rw [si_same, if_pos rfl]; rfl, ?_⟩
        · rw [si_same, if_neg (by omega)]; exact i2
        · rw [si_same, if_neg (by omega)]; exact i3
        · show (hr_sl N 275 16 0).2.1 275 16 = _
          rw [sl_same, if_pos rfl]
          rfl
    show ∃ M', f_X11_token_74 (f + 1) (nI (e - p)) N = _ ∧ _
    rw [f_X11_token_74.eq_2, eb, q_bd_some]
    by_cases z : e < L
    · rw [if_pos z, s_inl (hB _), q_bd_some, s4 z, if_pos (show bI false = 0 from rfl)]
      exact fin
    · rw [if_neg z, show (97 : Int32) = nI 97 from rfl, show (122 : Int32) = nI 122 from rfl, s_in1 _ _ _ (by omega), q_bd_some, if_pos (show bI false = 0 from rfl)]
      exact fin
theorem s_tok163 {M0 M : PM} (hr : mrd M0 B L) (hL : L ≤ 600) (hB : ∀ i, B i < 256) {p e : Nat} (hp : p < L) (he : stp B L dgt 601 p = e) (h11 : M.1 275 11 = nI p) (h15 : M.1 275 15 = nI 0) (hf : hr_fr tokW M0 M) : ∃ M', f_X11_token_163 FU (nI 0) M = some ((), M') ∧ hr_fr tokW M0 M' ∧ M'.1 275 11 = nI e ∧ M'.1 275 13 = M.1 275 13 ∧ M'.1 275 14 = nI (mKd (if e - p ≤ 2 then 2 else 4)) ∧ (p < e → e - p ≤ 2 → M'.1 275 15 = nI (if e - p ≤ 1 then B p - 48 else 10 * (B p - 48) + (B (p + 1) - 48))) := by
  obtain ⟨s1, s2, s3, s4⟩ := stp_ok (B := B) (L := L) (q := dgt) 601 p (by omega) (by omega)
  rw [he] at s1 s2 s3 s4
  have dg : ∀ i, p ≤ i → i < e → 48 ≤ B i ∧ B i ≤ 57 := fun i h1 h2 => of_decide_eq_true (s3 i h1 h2)
  refine hr_for (σ := PM) (fun f i N => f_X11_token_163 f (nI i) N) (e - p) (fun i N => hr_fr tokW M0 N ∧ N.1 275 11 = nI (p + i) ∧ N.1 275 13 = M.1 275 13 ∧ N.1 275 15 = nI (if i = 0 then 0 else if i ≤ 1 then B p - 48 else 10 * (B p - 48) + (B (p + 1) - 48))) (fun r => ∃ M', r = some ((), M') ∧ hr_fr tokW M0 M' ∧ M'.1 275 11 = nI e ∧ M'.1 275 13 = M.1 275 13 ∧ M'.1 275 14 = nI (mKd (if e - p ≤ 2 then 2 else 4)) ∧ (p < e → e - p ≤ 2 → M'.1 275 15 = nI (if e - p ≤ 1 then B p - 48 else 10 * (B p - 48) + (B (p + 1) - 48)))) ?_ ?_ FU 0 M (Nat.zero_le _) (FU_ok (by omega)) ⟨hf, h11, rfl, h15⟩
  · rintro f i N hi ⟨i1, i2, i3, i4⟩
    right
    have hb := s3 (p + i) (by omega) (by omega)
    have hd := dg (p + i) (by omega) (by omega)
    have eb := s_see (M := N) (hr.fr i1 rfl (fun _ => rfl)) hL (k := p + i) (by omega) i2
    rw [if_pos (show p + i < L by omega)] at eb
    have e6 : ∀ v, (hr_si N 275 15 v).1 275 11 = nI (p + i) := fun v => by rw [si_same, if_neg (by omega)]; exact i2
    show ∃ s', f_X11_token_163 (f + 1) (nI i) N = f_X11_token_163 f (nI (i + 1)) s' ∧ _
    rw [f_X11_token_163.eq_2, eb, q_bd_some, s_ind (hB _), q_bd_some, hb, if_neg (show ¬ bI true = 0 by decide), eb, q_bd_some, e6, e6, q_lit 1, gO 1, q_add, q_add]
    by_cases z2 : 2 ≤ i
    · rw [if_pos (show (2 : Int32) ≤ nI i from (q_le (a := 2) (by omega) (by omega)).mpr z2)]
      refine ⟨_, rfl, hr_fr.si rfl (hr_fr.si rfl i1), by rw [si_same, if_pos rfl]; rfl, ?_, ?_⟩
      · rw [si_same, if_neg (by omega), si_same, if_neg (by omega)]; exact i3
      · rw [si_same, if_neg (by omega), si_same, if_pos rfl, i4, if_neg (by omega), if_neg (by omega), if_neg (by omega), if_neg (by omega)]
    · rw [if_neg (show ¬ (2 : Int32) ≤ nI i from fun y => z2 ((q_le (a := 2) (by omega) (by omega)).mp y))]
      refine ⟨_, rfl, hr_fr.si rfl (hr_fr.si rfl i1), by rw [si_same, if_pos rfl]; rfl, ?_, ?_⟩
      · rw [si_same, if_neg (by omega), si_same, if_neg (by omega)]; exact i3
      · rw [si_same, if_neg (by omega), si_same, if_pos rfl, i4, q_lit 10, gO 10, q_lit 48, gO 48, q_mul, q_add, q_sub (by omega), if_neg (show ¬ i + 1 = 0 by omega)]
        congr 1
        by_cases z : i = 0
        · rw [if_pos z, if_pos (by omega), z, Nat.add_zero]; omega
        · have z1 : i = 1 := by omega
          have hd0 := dg p (by omega) (by omega)
          rw [if_neg z, if_pos (by omega), if_neg (by omega), z1]
          rw [z1] at hd
          omega
  · rintro f N ⟨i1, i2, i3, i4⟩
    have eb := s_see (M := N) (hr.fr i1 rfl (fun _ => rfl)) hL (k := p + (e - p)) (by omega) i2
    rw [show p + (e - p) = e by omega] at eb i2
    have fin : ∃ M', (if nI (e - p) ≤ 2 then some ((), hr_si N 275 14 3) else some ((), hr_si N 275 14 1) : Option (Unit × PM)) = some ((), M') ∧ hr_fr tokW M0 M' ∧ M'.1 275 11 = nI e ∧ M'.1 275 13 = M.1 275 13 ∧ M'.1 275 14 = nI (mKd (if e - p ≤ 2 then 2 else 4)) ∧ (p < e → e - p ≤ 2 → M'.1 275 15 = nI (if e - p ≤ 1 then B p - 48 else 10 * (B p - 48) + (B (p + 1) - 48))) := by
      by_cases z : e - p ≤ 2
      · rw [if_pos (show nI (e - p) ≤ 2 from (q_le (b := 2) (by omega) (by omega)).mpr z), if_pos z]
        refine ⟨_, rfl, hr_fr.si rfl i1, ?_, ?_, by rw [si_same, if_pos rfl]; rfl, fun h1 h2 => ?_⟩
        · rw [si_same, if_neg (by omega)]; exact i2
        · rw [si_same, if_neg (by omega)]; exact i3
        · rw [si_same, if_neg (by omega), i4, if_neg (show ¬ e - p = 0 by omega)]
      · rw [if_neg (show ¬ nI (e - p) ≤ 2 from fun y => z ((q_le (b := 2) (by omega) (by omega)).mp y)), if_neg z]
        refine ⟨_, rfl, hr_fr.si rfl i1, ?_, ?_, by rw [si_same, if_pos rfl]; rfl, fun h1 h2 => by omega⟩
        · rw [si_same, if_neg (by omega)]; exact i2
        · rw [si_same, if_neg (by omega)]; exact i3
    show ∃ M', f_X11_token_163 (f + 1) (nI (e - p)) N = _ ∧ _
    rw [f_X11_token_163.eq_2, eb, q_bd_some]
    by_cases z : e < L
    · rw [if_pos z, s_ind (hB _), q_bd_some, s4 z, if_pos (show bI false = 0 from rfl)]
      exact fin
    · rw [if_neg z, show (48 : Int32) = nI 48 from rfl, show (57 : Int32) = nI 57 from rfl, s_in1 _ _ _ (by omega), q_bd_some, if_pos (show bI false = 0 from rfl)]
      exact fin
theorem s_token {M0 : PM} (hr : mrd M0 B L) (hL : L ≤ 600) (hB : ∀ i, B i < 256) {p : Nat} (hp : p ≤ L) (h11 : M0.1 275 11 = nI p) : ∃ M', f_X11_token M0 = some ((), M') ∧ hr_fr tokW M0 M' ∧ mTk M' B L p := by
  obtain ⟨s1, s2, s3, s4⟩ := stp_ok (B := B) (L := L) (q := blk) 601 p hp (by omega)
  have hs : stp B L blk 601 p = sT B L p := rfl
  rw [hs] at s1 s2 s3 s4
  unfold f_X11_token
  refine hr_for (σ := PM) (fun f _ N => f_X11_token_0 f N) (sT B L p - p) (fun i N => hr_fr tokW M0 N ∧ N.1 275 11 = nI (p + i)) (fun r => ∃ M', r = some ((), M') ∧ hr_fr tokW M0 M' ∧ mTk M' B L p) ?_ ?_ FU 0 M0 (Nat.zero_le _) (FU_ok (by omega)) ⟨hr_fr.rf _ _, h11⟩
  · rintro f i N hi ⟨i1, i2⟩
    right
    have hb := s3 (p + i) (by omega) (by omega)
    have eb := s_see (M := N) (hr.fr i1 rfl (fun _ => rfl)) hL (k := p + i) (by omega) i2
    rw [if_pos (show p + i < L by omega)] at eb
    have hlt := hB (p + i)
    have hbl : B (p + i) = 10 ∨ B (p + i) = 32 := of_decide_eq_true hb
    show ∃ s', f_X11_token_0 (f + 1) N = f_X11_token_0 f s' ∧ _
    rw [f_X11_token_0.eq_2, eb, q_bd_some, i2, q_lit 1, gO 1, q_add]
    by_cases z : B (p + i) = 10
    · rw [if_pos (show nI (B (p + i)) = 10 by rw [z]; rfl)]
      exact ⟨_, rfl, hr_fr.si rfl i1, by rw [si_same, if_pos rfl]; rfl⟩
    · rw [if_neg (show ¬ nI (B (p + i)) = 10 from fun y => z ((q_eq (b := 10) (by omega) (by omega)).mp y)), eb, q_bd_some, if_pos (show nI (B (p + i)) = 32 by rw [hbl.resolve_left z]; rfl), i2, q_add]
      exact ⟨_, rfl, hr_fr.si rfl i1, by rw [si_same, if_pos rfl]; rfl⟩
  · rintro f N ⟨i1, i2⟩
    rw [show p + (sT B L p - p) = sT B L p by omega] at i2
    have eb := s_see (M := N) (hr.fr i1 rfl (fun _ => rfl)) hL (k := sT B L p) (by omega) i2
    have f1 : hr_fr tokW M0 (hr_si N 275 13 (nI (sT B L p))) := hr_fr.si rfl i1
    have g11 : (hr_si N 275 13 (nI (sT B L p))).1 275 11 = nI (sT B L p) := by rw [si_same, if_neg (by omega)]; exact i2
    have g13 : (hr_si N 275 13 (nI (sT B L p))).1 275 13 = nI (sT B L p) := by rw [si_same, if_pos rfl]
    have eb2 := s_see (M := hr_si N 275 13 (nI (sT B L p))) (hr.fr f1 rfl (fun _ => rfl)) hL (k := sT B L p) (by omega) g11
    show ∃ M', f_X11_token_0 (f + 1) N = _ ∧ _
    rw [f_X11_token_0.eq_2, eb, q_bd_some]
    by_cases z : sT B L p < L
    · have hb := s4 z
      have hlt := hB (sT B L p)
      have nb : ¬ (B (sT B L p) = 10 ∨ B (sT B L p) = 32) := of_decide_eq_false hb
      rw [if_pos z] at eb eb2 ⊢
      rw [if_neg (show ¬ nI (B (sT B L p)) = 10 from fun y => nb (Or.inl ((q_eq (b := 10) (by omega) (by omega)).mp y))), eb, q_bd_some, if_neg (show ¬ nI (B (sT B L p)) = 32 from fun y => nb (Or.inr ((q_eq (b := 32) (by omega) (by omega)).mp y))), i2, eb2, q_bd_some, if_pos (show (0 : Int32) ≤ nI (B (sT B L p)) from nI_pos' (by omega)), s_inl (hB _), q_bd_some]
      cases hl : ltr (B (sT B L p)) with
      | true =>
        have ek : kT B L p = 1 := by unfold kT; rw [if_neg (by omega), hl, if_pos rfl]
        have ee : stp B L ltr 601 (sT B L p) = eT B L p := by unfold eT; rw [hl, if_pos rfl]
        have enn : nT B L p = eT B L p := by unfold nT; rw [if_neg (by omega), if_pos (Or.inl hl)]
        rw [if_neg (show ¬ bI true = 0 by decide), show (0 : Int32) = nI 0 from rfl]
        obtain ⟨M', m1, m2, m3, m4, m5, m6⟩ := s_tok74 (M := hr_sl (hr_si N 275 13 (nI (sT B L p))) 275 16 0) hr hL hB s2 ee g11 (by rw [sl_same, if_pos rfl]; rfl) (hr_fr.sl rfl f1)
        refine ⟨M', m1, m2, by rw [m3, enn], m4.trans g13, by rw [m5, ek]; rfl, fun h => by omega, fun _ => ?_⟩
        rw [m6, ← enn]
        rfl
      | false =>
        rw [if_pos (show bI false = 0 from rfl), s_ind (hB _), q_bd_some]
        cases hd : dgt (B (sT B L p)) with
        | true =>
          have ee : stp B L dgt 601 (sT B L p) = eT B L p := by unfold eT; rw [hl, if_neg (by simp)]
          have enn : nT B L p = eT B L p := by unfold nT; rw [if_neg (by omega), if_pos (Or.inr hd)]
          have ek : kT B L p = if eT B L p - sT B L p ≤ 2 then 2 else 4 := by unfold kT; rw [if_neg (by omega), hl, if_neg (by simp), hd, if_pos rfl]
          rw [if_neg (show ¬ bI true = 0 by decide), show (0 : Int32) = nI 0 from rfl]
          obtain ⟨M', m1, m2, m3, m4, m5, m6⟩ := s_tok163 (M := hr_si (hr_sl (hr_si N 275 13 (nI (sT B L p))) 275 16 0) 275 15 (nI 0)) hr hL hB z ee (by rw [si_same, if_neg (by omega)]; exact g11) (by rw [si_same, if_pos rfl]) (hr_fr.si rfl (hr_fr.sl rfl f1))
          have lt := (tok_ok (B := B) hL hp).2.2.2.2.1
          refine ⟨M', m1, m2, by rw [m3, enn], ?_, by rw [m5, ek], fun h => ?_, fun h => ?_⟩
          · rw [m4, si_same, if_neg (by omega)]; exact g13
          · have hle : eT B L p - sT B L p ≤ 2 := by
              rw [ek] at h
              by_cases y : eT B L p - sT B L p ≤ 2
              · exact y
              · rw [if_neg y] at h; omega
            rw [m6 (by rw [← enn]; exact lt (by omega)) hle]
            rfl
          · rw [ek] at h; split at h <;> omega
        | false =>
          have enn : nT B L p = sT B L p + 1 := by unfold nT; rw [if_neg (by omega), hl, hd, if_neg (by simp)]
          have ek : kT B L p = if B (sT B L p) = 59 then 3 else 4 := by unfold kT; rw [if_neg (by omega), hl, if_neg (by simp), hd, if_neg (by simp)]
          have g11' : (hr_sl (hr_si N 275 13 (nI (sT B L p))) 275 16 0).1 275 11 = nI (sT B L p) := g11
          have fin : ∀ k v, kT B L p = k → k ≠ 1 → k ≠ 2 → v = nI (mKd k) → ∃ M', (some ((), hr_si (hr_si (hr_sl (hr_si N 275 13 (nI (sT B L p))) 275 16 0) 275 11 (nI (sT B L p + 1))) 275 14 v) : Option (Unit × PM)) = some ((), M') ∧ hr_fr tokW M0 M' ∧ mTk M' B L p := by
            intro k v hk h1 h2 hv
            refine ⟨_, rfl, hr_fr.si rfl (hr_fr.si rfl (hr_fr.sl rfl f1)), ?_, ?_, ?_, fun h => by omega, fun h => by omega⟩
            · rw [si_same, if_neg (by omega), si_same, if_pos rfl, enn]
            · rw [si_same, if_neg (by omega), si_same, if_neg (by omega)]; exact g13
            · rw [si_same, if_pos rfl, hk, hv]
          rw [if_pos (show bI false = 0 from rfl), g11', q_lit 1, gO 1, q_add]
          by_cases y : B (sT B L p) = 59
          · rw [if_pos (show nI (B (sT B L p)) = 59 by rw [y]; rfl)]
            exact fin 3 _ (by rw [ek, if_pos y]) (by omega) (by omega) rfl
          · rw [if_neg (show ¬ nI (B (sT B L p)) = 59 from fun w => y ((q_eq (b := 59) (by omega) (by omega)).mp w))]
            exact fin 4 _ (by rw [ek, if_neg y]) (by omega) (by omega) rfl
    · have enn : nT B L p = sT B L p := by unfold nT; rw [if_pos (by omega)]
      have ek : kT B L p = 0 := by unfold kT; rw [if_pos (by omega)]
      rw [if_neg z] at eb eb2 ⊢
      rw [if_neg (show ¬ zI (-1) = 10 by decide), eb, q_bd_some, if_neg (show ¬ zI (-1) = 32 by decide), i2, eb2, q_bd_some, if_neg (show ¬ (0 : Int32) ≤ zI (-1) by decide)]
      refine ⟨_, rfl, hr_fr.si rfl (hr_fr.sl rfl f1), ?_, ?_, ?_, fun h => by omega, fun h => by omega⟩
      · rw [si_same, if_neg (by omega), enn]; exact g11
      · rw [si_same, if_neg (by omega)]; exact g13
      · rw [si_same, if_pos rfl, ek]; rfl
end MOD
