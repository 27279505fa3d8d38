/-! THE MODEL'S READER: words, the first fault, numbers -/
theorem lN_inj {a b : Nat} (ha : a < 18446744073709551616) (hb : b < 18446744073709551616) : lN a = lN b ↔ a = b := by
  constructor
  · intro h
    have h2 : BitVec.ofNat 64 a = BitVec.ofNat 64 b := congrArg Int64.toBitVec h
    have h3 := congrArg BitVec.toNat h2
    rw [BitVec.toNat_ofNat, BitVec.toNat_ofNat] at h3
    omega
  · intro h; rw [h]
theorem pckN_lt {f : Nat → Nat} : ∀ n, (∀ i, i < n → f i < 256) → pckN f n < 256 ^ n
  | 0, _ => by show 0 < 1; omega
  | n + 1, h => by
    have h1 := pckN_lt n (fun i hi => h i (by omega))
    have h2 := h n (by omega)
    show pckN f n * 256 + f n < 256 ^ (n + 1)
    rw [Nat.pow_succ]
    omega
theorem pckN_inj {f g : Nat → Nat} : ∀ n m, (∀ i, i < n → 0 < f i ∧ f i < 256) → (∀ i, i < m → 0 < g i ∧ g i < 256) → pckN f n = pckN g m → n = m ∧ ∀ i, i < n → f i = g i
  | 0, 0, _, _, _ => ⟨rfl, fun i hi => by omega⟩
  | 0, m + 1, _, hg, h => by
    have h2 := hg m (by omega)
    have h3 : 0 = pckN g m * 256 + g m := h
    omega
  | n + 1, 0, hf, _, h => by
    have h2 := hf n (by omega)
    have h3 : pckN f n * 256 + f n = 0 := h
    omega
  | n + 1, m + 1, hf, hg, h => by
    have h2 := hf n (by omega)
    have h3 := hg m (by omega)
    have h4 : pckN f n * 256 + f n = pckN g m * 256 + g m := h
    obtain ⟨i1, i2⟩ := pckN_inj n m (fun i hi => hf i (by omega)) (fun i hi => hg i (by omega)) (by omega)
    refine ⟨by omega, fun i hi => ?_⟩
    by_cases z : i = n
    · rw [z]
      have : f n = g m := by omega
      rw [this, i1]
    · exact i2 i (by omega)
theorem pckN_congr {f g : Nat → Nat} : ∀ n, (∀ i, i < n → f i = g i) → pckN f n = pckN g n
  | 0, _ => rfl
  | n + 1, h => by
    show pckN f n * 256 + f n = pckN g n * 256 + g n
    rw [pckN_congr n (fun i hi => h i (by omega)), h n (by omega)]
/-- a line's word, packed -/
def wcK (k : Nat) : Nat := pckN (wby k) (wln k)
def wdN (B : Nat → Nat) (L p : Nat) : Nat := if kT B L p = 1 then wrd B L p else 0
theorem wln_pos : ∀ k, k < 18 → 0 < wln k := by decide +kernel
theorem w_bytes {B : Nat → Nat} {L : Nat} (hL : L ≤ 600) {p : Nat} (hp : p ≤ L) (h : kT B L p = 1) : ∀ i, i < nT B L p - sT B L p → 97 ≤ B (sT B L p + i) ∧ B (sT B L p + i) ≤ 122 := by
  obtain ⟨p1, p2, p3, p4, p5, p6⟩ := tok_ok (B := B) hL hp
  unfold kT at h
  by_cases z : L ≤ sT B L p
  · rw [if_pos z] at h; cases h
  rw [if_neg z] at h
  cases hl : ltr (B (sT B L p)) with
  | false =>
    rw [hl, if_neg (by simp)] at h
    split at h
    · split at h <;> cases h
    · split at h <;> cases h
  | true =>
    have enn : nT B L p = eT B L p := by unfold nT; rw [if_neg z, if_pos (Or.inl hl)]
    have ee : eT B L p = stp B L ltr 601 (sT B L p) := by unfold eT; rw [hl, if_pos rfl]
    obtain ⟨s1, s2, s3, s4⟩ := stp_ok (B := B) (q := ltr) 601 (sT B L p) p2 (by omega)
    rw [← ee, ← enn] at s3
    intro i hi
    exact of_decide_eq_true (s3 (sT B L p + i) (by omega) (by omega))
theorem w_eq {B : Nat → Nat} {L : Nat} (hL : L ≤ 600) {p : Nat} (hp : p ≤ L) {k : Nat} (hk : k < 18) : lg_cmp (lN (wdN B L p)) (lN (wcK k)) = 0 ↔ isW B L p k = true := by
  have w7 := (tbl_ok k hk).2.2.2.2.2
  have w0 := wln_pos k hk
  have wk := wds_ok k hk
  have hc : ∀ i, i < wln k → 0 < wby k i ∧ wby k i < 256 := fun i hi => (wk i hi).2
  have c1 : wcK k < 256 ^ wln k := pckN_lt _ (fun i hi => (hc i hi).2)
  have c2 : 256 ^ wln k ≤ 256 ^ 7 := Nat.pow_le_pow_right (by decide) w7
  have c0 : 0 < wcK k := by
    obtain ⟨n, hn⟩ : ∃ n, wln k = n + 1 := ⟨wln k - 1, by omega⟩
    have := (hc n (by omega)).1
    unfold wcK
    rw [hn]
    show 0 < pckN (wby k) n * 256 + wby k n
    omega
  rw [lg_cmp_eq]
  unfold wdN
  by_cases h1 : kT B L p = 1
  · have wb := w_bytes hL hp h1
    rw [if_pos h1]
    unfold wrd
    by_cases h8 : nT B L p - sT B L p ≤ 8
    · have hf : ∀ i, i < nT B L p - sT B L p → 0 < B (sT B L p + i) ∧ B (sT B L p + i) < 256 := fun i hi => by have := wb i hi; omega
      have d1 : pckN (fun i => B (sT B L p + i)) (nT B L p - sT B L p) < 256 ^ (nT B L p - sT B L p) := pckN_lt _ (fun i hi => (hf i hi).2)
      have d2 : 256 ^ (nT B L p - sT B L p) ≤ 256 ^ 8 := Nat.pow_le_pow_right (by decide) h8
      rw [if_pos h8, lN_inj (by omega) (by omega)]
      constructor
      · intro h
        obtain ⟨g1, g2⟩ := pckN_inj _ _ hf hc h
        unfold isW
        rw [decide_eq_true h1, decide_eq_true g1, Bool.true_and, Bool.true_and]
        have : exb (fun i => B (sT B L p + i) != wby k i) (wln k) = false := exb_no.mpr (fun i hi => by
          have := g2 i (by omega)
          simp [this])
        rw [this]
        rfl
      · intro h
        unfold isW at h
        rw [Bool.and_eq_true, Bool.and_eq_true] at h
        have a1 : nT B L p - sT B L p = wln k := of_decide_eq_true h.2.1
        have b1 := exb_no.mp (by simpa using h.2.2)
        rw [a1]
        exact pckN_congr _ (fun i hi => by simpa using b1 i hi)
    · rw [if_neg h8, lN_inj (by omega) (by omega)]
      constructor
      · intro h; omega
      · intro h
        unfold isW at h
        rw [Bool.and_eq_true, Bool.and_eq_true] at h
        have a1 : nT B L p - sT B L p = wln k := of_decide_eq_true h.2.1
        omega
  · rw [if_neg h1, lN_inj (by omega) (by omega)]
    constructor
    · intro h; omega
    · intro h
      unfold isW at h
      rw [Bool.and_eq_true] at h
      exact absurd (of_decide_eq_true h.1) h1
/-- the first fault, and its place, which is before b -/
def flm (M : PM) (f q b : Nat) : Prop := M.1 275 18 = nI f ∧ f ≤ 4 ∧ (f ≠ 0 → M.1 275 19 = nI q ∧ q < b)
theorem flm.up {M : PM} {f q b c : Nat} (h : flm M f q b) (hc : b ≤ c) : flm M f q c := ⟨h.1, h.2.1, fun z => ⟨(h.2.2 z).1, Nat.lt_of_lt_of_le (h.2.2 z).2 hc⟩⟩
theorem flm.fr {M M' : PM} {f q b : Nat} (h : flm M f q b) {W : List (Nat × Nat)} (hf : hr_fr W M M') (h1 : hr_in W 275 18 = false) (h2 : hr_in W 275 19 = false) : flm M' f q b := ⟨(hf.at 275 18 h1).trans h.1, h.2.1, fun z => ⟨(hf.at 275 19 h2).trans (h.2.2 z).1, (h.2.2 z).2⟩⟩
/-- a fault more -/
def fl2 (f q : Nat) (bad : Bool) (a s : Nat) : Nat × Nat := if f = 0 ∧ bad = true then (a, s) else (f, q)
theorem s_later {M : PM} {f q b a : Nat} (h : flm M f q b) (hb : b ≤ 600) (ha : a ≤ 4) : ∃ M', f_X11_later (nI a) (nI b) M = some ((), M') ∧ hr_fr [(275, 19), (275, 20)] M M' ∧ flm M' (fl2 f q true a b).1 (fl2 f q true a b).2 (b + 1) := by
  obtain ⟨h1, h2, h3⟩ := h
  unfold f_X11_later fl2
  rw [h1]
  by_cases z : f = 0
  · rw [if_pos (show nI f = 0 by rw [z]; rfl), if_pos ⟨z, rfl⟩]
    exact ⟨_, rfl, hr_fr.si rfl (hr_fr.si rfl (hr_fr.rf _ _)), by rw [si_same, if_neg (by omega), si_same, if_pos rfl], ha, fun _ => ⟨by rw [si_same, if_pos rfl], by show b < b + 1; omega⟩⟩
  · obtain ⟨h4, h5⟩ := h3 z
    rw [if_neg (show ¬ nI f = 0 from fun w => z ((q_eq (b := 0) (by omega) (by omega)).mp w)), h4, if_neg (fun w => by have := (q_lt (by omega) (by omega)).mp w; omega), if_neg (fun w => by have := (q_eq (by omega) (by omega)).mp w; omega), if_neg (fun w => z w.1)]
    exact ⟨M, rfl, hr_fr.rf _ _, h1, h2, fun _ => ⟨h4, by show q < b + 1; omega⟩⟩
/-- what the model's numbers may write -/
abbrev tmW : List (Nat × Nat) := [(275, 12), (275, 14), (275, 15), (275, 16), (275, 17), (275, 18), (275, 19), (275, 20), (275, 24), (287, 0)]
/-- a token looked at, the first fault before it -/
def mSt (M : PM) (B : Nat → Nat) (L p f q : Nat) : Prop := mTk M B L p ∧ flm M f q (sT B L p)
def bdN (lo hi v : Nat) (but : Int) : Bool := decide (v < lo ∨ hi < v ∨ (v : Int) = but)
section MOD
variable {B : Nat → Nat} {L : Nat}
theorem sT_mono (hL : L ≤ 600) {p : Nat} (hp : p ≤ L) (h : kT B L p ≠ 0) : sT B L p + 1 ≤ sT B L (nT B L p) := by
  obtain ⟨p1, p2, p3, p4, p5, p6⟩ := tok_ok (B := B) hL hp
  have := (tok_ok (B := B) hL p4).1
  have := p5 h
  omega
theorem s_tok58 {M : PM} (hr : mrd M B L) (hL : L ≤ 600) (hB : ∀ i, B i < 256) {p : Nat} (hp : p ≤ L) (h11 : M.1 275 11 = nI (nT B L p)) (hk : kT B L p ≠ 0) {f q : Nat} (hf : flm M f q (sT B L p + 1)) (x1 x2 x3 x4 : Int32) : ∃ M', f_X11_takeBut_58 x1 x2 x3 x4 M = some (1, M') ∧ hr_fr tokW M M' ∧ mSt M' B L (nT B L p) f q := by
  obtain ⟨M', g1, g2, g3⟩ := s_token (M0 := M) hr hL hB ((tok_ok (B := B) hL hp).2.2.2.1) h11
  unfold f_X11_takeBut_58
  rw [g1, q_bd_some]
  exact ⟨M', rfl, g2, g3, (hf.fr g2 rfl rfl).up (sT_mono hL hp hk)⟩
theorem s_tkB {M : PM} (hr : mrd M B L) (hL : L ≤ 600) (hB : ∀ i, B i < 256) {p : Nat} (hp : p ≤ L) {f q : Nat} (hs : mSt M B L p f q) {i lo hi : Nat} (hi4 : i < 4) (hlo : lo ≤ 99) (hhi : hi ≤ 99) {but : Int} (hbut : -1 ≤ but ∧ but ≤ 99) : (kT B L p ≠ 2 → ∃ M', f_X11_takeBut (nI i) (nI lo) (nI hi) (zI but) M = some (0, M') ∧ hr_fr tmW M M' ∧ M'.1 275 17 = nI (sT B L p)) ∧ (kT B L p = 2 → ∃ M', f_X11_takeBut (nI i) (nI lo) (nI hi) (zI but) M = some (1, M') ∧ hr_fr tmW M M' ∧ mSt M' B L (nT B L p) (fl2 f q (bdN lo hi (vT B L p) but) 2 (sT B L p)).1 (fl2 f q (bdN lo hi (vT B L p) but) 2 (sT B L p)).2 ∧ (∀ j, M'.1 287 j = if j = i then nI (vT B L p) else M.1 287 j) ∧ M'.1 275 23 = if bdN lo hi (vT B L p) but = true then nI 0 else M.1 275 23) := by
  obtain ⟨⟨t1, t2, t3, t4, t5⟩, hfl⟩ := hs
  have s6 := (tok_ok (B := B) hL hp).2.1
  have kle : kT B L p ≤ 4 := by unfold kT; split <;> (try split) <;> (try split) <;> (try split) <;> omega
  constructor
  · intro z
    unfold f_X11_takeBut
    have n3 : ¬ M.1 275 14 = 3 := by
      rw [t3]
      unfold mKd
      intro y
      have kk : kT B L p = 0 ∨ kT B L p = 1 ∨ kT B L p = 3 ∨ kT B L p = 4 := by omega
      rcases kk with k | k | k | k <;> rw [k] at y <;> revert y <;> decide
    rw [if_neg n3]
    unfold f_X11_fails
    rw [t2, q_bd_some, if_pos (Or.inl rfl)]
    exact ⟨_, rfl, hr_fr.si rfl (hr_fr.rf _ _), by rw [si_same, if_pos rfl]⟩
  · intro z
    have v99 := vT_le hL hp z
    have e15 := t4 z
    unfold f_X11_takeBut
    rw [t3, z, if_pos (show nI (mKd 2) = 3 by decide), if_pos (q_in hi4 (by omega)), q_cl (by omega), e15]
    generalize hM1 : hr_si M 287 i (nI (vT B L p)) = M1
    have r1 : ∀ c, c ≠ 287 → M1.1 c = M.1 c := fun c hc => by rw [← hM1, si_ne _ _ _ hc]
    have f1 : hr_fr tmW M M1 := by rw [← hM1]; exact hr_fr.si rfl (hr_fr.rf _ _)
    have h87 : ∀ j, M1.1 287 j = if j = i then nI (vT B L p) else M.1 287 j := fun j => by rw [← hM1, si_same]
    have hr1 : mrd M1 B L := hr.fr f1 rfl (fun _ => rfl)
    have hfl1 : flm M1 f q (sT B L p) := ⟨by rw [r1 275 (by omega)]; exact hfl.1, hfl.2.1, fun w => ⟨by rw [r1 275 (by omega)]; exact (hfl.2.2 w).1, (hfl.2.2 w).2⟩⟩
    have k0 : kT B L p ≠ 0 := by omega
    rw [r1 275 (by omega), e15, s_inab M1 _ (by omega) (by omega), q_bd_some, r1 275 (by omega), e15, q_cl (by omega)]
    have e44 : ∃ M', f_X11_takeBut_44 (nI i) (nI lo) (nI hi) (zI but) M1 = some (1, M') ∧ hr_fr tmW M M' ∧ mSt M' B L (nT B L p) (fl2 f q true 2 (sT B L p)).1 (fl2 f q true 2 (sT B L p)).2 ∧ (∀ j, M'.1 287 j = if j = i then nI (vT B L p) else M.1 287 j) ∧ M'.1 275 23 = nI 0 := by
      unfold f_X11_takeBut_44
      obtain ⟨M2, g1, g2, g3⟩ := s_later (a := 2) hfl1 (by omega) (by omega)
      rw [r1 275 (by omega), t2, show (2 : Int32) = nI 2 from rfl, g1, q_bd_some]
      have f2 : hr_fr tmW M (hr_si M2 275 23 0) := hr_fr.si rfl (f1.tr (hr_fr.mono rfl g2))
      obtain ⟨M', k1, k2, k3⟩ := s_tok58 (M := hr_si M2 275 23 0) (hr.fr f2 rfl (fun _ => rfl)) hL hB hp (by rw [si_same, if_neg (by omega), g2.at 275 11 rfl, r1 275 (by omega)]; exact t1) k0 (f := (fl2 f q true 2 (sT B L p)).1) (q := (fl2 f q true 2 (sT B L p)).2) ⟨by rw [si_same, if_neg (by omega)]; exact g3.1, g3.2.1, fun w => ⟨by rw [si_same, if_neg (by omega)]; exact (g3.2.2 w).1, (g3.2.2 w).2⟩⟩ (nI i) (nI lo) (nI hi) (zI but)
      refine ⟨M', k1, f2.tr (hr_fr.mono rfl k2), k3, fun j => ?_, ?_⟩
      · rw [k2.at 287 j rfl, si_ne _ _ _ (show 287 ≠ 275 by omega), g2.at 287 j rfl]; exact h87 j
      · rw [k2.at 275 23 rfl, si_same, if_pos rfl]; rfl
    have e58 : ∃ M', f_X11_takeBut_58 (nI i) (nI lo) (nI hi) (zI but) M1 = some (1, M') ∧ hr_fr tmW M M' ∧ mSt M' B L (nT B L p) f q ∧ (∀ j, M'.1 287 j = if j = i then nI (vT B L p) else M.1 287 j) ∧ M'.1 275 23 = M.1 275 23 := by
      obtain ⟨M', k1, k2, k3⟩ := s_tok58 (M := M1) hr1 hL hB hp (by rw [r1 275 (by omega)]; exact t1) k0 (hfl1.up (by omega)) (nI i) (nI lo) (nI hi) (zI but)
      exact ⟨M', k1, f1.tr (hr_fr.mono rfl k2), k3, fun j => by rw [k2.at 287 j rfl]; exact h87 j, by rw [k2.at 275 23 rfl, r1 275 (by omega)]⟩
    by_cases y : lo ≤ vT B L p ∧ vT B L p ≤ hi
    · rw [decide_eq_true (show ¬ nI (vT B L p) < 0 ∧ lo ≤ vT B L p ∧ vT B L p ≤ hi from ⟨nI_pos (by omega), y.1, y.2⟩), if_neg (show ¬ bI true = 0 by decide)]
      by_cases w : (vT B L p : Int) = but
      · have eb : bdN lo hi (vT B L p) but = true := decide_eq_true (Or.inr (Or.inr w))
        rw [if_pos (show nI (vT B L p) = zI but by rw [q_nz, w]), eb, if_pos rfl]
        exact e44
      · have eb : bdN lo hi (vT B L p) but = false := decide_eq_false (by omega)
        rw [if_neg (show ¬ nI (vT B L p) = zI but from fun u => w ((q_nzeq (by omega) (by omega)).mp u)), eb, if_neg (by simp)]
        have ef : fl2 f q false 2 (sT B L p) = (f, q) := if_neg (fun u => by cases u.2)
        rw [ef]
        exact e58
    · have eb : bdN lo hi (vT B L p) but = true := decide_eq_true (by omega)
      rw [decide_eq_false (fun u => y ⟨u.2.1, u.2.2⟩), if_pos (show bI false = 0 from rfl), eb, if_pos rfl]
      exact e44
end MOD
