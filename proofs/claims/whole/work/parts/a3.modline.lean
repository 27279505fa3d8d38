/-! THE MODEL'S READER: lines of a palette -/
theorem keep_F (k : Nat) : ∀ X v0 v1 v2, xF (keepX k v0 v1 v2 X) = xF X := by
  intro X v0 v1 v2
  unfold keepX
  split
  · rfl
  · split
    · rfl
    · split
      · rfl
      · split <;> rfl
/-- a line, its semicolon aside -/
def preS (B : Nat → Nat) (L s p : Nat) (X : Txt) : Bool × Nat × Txt :=
  match lkS B L s p with
  | none => (false, p, X)
  | some k => if k = 17 then
      (if kT B L (nT B L p) ≠ 2 then (false, nT B L p, X) else (true, (gdS B L 601 (nT B L p) 0 none).1, gefX (sT B L p) (gdS B L 601 (nT B L p) 0 none).2.1 (gdS B L 601 (nT B L p) 0 none).2.2 X))
    else if (nmS B L (kn k) (nT B L p)).1 = false then (false, (nmS B L (kn k) (nT B L p)).2, X)
    else (true, (nmS B L (kn k) (nT B L p)).2, effX k (sT B L p) (vT B L (ps B L (nT B L p) 0)) (vT B L (ps B L (nT B L p) 1)) (vT B L (ps B L (nT B L p) 2)) (sT B L (ps B L (nT B L p) 0)) (sT B L (ps B L (nT B L p) 1)) (sT B L (ps B L (nT B L p) 2)) X)
theorem preS_line {B : Nat → Nat} {L s p : Nat} {X : Txt} : lineS B L s p X = if (preS B L s p X).1 = false then (false, (preS B L s p X).2.1, X) else if kT B L (preS B L s p X).2.1 ≠ 3 then (false, (preS B L s p X).2.1, X) else (true, nT B L (preS B L s p X).2.1, (preS B L s p X).2.2) := by
  cases hk : lkS B L s p with
  | none =>
    have e : preS B L s p X = (false, p, X) := by unfold preS; rw [hk]
    have e2 : lineS B L s p X = (false, p, X) := by unfold lineS; rw [hk]
    rw [e, e2]
    rfl
  | some k =>
    by_cases z : k = 17
    · by_cases y : kT B L (nT B L p) ≠ 2
      · have e : preS B L s p X = (false, nT B L p, X) := by unfold preS; rw [hk]; dsimp only; rw [if_pos z, if_pos y]
        have e2 : lineS B L s p X = (false, nT B L p, X) := by unfold lineS; rw [hk]; dsimp only; rw [if_pos z, if_pos y]
        rw [e, e2]
        rfl
      · have e : preS B L s p X = (true, (gdS B L 601 (nT B L p) 0 none).1, gefX (sT B L p) (gdS B L 601 (nT B L p) 0 none).2.1 (gdS B L 601 (nT B L p) 0 none).2.2 X) := by unfold preS; rw [hk]; dsimp only; rw [if_pos z, if_neg y]
        rw [e, if_neg (show ¬ true = false by simp)]
        unfold lineS
        rw [hk]
        dsimp only
        rw [if_pos z, if_neg y]
    · by_cases y : (nmS B L (kn k) (nT B L p)).1 = false
      · have e : preS B L s p X = (false, (nmS B L (kn k) (nT B L p)).2, X) := by unfold preS; rw [hk]; dsimp only; rw [if_neg z, if_pos y]
        have e2 : lineS B L s p X = (false, (nmS B L (kn k) (nT B L p)).2, X) := by unfold lineS; rw [hk]; dsimp only; rw [if_neg z, if_pos y]
        rw [e, e2]
        rfl
      · have e : preS B L s p X = (true, (nmS B L (kn k) (nT B L p)).2, effX k (sT B L p) (vT B L (ps B L (nT B L p) 0)) (vT B L (ps B L (nT B L p) 1)) (vT B L (ps B L (nT B L p) 2)) (sT B L (ps B L (nT B L p) 0)) (sT B L (ps B L (nT B L p) 1)) (sT B L (ps B L (nT B L p) 2)) X) := by unfold preS; rw [hk]; dsimp only; rw [if_neg z, if_neg y]
        rw [e, if_neg (show ¬ true = false by simp)]
        unfold lineS
        rw [hk]
        dsimp only
        rw [if_neg z, if_neg y]
/-- what a line may write in the model -/
abbrev lmW : List (Nat × Nat) := [(275, 12), (275, 14), (275, 15), (275, 16), (275, 17), (275, 18), (275, 19), (275, 20), (275, 23), (275, 24), (286, 0), (287, 0)]
def lnOut (M : PM) (B : Nat → Nat) (L s p : Nat) (X : Txt) (R : PM → Txt → Prop) (r : Option (Int32 × PM)) : Prop := ((preS B L s p X).1 = false ∧ ∃ M', r = some (0, M') ∧ hr_fr lmW M M' ∧ M'.1 275 17 = nI (sT B L (preS B L s p X).2.1)) ∨ ((preS B L s p X).1 = true ∧ ∃ M', r = some (1, M') ∧ hr_fr lmW M M' ∧ mSt M' B L (preS B L s p X).2.1 (xF (preS B L s p X).2.2) (xQ (preS B L s p X).2.2) ∧ R M' (preS B L s p X).2.2)
section MOD
variable {B : Nat → Nat} {L : Nat}
theorem flm_eq {M : PM} {f q f' q' b : Nat} (h : flm M f q b) (h1 : f = f') (h2 : f ≠ 0 → q = q') : flm M f' q' b := by
  subst h1
  exact ⟨h.1, h.2.1, fun z => by rw [← h2 z]; exact h.2.2 z⟩
/-- no line of the sort begins with the word -/
theorem w_none {s p : Nat} (hL : L ≤ 600) (hp : p ≤ L) (h : lkS B L s p = none) : ∀ j, j < 18 → kc j / 10 = s → ¬ lg_cmp (lN (wdN B L p)) (lN (wcK j)) = 0 := by
  intro j hj hs hw
  have := (lkS_iff (s := s)).mpr ⟨hj, hs, (w_eq hL hp hj).mp hw⟩
  rw [h] at this
  cases this
/-- only one does -/
theorem w_some {s p k : Nat} (hL : L ≤ 600) (hp : p ≤ L) (h : lkS B L s p = some k) : lg_cmp (lN (wdN B L p)) (lN (wcK k)) = 0 ∧ ∀ j, j < 18 → j ≠ k → ¬ lg_cmp (lN (wdN B L p)) (lN (wcK j)) = 0 := by
  obtain ⟨h1, h2, h3⟩ := lkS_iff.mp h
  exact ⟨(w_eq hL hp h1).mpr h3, fun j hj hjk hw => hjk (isW_one hj h1 ((w_eq hL hp hj).mp hw) h3)⟩
theorem nm_fail {M0 M : PM} {p d j m : Nat} {F : Nat × Nat} {bad : Nat → Bool} (h : nst M0 M B L p d F bad j) (hj : j < m) (z : kT B L (ps B L p j) ≠ 2) : nmS B L m p = (false, ps B L p j) := by
  rw [nmS_at j m p (by omega) h.2.2.2.2.2]
  obtain ⟨e, he⟩ : ∃ e, m - j = e + 1 := ⟨m - j - 1, by omega⟩
  rw [he]
  show (if kT B L (ps B L p j) = 2 then _ else _) = _
  rw [if_neg z]
theorem nm_done {M0 M : PM} {p d m : Nat} {F : Nat × Nat} {bad : Nat → Bool} (h : nst M0 M B L p d F bad m) : nmS B L m p = (true, ps B L p m) := by
  rw [nmS_at m m p (Nat.le_refl _) h.2.2.2.2.2, Nat.sub_self]
  rfl
theorem num_takeB {M0 M : PM} {Q : Option (Int32 × PM) → Prop} (hr : mrd M0 B L) (hL : L ≤ 600) (hB : ∀ i, B i < 256) {p d j m : Nat} {F : Nat × Nat} {bad : Nat → Bool} (hp : p ≤ L) (hj : j < m) (hd : d + j < 4) (h : nst M0 M B L p d F bad j) (lo hi : Nat) (but : Int) {ei elo ehi ebut : Int32} (e1 : ei = nI (d + j)) (e2 : elo = nI lo) (e3 : ehi = nI hi) (e4 : ebut = zI but) (hlo : lo ≤ 99) (hhi : hi ≤ 99) (hbut : -1 ≤ but ∧ but ≤ 99) (hb : kT B L (ps B L p j) = 2 → bdN lo hi (vT B L (ps B L p j)) but = bad j) (hfail : ∀ M', (nmS B L m p).1 = false → hr_fr tmW M0 M' → M'.1 275 17 = nI (sT B L (nmS B L m p).2) → Q (some (0, M'))) {cont : PM → Option (Int32 × PM)} (hcont : ∀ M1, nst M0 M1 B L p d F bad (j + 1) → Q (cont M1)) : Q (hr_bd (f_X11_takeBut ei elo ehi ebut M) (fun v M1 => if v = 0 then some (0, M1) else cont M1)) := by
  subst e1 e2 e3 e4
  obtain ⟨g1, g2⟩ := nst_step hr hL hB hp h hd hlo hhi hbut hb
  by_cases z : kT B L (ps B L p j) = 2
  · obtain ⟨M', k1, k2⟩ := g2 z
    rw [k1, q_bd_some, if_neg (show ¬ (1 : Int32) = 0 by decide)]
    exact hcont M' k2
  · obtain ⟨M', k1, k2, k3⟩ := g1 z
    have e := nm_fail h hj z
    rw [k1, q_bd_some, if_pos rfl]
    exact hfail M' (by rw [e]) k2 (by rw [e]; exact k3)
theorem take_eq {i lo hi : Int32} {M : PM} (h : ∃ v M', (v = 0 ∨ v = 1) ∧ f_X11_takeBut i lo hi (zI (-1)) M = some (v, M')) : f_X11_take i lo hi M = f_X11_takeBut i lo hi (zI (-1)) M := by
  obtain ⟨v, M', h1, h2⟩ := h
  rw [s_takeM h1 h2, h2]
theorem nst_eq {M0 M : PM} (hr : mrd M0 B L) (hL : L ≤ 600) (hB : ∀ i, B i < 256) {p d j : Nat} {F : Nat × Nat} {bad : Nat → Bool} (hp : p ≤ L) (hd : d + j < 4) (h : nst M0 M B L p d F bad j) {lo hi : Nat} (hlo : lo ≤ 99) (hhi : hi ≤ 99) (hb : kT B L (ps B L p j) = 2 → bdN lo hi (vT B L (ps B L p j)) (-1) = bad j) : f_X11_take (nI (d + j)) (nI lo) (nI hi) M = f_X11_takeBut (nI (d + j)) (nI lo) (nI hi) (zI (-1)) M := by
  obtain ⟨g1, g2⟩ := nst_step hr hL hB hp h hd hlo hhi (but := -1) (by omega) hb
  apply take_eq
  by_cases z : kT B L (ps B L p j) = 2
  · obtain ⟨M', k1, k2⟩ := g2 z
    exact ⟨1, M', Or.inr rfl, k1⟩
  · obtain ⟨M', k1, k2, k3⟩ := g1 z
    exact ⟨0, M', Or.inl rfl, k1⟩
theorem num_take {M0 M : PM} {Q : Option (Int32 × PM) → Prop} (hr : mrd M0 B L) (hL : L ≤ 600) (hB : ∀ i, B i < 256) {p d j m : Nat} {F : Nat × Nat} {bad : Nat → Bool} (hp : p ≤ L) (hj : j < m) (hd : d + j < 4) (h : nst M0 M B L p d F bad j) (lo hi : Nat) {ei elo ehi : Int32} (e1 : ei = nI (d + j)) (e2 : elo = nI lo) (e3 : ehi = nI hi) (hlo : lo ≤ 99) (hhi : hi ≤ 99) (hb : kT B L (ps B L p j) = 2 → bdN lo hi (vT B L (ps B L p j)) (-1) = bad j) (hfail : ∀ M', (nmS B L m p).1 = false → hr_fr tmW M0 M' → M'.1 275 17 = nI (sT B L (nmS B L m p).2) → Q (some (0, M'))) {cont : PM → Option (Int32 × PM)} (hcont : ∀ M1, nst M0 M1 B L p d F bad (j + 1) → Q (cont M1)) : Q (hr_bd (f_X11_take ei elo ehi M) (fun v M1 => if v = 0 then some (0, M1) else cont M1)) := by
  subst e1 e2 e3
  rw [nst_eq hr hL hB hp hd h hlo hhi hb]
  exact num_takeB hr hL hB hp hj hd h lo hi (-1) rfl rfl rfl rfl hlo hhi (by omega) hb hfail hcont
/-- what is told of a palette -/
def mE0 (M : PM) (X : Txt) : Prop := (M.1 286 0 = nI (pH (xP X)) ∧ M.1 286 1 = nI (pR (xP X))) ∧ ((∀ i, i < 3 * pH (xP X) → M.1 286 (2 + i) = nI (pP (xP X) i)) ∧ (∀ i, i < 3 * pR (xP X) → M.1 286 (32 + i) = zI (pU (xP X) i)) ∧ ∀ i, i < 20 → M.1 286 (50 + i) = nI (pL (xP X) i)) ∧ ∃ z : Int, M.1 275 22 = zI z ∧ (-1 ≤ z ∧ z ≤ 9) ∧ ∀ h : Nat, xN X < 2 ^ h ↔ z < (h : Int)
def mX0 (M : PM) (X : Txt) : Prop := (∃ n m, ∃ z : Int, (M.1 286 0 = nI n ∧ n ≤ 10) ∧ (M.1 286 1 = nI m ∧ m ≤ 6) ∧ M.1 275 22 = zI z ∧ -1 ≤ z ∧ z ≤ 99) ∧ (xF X = 0 → mE0 M X)
theorem mX0_eq {M M' : PM} {X : Txt} (h : mX0 M X) (h1 : M'.1 286 = M.1 286) (h2 : M'.1 275 22 = M.1 275 22) : mX0 M' X := by
  unfold mX0 mE0 at h ⊢
  rw [h1, h2]
  exact h
theorem mX0_fr {M M' : PM} {X : Txt} {W : List (Nat × Nat)} (h : mX0 M X) (hf : hr_fr W M M') (h1 : ∀ k, hr_in W 286 k = false) (h2 : hr_in W 275 22 = false) : mX0 M' X := mX0_eq h (hf.row 286 h1) (hf.at 275 22 h2)
theorem rng.fr1 {M M' : PM} {a : Nat} {W : List (Nat × Nat)} (h : rng a a M M') (hw : hr_cov W a 0 = true) : hr_fr W M M' := h.fr (fun c c1 c2 => by rw [show c = a by omega]; exact hw)
/-- a hue's line, its numbers first -/
theorem m_hue {M0 : PM} {X : Txt} {p ws : Nat} {df : Bool} (hr : mrd M0 B L) (hL : L ≤ 600) (hB : ∀ i, B i < 256) (hp : p ≤ L) (h : mX0 M0 X) (ok : xOK 0 X) (hd : xF X = 0 → df = fullX 0 X) (hs : mSt M0 B L p (fl2 (xF X) (xQ X) df 3 ws).1 (fl2 (xF X) (xQ X) df 3 ws).2) {Q : Option (Int32 × PM) → Prop} (hfail : ∀ M', (nmS B L 3 p).1 = false → hr_fr tmW M0 M' → M'.1 275 17 = nI (sT B L (nmS B L 3 p).2) → Q (some (0, M'))) (hok : ∀ M' Y, Y = effX 0 ws (vT B L (ps B L p 0)) (vT B L (ps B L p 1)) (vT B L (ps B L p 2)) (sT B L (ps B L p 0)) (sT B L (ps B L p 1)) (sT B L (ps B L p 2)) X → nmS B L 3 p = (true, ps B L p 3) → hr_fr lmW M0 M' → mSt M' B L (ps B L p 3) (xF Y) (xQ Y) → mX0 M' Y → Q (some (1, M'))) : Q (f_X11_hueLine M0) := by
  have ek : kn 0 = 3 ∧ kc 0 = 5 ∧ kfm 0 = 9 ∧ ksl 0 = 0 ∧ ksm 0 = 9 ∧ ktm 0 = 9 := by decide +kernel
  obtain ⟨k1, k2, k3, k4, k5, k6⟩ := ek
  generalize hv0 : vT B L (ps B L p 0) = v0 at hok
  generalize hv1 : vT B L (ps B L p 1) = v1 at hok
  generalize hv2 : vT B L (ps B L p 2) = v2 at hok
  have b0 : badK 0 v0 v1 v2 0 = decide (9 < v0) := by unfold badK; rw [if_pos rfl, k3]
  have b1 : badK 0 v0 v1 v2 1 = decide (9 < v1) := by
    unfold badK bad2
    rw [if_neg (by omega), if_pos rfl, k4, k5, k2, if_neg (by omega), decide_eq_false (show ¬ (v1 = v0 ∧ (5 = 3 ∨ 5 = 30 ∨ 5 = 31)) by omega), Bool.or_false, decide_eq_decide]
    omega
  have b2 : badK 0 v0 v1 v2 2 = decide (9 < v2) := by unfold badK; rw [if_neg (by omega), if_neg (by omega), k6]
  unfold f_X11_hueLine
  refine num_take (Q := Q) (m := 3) hr hL hB hp (j := 0) (d := 0) (by omega) (by omega) (nst_0 (bad := badK 0 v0 v1 v2) hs) 0 9 rfl rfl rfl (by omega) (by omega) (fun _ => by rw [hv0, b0]; unfold bdN; rw [decide_eq_decide]; omega) hfail ?_
  intro M1 n1
  refine num_take (Q := Q) (m := 3) hr hL hB hp (j := 1) (d := 0) (by omega) (by omega) n1 0 9 rfl rfl rfl (by omega) (by omega) (fun _ => by rw [hv1, b1]; unfold bdN; rw [decide_eq_decide]; omega) hfail ?_
  intro M2 n2
  refine num_take (Q := Q) (m := 3) hr hL hB hp (j := 2) (d := 0) (by omega) (by omega) n2 0 9 rfl rfl rfl (by omega) (by omega) (fun _ => by rw [hv2, b2]; unfold bdN; rw [decide_eq_decide]; omega) hfail ?_
  intro M3 n3
  have n3' := n3
  obtain ⟨c1, c2, c3, c4, c5, c6⟩ := n3
  obtain ⟨⟨n, m, z, ⟨d1, d2⟩, ⟨d3, d4⟩, d5, d6⟩, hE⟩ := mX0_fr h c2 (fun _ => rfl) rfl
  obtain ⟨M4, g1, g2, g3, g4⟩ := s_keepM (M := M3) (c := 0) (b := 2) (w := 3) (n := n) (lim := 10) d1 (by omega) d2 (by omega) (by omega) (by omega)
  have f4 : hr_fr lmW M3 M4 := g2.fr1 rfl
  obtain ⟨e1, e2, e3⟩ := nm_fin (B := B) (L := L) (p := p) (k := 0) (ws := ws) (X := X) (df := df) (by omega) hd (v0 := v0) (v1 := v1) (v2 := v2) (F := fqS B L (fl2 (xF X) (xQ X) df 3 ws) (badK 0 v0 v1 v2) p 3) (by rw [k1]) rfl (keep_F 0)
  rw [show (0 : Int32) = nI 0 from rfl, show (2 : Int32) = nI 2 from rfl, show (3 : Int32) = nI 3 from rfl, show (10 : Int32) = nI 10 from rfl, g1, q_bd_some]
  refine hok M4 _ rfl (nm_done n3') ((hr_fr.mono rfl c2).tr f4) ⟨?_, ?_⟩ ?_
  · unfold mTk
    rw [g2.1 275 (by omega), show M4.2 = M3.2 from g2.2]
    exact c1.1
  · refine flm_eq (flm.fr c1.2 (hr_fr.mono (V := [(286, 0)]) rfl (g2.fr1 (W := [(286, 0)]) rfl)) rfl rfl) e1 e2
  · have d7 : M4.1 275 22 = zI z := by rw [g2.1 275 (by omega)]; exact d5
    refine ⟨?_, fun hz => ?_⟩
    · by_cases y : n = 10
      · rw [g3 y]
        exact ⟨n, m, z, ⟨d1, d2⟩, ⟨d3, d4⟩, d5, d6⟩
      · have g4' := g4 (by omega)
        refine ⟨n + 1, m, z, ⟨by rw [g4', if_pos rfl], by omega⟩, ⟨by rw [g4', if_neg (by omega), if_neg (by omega)]; exact d3, d4⟩, d7, d6⟩
    · obtain ⟨x1, x2, x3, x4, x5⟩ := e3 hz
      obtain ⟨⟨E1, E2⟩, ⟨E3, E4, E5⟩, zz, E6, E7, E8⟩ := hE x1
      have hn : n = pH (xP X) := (q_eq (by omega) (by have := ok.1.1; omega)).mp (d1.symm.trans E1)
      have hf : ¬ 10 ≤ pH (xP X) := by
        unfold fullX at x2
        rw [if_neg (by omega), if_pos k2] at x2
        exact of_decide_eq_false x2
      have g4' := g4 (by omega)
      have l6 := ok.1.2.1
      rw [x4]
      unfold keepX
      rw [if_pos k2]
      have eH : pH (addH (xP X) v0 v1 v2) = pH (xP X) + 1 := rfl
      have eP : ∀ i, pP (addH (xP X) v0 v1 v2) i = if i = 3 * pH (xP X) then v0 else if i = 3 * pH (xP X) + 1 then v1 else if i = 3 * pH (xP X) + 2 then v2 else pP (xP X) i := fun _ => rfl
      refine ⟨⟨?_, ?_⟩, ⟨fun i hi => ?_, fun i hi => ?_, fun i hi => ?_⟩, zz, ?_, E7, E8⟩
      · show M4.1 286 0 = nI (pH (xP X) + 1)
        rw [g4', if_pos rfl, hn]
      · show M4.1 286 1 = nI (pR (xP X))
        rw [g4', if_neg (by omega), if_neg (by omega)]; exact E2
      · have hi' : i < 3 * (pH (xP X) + 1) := hi
        show M4.1 286 (2 + i) = nI (pP (addH (xP X) v0 v1 v2) i)
        rw [g4', if_neg (by omega), eP, hn]
        have q0 := c3 0 (by omega)
        have q1 := c3 1 (by omega)
        have q2 := c3 2 (by omega)
        rw [hv0] at q0
        rw [hv1] at q1
        rw [hv2] at q2
        by_cases y0 : i = 3 * pH (xP X)
        · rw [if_pos (by omega), if_pos y0, show 2 + i - (2 + 3 * pH (xP X)) = 0 + 0 by omega]; exact q0
        · rw [if_neg y0]
          by_cases y1 : i = 3 * pH (xP X) + 1
          · rw [if_pos (by omega), if_pos y1, show 2 + i - (2 + 3 * pH (xP X)) = 0 + 1 by omega]; exact q1
          · rw [if_neg y1]
            by_cases y2 : i = 3 * pH (xP X) + 2
            · rw [if_pos (by omega), if_pos y2, show 2 + i - (2 + 3 * pH (xP X)) = 0 + 2 by omega]; exact q2
            · rw [if_neg (by omega), if_neg y2]; exact E3 i (by omega)
      · have hi' : i < 3 * pR (xP X) := hi
        show M4.1 286 (32 + i) = zI (pU (xP X) i)
        rw [g4', if_neg (by omega), if_neg (by omega)]; exact E4 i hi'
      · show M4.1 286 (50 + i) = nI (pL (xP X) i)
        rw [g4', if_neg (by omega), if_neg (by omega)]; exact E5 i hi
      · rw [g2.1 275 (by omega)]; exact E6
end MOD
