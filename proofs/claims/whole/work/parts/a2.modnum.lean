/-! THE MODEL'S READER: full, kept, numbers after one another -/
section MOD
variable {B : Nat → Nat} {L : Nat}
theorem s_fullM {M : PM} {f q ws c n lim : Nat} (h : flm M f q ws) (hw : ws ≤ 600) (hc : c < 121) (hn : M.1 286 c = nI n) (hn2 : n ≤ 1000) (hl : lim ≤ 1000) : ∃ M', f_X11_full (nI c) (nI lim) (nI ws) M = some ((), M') ∧ hr_fr [(275, 19), (275, 20)] M M' ∧ flm M' (fl2 f q (decide (n = lim)) 3 ws).1 (fl2 f q (decide (n = lim)) 3 ws).2 (ws + 1) := by
  unfold f_X11_full
  rw [if_pos (q_in hc (by omega)), q_cl (by omega), hn]
  by_cases z : n = lim
  · obtain ⟨M', g1, g2, g3⟩ := s_later (a := 3) h hw (by omega)
    rw [if_pos (show nI n = nI lim by rw [z]), show (3 : Int32) = nI 3 from rfl, g1, q_bd_some, decide_eq_true z]
    exact ⟨M', rfl, g2, g3⟩
  · rw [if_neg (fun w => z ((q_eq (by omega) (by omega)).mp w)), decide_eq_false z]
    have ef : fl2 f q false 3 ws = (f, q) := if_neg (fun u => by cases u.2)
    rw [ef]
    exact ⟨M, rfl, hr_fr.rf _ _, h.up (by omega)⟩
/-- something is kept, or nothing if there's no room -/
theorem s_keepM {M : PM} {c b w n lim : Nat} (hn : M.1 286 c = nI n) (hl : lim ≤ 1000) (hnl : n ≤ lim) (hcb : c < b) (hw : w ≤ 4) (hfit : b + w * lim ≤ 121) : ∃ M', f_X11_keep (nI c) (nI b) (nI w) (nI lim) M = some ((), M') ∧ rng 286 286 M M' ∧ (n = lim → M' = M) ∧ (n < lim → ∀ j, M'.1 286 j = if j = c then nI (n + 1) else if b + w * n ≤ j ∧ j < b + w * n + w then M.1 287 (j - (b + w * n)) else M.1 286 j) := by
  have hwn : w * n ≤ w * lim := Nat.mul_le_mul_left w hnl
  unfold f_X11_keep
  rw [if_pos (q_in (by omega) (by omega)), q_cl (by omega), hn]
  by_cases z : n = lim
  · rw [if_pos (show nI n = nI lim by rw [z])]
    exact ⟨M, rfl, rng.rf _ _ _, fun _ => rfl, fun h => by omega⟩
  · have hwn2 : w * n + w ≤ w * lim := by
      have : w * (n + 1) ≤ w * lim := Nat.mul_le_mul_left w (by omega)
      rw [Nat.mul_succ] at this
      exact this
    rw [if_neg (fun u => z ((q_eq (by omega) (by omega)).mp u)), show (0 : Int32) = nI 0 from rfl]
    refine hr_for (σ := PM) (fun f i N => f_X11_keep_19 (nI c) (nI b) (nI w) (nI lim) f (nI n) (nI i) N) w (fun i N => rng 286 286 M N ∧ N.1 286 c = nI n ∧ ∀ j, j ≠ c → N.1 286 j = if b + w * n ≤ j ∧ j < b + w * n + i then M.1 287 (j - (b + w * n)) else M.1 286 j) (fun r => ∃ M', r = some ((), M') ∧ rng 286 286 M M' ∧ (n = lim → M' = M) ∧ (n < lim → ∀ j, M'.1 286 j = if j = c then nI (n + 1) else if b + w * n ≤ j ∧ j < b + w * n + w then M.1 287 (j - (b + w * n)) else M.1 286 j)) ?_ ?_ FU 0 M (Nat.zero_le _) (FU_ok (by omega)) ⟨rng.rf _ _ _, hn, fun j hj => by rw [if_neg (by omega)]⟩
    · rintro f i N hi ⟨i1, i2, i3⟩
      right
      show ∃ s', f_X11_keep_19 (nI c) (nI b) (nI w) (nI lim) (f + 1) (nI n) (nI i) N = f_X11_keep_19 (nI c) (nI b) (nI w) (nI lim) f (nI n) (nI (i + 1)) s' ∧ _
      rw [f_X11_keep_19.eq_2, if_neg (fun y => by have := (q_le (by omega) (by omega)).mp y; omega), if_pos (q_in (by omega) (by omega)), q_mul, q_add, q_add, if_pos (q_in (by omega) (by omega)), q_cl (by omega), q_cl (by omega), q_lit 1, gO 1, q_add]
      refine ⟨_, rfl, i1.si (by omega) (by omega) _ _, ?_, fun j hj => ?_⟩
      · rw [si_same, if_neg (by omega)]; exact i2
      · rw [si_same, i1.1 287 (by omega)]
        by_cases y : j = b + w * n + i
        · rw [if_pos y, if_pos (by omega), show j - (b + w * n) = i by omega]
        · rw [if_neg y, i3 j hj]
          by_cases v : b + w * n ≤ j ∧ j < b + w * n + i
          · rw [if_pos v, if_pos (by omega)]
          · rw [if_neg v, if_neg (by omega)]
    · rintro f N ⟨i1, i2, i3⟩
      show ∃ M', f_X11_keep_19 (nI c) (nI b) (nI w) (nI lim) (f + 1) (nI n) (nI w) N = _ ∧ _
      rw [f_X11_keep_19.eq_2, if_pos (Int32.le_refl _), if_pos (q_in (by omega) (by omega)), if_pos (q_in (by omega) (by omega)), q_cl (by omega), i2, q_lit 1, gO 1, q_add]
      refine ⟨_, rfl, i1.si (by omega) (by omega) _ _, fun h => absurd h z, fun _ j => ?_⟩
      rw [si_same]
      by_cases y : j = c
      · rw [if_pos y, if_pos y]
      · rw [if_neg y, if_neg y]; exact i3 j y
/-- the fault after so many numbers -/
def fqS (B : Nat → Nat) (L : Nat) (F : Nat × Nat) (bad : Nat → Bool) (p : Nat) : Nat → Nat × Nat
  | 0 => F
  | j + 1 => fl2 (fqS B L F bad p j).1 (fqS B L F bad p j).2 (bad j) 2 (sT B L (ps B L p j))
/-- so many numbers are read, from the place d on -/
def nst (M0 M : PM) (B : Nat → Nat) (L p d : Nat) (F : Nat × Nat) (bad : Nat → Bool) (j : Nat) : Prop := mSt M B L (ps B L p j) (fqS B L F bad p j).1 (fqS B L F bad p j).2 ∧ hr_fr tmW M0 M ∧ (∀ i, i < j → M.1 287 (d + i) = nI (vT B L (ps B L p i))) ∧ (∀ i, (i < d ∨ d + j ≤ i) → M.1 287 i = M0.1 287 i) ∧ M.1 275 23 = (if exb bad j = true then nI 0 else M0.1 275 23) ∧ ∀ i, i < j → kT B L (ps B L p i) = 2
theorem nst_0 {M : PM} {p d : Nat} {F : Nat × Nat} {bad : Nat → Bool} (h : mSt M B L p F.1 F.2) : nst M M B L p d F bad 0 := ⟨h, hr_fr.rf _ _, fun i hi => by omega, fun _ _ => rfl, rfl, fun i hi => by omega⟩
theorem nst_step {M0 M : PM} (hr : mrd M0 B L) (hL : L ≤ 600) (hB : ∀ i, B i < 256) {p d j : Nat} {F : Nat × Nat} {bad : Nat → Bool} (hp : p ≤ L) (h : nst M0 M B L p d F bad j) (hd : d + j < 4) {lo hi : Nat} (hlo : lo ≤ 99) (hhi : hi ≤ 99) {but : Int} (hbut : -1 ≤ but ∧ but ≤ 99) (hb : kT B L (ps B L p j) = 2 → bdN lo hi (vT B L (ps B L p j)) but = bad j) : (kT B L (ps B L p j) ≠ 2 → ∃ M', f_X11_takeBut (nI (d + j)) (nI lo) (nI hi) (zI but) M = some (0, M') ∧ hr_fr tmW M0 M' ∧ M'.1 275 17 = nI (sT B L (ps B L p j))) ∧ (kT B L (ps B L p j) = 2 → ∃ M', f_X11_takeBut (nI (d + j)) (nI lo) (nI hi) (zI but) M = some (1, M') ∧ nst M0 M' B L p d F bad (j + 1)) := by
  obtain ⟨h1, h2, h3, h4, h5, h6⟩ := h
  obtain ⟨g1, g2⟩ := s_tkB (M := M) (hr.fr h2 rfl (fun _ => rfl)) hL hB (ps_le hL hp j) h1 (i := d + j) hd hlo hhi hbut
  constructor
  · intro z
    obtain ⟨M', e1, e2, e3⟩ := g1 z
    exact ⟨M', e1, h2.tr e2, e3⟩
  · intro z
    obtain ⟨M', e1, e2, e3, e4, e5⟩ := g2 z
    rw [hb z] at e3 e5
    refine ⟨M', e1, e3, h2.tr e2, fun i hi => ?_, fun i hi => ?_, ?_, fun i hi => ?_⟩
    · rw [e4]
      by_cases y : i = j
      · rw [y, if_pos rfl]
      · rw [if_neg (by omega)]; exact h3 i (by omega)
    · rw [e4, if_neg (by omega)]; exact h4 i (by omega)
    · rw [e5, h5]
      show _ = if (exb bad j || bad j) = true then _ else _
      cases exb bad j <;> cases bad j <;> rfl
    · by_cases y : i = j
      · rw [y]; exact z
      · exact h6 i (by omega)
/-- taken without one that can't be -/
theorem s_takeM {i lo hi : Int32} {M M' : PM} {v : Int32} (hv : v = 0 ∨ v = 1) (h : f_X11_takeBut i lo hi (zI (-1)) M = some (v, M')) : f_X11_take i lo hi M = some (v, M') := by
  unfold f_X11_take
  rw [show (-1 : Int32) = zI (-1) by decide, h, q_bd_some, if_pos hv]
end MOD
/-- whether a line's number can't be -/
def badK (k v0 v1 v2 j : Nat) : Bool := if j = 0 then decide (kfm k < v0) else if j = 1 then bad2 k v0 v1 else decide (ktm k < v2)
theorem fq_stay {B : Nat → Nat} {L : Nat} {F : Nat × Nat} {bad : Nat → Bool} {p : Nat} (h : F.1 ≠ 0) : ∀ j, fqS B L F bad p j = F
  | 0 => rfl
  | j + 1 => by
    show fl2 (fqS B L F bad p j).1 (fqS B L F bad p j).2 (bad j) 2 (sT B L (ps B L p j)) = F
    rw [fq_stay h j]
    unfold fl2
    rw [if_neg (fun w => h w.1)]
/-- the fault after a line's numbers is what the line makes of it -/
theorem nm_fin {B : Nat → Nat} {L p k ws : Nat} {X : Txt} {df : Bool} (hk : kn k ≤ 3) (hd : xF X = 0 → df = fullX k X) {v0 v1 v2 : Nat} {F : Nat × Nat} (hF : F = fqS B L (fl2 (xF X) (xQ X) df 3 ws) (badK k v0 v1 v2) p (kn k)) {Y : Txt} (hY : Y = effX k ws v0 v1 v2 (sT B L (ps B L p 0)) (sT B L (ps B L p 1)) (sT B L (ps B L p 2)) X) (hkeep : ∀ X v0 v1 v2, xF (keepX k v0 v1 v2 X) = xF X) : F.1 = xF Y ∧ (F.1 ≠ 0 → F.2 = xQ Y) ∧ (xF Y = 0 → xF X = 0 ∧ fullX k X = false ∧ badX k v0 v1 v2 = 0 ∧ Y = keepX k v0 v1 v2 X ∧ exb (badK k v0 v1 v2) (kn k) = false) := by
  unfold effX at hY
  by_cases z : xF X = 0
  · rw [if_neg (fun w => w z)] at hY
    have hd' := hd z
    cases hfu : fullX k X with
    | true =>
      rw [hfu] at hY hd'
      rw [if_pos rfl] at hY
      have e1 : fl2 (xF X) (xQ X) df 3 ws = (3, ws) := if_pos ⟨z, hd'⟩
      rw [e1, fq_stay (show (3, ws).1 ≠ 0 by show 3 ≠ 0; omega)] at hF
      rw [hF, hY]
      exact ⟨rfl, fun _ => rfl, fun h => by cases h⟩
    | false =>
      rw [hfu] at hY hd'
      rw [if_neg (by simp)] at hY
      have e1 : fl2 (xF X) (xQ X) df 3 ws = (xF X, xQ X) := if_neg (fun w => by rw [hd'] at w; cases w.2)
      rw [e1] at hF
      have s1 : ∀ j, fqS B L (xF X, xQ X) (badK k v0 v1 v2) p (j + 1) = fl2 (fqS B L (xF X, xQ X) (badK k v0 v1 v2) p j).1 (fqS B L (xF X, xQ X) (badK k v0 v1 v2) p j).2 (badK k v0 v1 v2 j) 2 (sT B L (ps B L p j)) := fun _ => rfl
      have f2 : ∀ f q b s, f = 0 → b = true → fl2 f q b 2 s = (2, s) := fun f q b s h1 h2 => if_pos ⟨h1, h2⟩
      have f0 : ∀ f q b s, b = false → fl2 f q b 2 s = (f, q) := fun f q b s h => if_neg (fun w => by rw [h] at w; cases w.2)
      have fs : ∀ q b s, fl2 (2, q).1 (2, q).2 b 2 s = (2, q) := fun q b s => if_neg (fun w => by cases w.1)
      have b0 : badK k v0 v1 v2 0 = decide (kfm k < v0) := rfl
      have b1 : badK k v0 v1 v2 1 = bad2 k v0 v1 := rfl
      have b2 : badK k v0 v1 v2 2 = decide (ktm k < v2) := rfl
      have x0 : ∀ j, exb (badK k v0 v1 v2) (j + 1) = (exb (badK k v0 v1 v2) j || badK k v0 v1 v2 j) := fun _ => rfl
      have q0 : fqS B L (xF X, xQ X) (badK k v0 v1 v2) p 0 = (xF X, xQ X) := rfl
      -- the first bad one
      have hx : badX k v0 v1 v2 = if decide (1 ≤ kn k ∧ kfm k < v0) = true then 1 else if (decide (2 ≤ kn k) && bad2 k v0 v1) = true then 2 else if decide (3 ≤ kn k ∧ ktm k < v2) = true then 3 else 0 := rfl
      have none : badX k v0 v1 v2 = 0 → F = (xF X, xQ X) → exb (badK k v0 v1 v2) (kn k) = false → F.1 = xF Y ∧ (F.1 ≠ 0 → F.2 = xQ Y) ∧ (xF Y = 0 → xF X = 0 ∧ false = false ∧ badX k v0 v1 v2 = 0 ∧ Y = keepX k v0 v1 v2 X ∧ exb (badK k v0 v1 v2) (kn k) = false) := by
        intro h1 h2 h3
        rw [if_pos h1] at hY
        rw [hY, hkeep, h2]
        exact ⟨rfl, fun h => absurd z h, fun _ => ⟨z, rfl, h1, rfl, h3⟩⟩
      have some : ∀ c t, badX k v0 v1 v2 = c → c ≠ 0 → (if c = 1 then sT B L (ps B L p 0) else if c = 2 then sT B L (ps B L p 1) else sT B L (ps B L p 2)) = t → F = (2, t) → F.1 = xF Y ∧ (F.1 ≠ 0 → F.2 = xQ Y) ∧ (xF Y = 0 → xF X = 0 ∧ false = false ∧ badX k v0 v1 v2 = 0 ∧ Y = keepX k v0 v1 v2 X ∧ exb (badK k v0 v1 v2) (kn k) = false) := by
        intro c t h1 h2 h3 h4
        rw [h1, if_neg h2, h3] at hY
        rw [hY, h4]
        exact ⟨rfl, fun _ => rfl, fun h => by cases h⟩
      have kk : kn k = 0 ∨ kn k = 1 ∨ kn k = 2 ∨ kn k = 3 := by omega
      rcases kk with n | n | n | n
      · rw [n] at hF hx
        exact none (by rw [hx]; rfl) hF (by rw [n]; rfl)
      · rw [n] at hF hx
        rw [s1, q0, b0] at hF
        cases a0 : decide (kfm k < v0) with
        | true =>
          have := of_decide_eq_true a0
          rw [a0, f2 _ _ _ _ z rfl] at hF
          exact some 1 _ (by rw [hx, if_pos (decide_eq_true ⟨by omega, this⟩)]) (by omega) rfl hF
        | false =>
          have := of_decide_eq_false a0
          rw [a0, f0 _ _ _ _ rfl] at hF
          exact none (by rw [hx, if_neg (by simp; omega), if_neg (by simp), if_neg (by simp)]) hF (by rw [n, x0, b0, a0]; rfl)
      · rw [n] at hF hx
        rw [s1, s1, q0, b0, b1] at hF
        cases a0 : decide (kfm k < v0) with
        | true =>
          have := of_decide_eq_true a0
          rw [a0, f2 _ _ _ _ z rfl, fs] at hF
          exact some 1 _ (by rw [hx, if_pos (decide_eq_true ⟨by omega, this⟩)]) (by omega) rfl hF
        | false =>
          have := of_decide_eq_false a0
          rw [a0, f0 _ _ _ _ rfl] at hF
          cases a1 : bad2 k v0 v1 with
          | true =>
            rw [a1, f2 _ _ _ _ z rfl] at hF
            exact some 2 _ (by rw [hx, if_neg (by simp; omega), a1, if_pos (by rfl)]) (by omega) rfl hF
          | false =>
            rw [a1, f0 _ _ _ _ rfl] at hF
            exact none (by rw [hx, if_neg (by simp; omega), a1, if_neg (by simp), if_neg (by simp)]) hF (by rw [n, x0, x0, b0, b1, a0, a1]; rfl)
      · rw [n] at hF hx
        rw [s1, s1, s1, q0, b0, b1, b2] at hF
        cases a0 : decide (kfm k < v0) with
        | true =>
          have := of_decide_eq_true a0
          rw [a0, f2 _ _ _ _ z rfl, fs, fs] at hF
          exact some 1 _ (by rw [hx, if_pos (decide_eq_true ⟨by omega, this⟩)]) (by omega) rfl hF
        | false =>
          have := of_decide_eq_false a0
          rw [a0, f0 _ _ _ _ rfl] at hF
          cases a1 : bad2 k v0 v1 with
          | true =>
            rw [a1, f2 _ _ _ _ z rfl, fs] at hF
            exact some 2 _ (by rw [hx, if_neg (by simp; omega), a1, if_pos (by rfl)]) (by omega) rfl hF
          | false =>
            rw [a1, f0 _ _ _ _ rfl] at hF
            cases a2 : decide (ktm k < v2) with
            | true =>
              have := of_decide_eq_true a2
              rw [a2, f2 _ _ _ _ z rfl] at hF
              exact some 3 _ (by rw [hx, if_neg (by simp; omega), a1, if_neg (by simp), if_pos (decide_eq_true ⟨by omega, this⟩)]) (by omega) rfl hF
            | false =>
              have := of_decide_eq_false a2
              rw [a2, f0 _ _ _ _ rfl] at hF
              exact none (by rw [hx, if_neg (by simp; omega), a1, if_neg (by simp), if_neg (by simp; omega)]) hF (by rw [n, x0, x0, x0, b0, b1, b2, a0, a1, a2]; rfl)
  · rw [if_pos z] at hY
    have e1 : fl2 (xF X) (xQ X) df 3 ws = (xF X, xQ X) := if_neg (fun w => z w.1)
    rw [e1, fq_stay (show (xF X, xQ X).1 ≠ 0 from z)] at hF
    rw [hF, hY]
    exact ⟨rfl, fun _ => rfl, fun h => absurd h z⟩
