/-! TEXT, by the model -/
section MTX
variable {M : PM} {T : Tol}
theorem mT_hd (hT : mT M 0 T) {M' : PM} {n f : Nat} {q : Int} (h : ∀ c, c = 276 ∨ (280 ≤ c ∧ c ≤ 285) → M'.1 c = M.1 c) (h1 : M'.1 277 0 = nI n) (h2 : M'.1 278 0 = nI f) (h3 : M'.1 279 0 = zI q) : mT M' 0 (hdT T n f q) := by
  obtain ⟨-, a4⟩ := hT
  have e1 := h 276 (by omega)
  have e2 := h 280 (by omega)
  have e3 := h 281 (by omega)
  have e4 := h 282 (by omega)
  have e5 := h 283 (by omega)
  have e6 := h 284 (by omega)
  have e7 := h 285 (by omega)
  unfold mT
  rw [e1, e2, e3, e4, e5, e6, e7]
  exact ⟨⟨h1, h2, h3⟩, a4⟩
/-- cells of the model that text may write before it stores -/
abbrev tyW : List (Nat × Nat) := [(275, 0), (277, 1), (278, 1), (279, 1), (286, 0), (287, 0)]
theorem img_tx {M N M' : PM} (hf : hr_fr tyW M N) (h80 : ∀ c, c ≠ 280 → M'.1 c = N.1 c) (h80' : ∀ i, 5 ≤ i → M'.1 280 i = N.1 280 i) {M2 : PM} (hk : imgK M' M2) : keepM M M2 := by
  intro m T hm hT
  obtain ⟨k1, k2, k3, k4, k5, k6, k7⟩ := hk
  have nz : ∀ i, 1 ≤ i → ∀ c, c = 277 ∨ c = 278 ∨ c = 279 → hr_in tyW c i = false := fun i hi c hc => by
    have e1 : Nat.beq 1 (i + 1) = false := beqF (by omega)
    rcases hc with rfl | rfl | rfl
    · show (Nat.beq 275 277 && _ || (Nat.beq 277 277 && (Nat.beq 1 0 || Nat.beq 1 (i + 1)) || (Nat.beq 278 277 && _ || (Nat.beq 279 277 && _ || (Nat.beq 286 277 && _ || (Nat.beq 287 277 && _ || false)))))) = false
      rw [e1]; rfl
    · show (Nat.beq 275 278 && _ || (Nat.beq 277 278 && _ || (Nat.beq 278 278 && (Nat.beq 1 0 || Nat.beq 1 (i + 1)) || (Nat.beq 279 278 && _ || (Nat.beq 286 278 && _ || (Nat.beq 287 278 && _ || false)))))) = false
      rw [e1]; rfl
    · show (Nat.beq 275 279 && _ || (Nat.beq 277 279 && _ || (Nat.beq 278 279 && _ || (Nat.beq 279 279 && (Nat.beq 1 0 || Nat.beq 1 (i + 1)) || (Nat.beq 286 279 && _ || (Nat.beq 287 279 && _ || false)))))) = false
      rw [e1]; rfl
  refine hT.oth2 hm (fun i _ => ?_) (fun i hi => ⟨?_, ?_, ?_⟩) (fun i hi => ?_) (fun i hi => ?_) (fun i hi => ?_) (fun i hi => ?_) (fun i hi => ?_) (fun i hi => ?_)
  · rw [k1 276 (by omega), h80 276 (by omega)]; exact hf.at 276 i rfl
  · rw [k1 277 (by omega), h80 277 (by omega)]; exact hf.at 277 i (nz i hi 277 (by omega))
  · rw [k1 278 (by omega), h80 278 (by omega)]; exact hf.at 278 i (nz i hi 278 (by omega))
  · rw [k1 279 (by omega), h80 279 (by omega)]; exact hf.at 279 i (nz i hi 279 (by omega))
  · rw [k1 280 (by omega), h80' i hi]; exact hf.at 280 i rfl
  · rw [k3 i hi, h80 281 (by omega)]; exact hf.at 281 i rfl
  · rw [k4 i hi, h80 282 (by omega)]; exact hf.at 282 i rfl
  · rw [k5 i hi, h80 283 (by omega)]; exact hf.at 283 i rfl
  · rw [k6 i hi, h80 284 (by omega)]; exact hf.at 284 i rfl
  · rw [k7 i hi, h80 285 (by omega)]; exact hf.at 285 i rfl
theorem imgK.rf (M : PM) : imgK M M := ⟨fun _ _ => rfl, rfl, fun _ _ => rfl, fun _ _ => rfl, fun _ _ => rfl, fun _ _ => rfl, fun _ _ => rfl⟩
/-- once the slot is known -/
theorem m_text75 {N : PM} {s k : Nat} {a2 : Int32} (hf : hr_fr tyW M N) (hT : mT N 0 (hdT T 0 0 (-1))) (ok : tOK T) (h12 : N.1 275 12 = nI (tN T)) (hs : s < 5) (hk : k < 2) (hsl : (a2 = -1 ∧ k = tz T s) ∨ (a2 ≠ -1 ∧ a2 = nI k ∧ k < tz T s)) : hw (f_X11_text_75 (nI s) a2 N) (fun v M' => v = (if rdF (bySt T) (tN T) s = 0 then nI k else zI (-1)) ∧ mT M' 0 (if rdF (bySt T) (tN T) s = 0 then kpT (hdT T 0 (rdF (bySt T) (tN T) s) (rdQ (bySt T) (tN T) s)) s k (readS (bySt T) (tN T) s).2.2 else hdT T 0 (rdF (bySt T) (tN T) s) (rdQ (bySt T) (tN T) s)) ∧ keepM M M') := by
  have hn := ok.1.1
  have z2 := ok.2.2.1 s hs
  have hr : mrd N (bySt T) (tN T) := ⟨h12, fun i hi => by
    have := hT.2.1 i hi
    rw [Nat.mul_zero, Nat.zero_add] at this
    rw [this]
    exact btN_eq _⟩
  obtain ⟨M1, g1, g2, g3, g4, g5⟩ := m_readText (s := s) hr hn (fun i => btN_lt _) hs
  obtain ⟨q1, q2, q3⟩ := rd_ok (B := bySt T) (L := tN T) (s := s) hn hs
  have hf1 : hr_fr tyW M M1 := hf.tr (hr_fr.mono (by decide) g2)
  have hT1 : mT M1 0 (hdT T 0 (rdF (bySt T) (tN T) s) (rdQ (bySt T) (tN T) s)) := by
    refine mT_hd (T := hdT T 0 0 (-1)) hT (fun c hc => ?_) ?_ g3 g4
    · have cc : c = 276 ∨ c = 280 ∨ c = 281 ∨ c = 282 ∨ c = 283 ∨ c = 284 ∨ c = 285 := by omega
      rcases cc with rfl | rfl | rfl | rfl | rfl | rfl | rfl <;> exact g2.row _ (fun _ => rfl)
    · rw [g2.at 277 0 rfl]; exact hT.1.1
  unfold f_X11_text_75
  rw [g1, q_bd_some]
  by_cases z : rdF (bySt T) (tN T) s = 0
  · obtain ⟨x1, x2⟩ := g5 z
    have okX := (readS_ok (B := bySt T) (L := tN T) (s := s) hn hs).2
    have ok1 : tOK (hdT T 0 (rdF (bySt T) (tN T) s) (rdQ (bySt T) (tN T) s)) := hdT_ok ok (by omega) q1 q2 q3
    have e80 : M1.1 280 s = nI (tz T s) := by
      have := hT1.2.2.1 s hs
      rw [Nat.mul_zero, Nat.zero_add] at this
      exact this
    rw [decide_eq_true z, if_neg (show ¬ bI true = 0 by decide), if_pos z, if_pos z]
    -- the rest, by what is added to the count
    have fin : ∀ d, tz T s + d = (if k = tz T s then k + 1 else tz T s) → hw (f_X11_text_118 (nI s) a2 (nI k) (nI d) (nI (tz T s)) (nI s) M1) (fun v M' => v = nI k ∧ mT M' 0 (kpT (hdT T 0 (rdF (bySt T) (tN T) s) (rdQ (bySt T) (tN T) s)) s k (readS (bySt T) (tN T) s).2.2) ∧ keepM M M') := by
      intro d hd
      unfold f_X11_text_118
      rw [if_pos (q_in (by omega) (by omega)), q_cl (by omega), q_add, hd]
      generalize hN2 : hr_si M1 280 s (nI (if k = tz T s then k + 1 else tz T s)) = N2
      have rr : ∀ c, c ≠ 280 → N2.1 c = M1.1 c := fun c hc => by rw [← hN2, si_ne _ _ _ hc]
      have r80 : ∀ j, N2.1 280 j = if j = s then nI (if k = tz T s then k + 1 else tz T s) else M1.1 280 j := fun j => by rw [← hN2, si_same]
      obtain ⟨M2, l1, l2, l3⟩ := m_storeT (N := N2) (N0 := M1) (k := k) (X := (readS (bySt T) (tN T) s).2.2) hT1 rr ok1 okX hs hk (mX_eq x1 (rr 286 (by omega)) (by rw [rr 275 (by omega)])) x2 (fun s' hs' => by
        have e : tz (kpT (hdT T 0 (rdF (bySt T) (tN T) s) (rdQ (bySt T) (tN T) s)) s k (readS (bySt T) (tN T) s).2.2) s' = if s' = s ∧ k = tz T s then k + 1 else tz T s' := rfl
        have o80 := hT1.2.2.1 s' hs'
        rw [Nat.mul_zero, Nat.zero_add] at o80
        rw [r80, e]
        by_cases y : s' = s
        · rw [if_pos y, y]
          by_cases w : k = tz T s
          · rw [if_pos w, if_pos ⟨rfl, w⟩]
          · rw [if_neg w, if_neg (fun u => w u.2)]
        · rw [if_neg y, if_neg (fun u => y u.1)]; exact o80)
      rw [l1, q_bd_some]
      exact hw.ok ⟨rfl, l2, img_tx hf1 rr (fun i hi => by rw [r80, if_neg (by omega)]) l3⟩
    rcases hsl with ⟨h1, h2⟩ | ⟨h1, h2, h3⟩
    · rw [if_pos h1, if_pos (q_in (by omega) (by omega)), q_cl (by omega), e80]
      unfold f_X11_text_100
      rw [if_pos (q_in (by omega) (by omega)), if_pos h1, q_cl (by omega), e80, ← h2]
      have := fin 1 (by rw [if_pos h2]; omega)
      rw [← h2] at this
      exact this
    · rw [if_neg h1]
      unfold f_X11_text_100
      rw [if_pos (q_in (by omega) (by omega)), if_neg h1, q_cl (by omega), e80, h2]
      rw [h2] at fin
      exact fin 0 (by rw [if_neg (by omega)]; omega)
  · rw [decide_eq_false z, if_pos (show bI false = 0 from rfl), if_neg z, if_neg z, show (-1 : Int32) = zI (-1) by decide]
    exact hw.ok ⟨rfl, hT1, img_tx hf1 (fun _ _ => rfl) (fun _ _ => rfl) (imgK.rf M1)⟩
theorem m_text (hT : mT M 0 T) (ok : tOK T) (a1 a2 : Int32) : hw (f_X11_text a1 a2 M) (fun v M' => v = (sp_text T a1 a2).1 ∧ mT M' 0 (sp_text T a1 a2).2 ∧ keepM M M') := by
  have in4 : inB 0 4 = true := q_in (i := 0) (by omega) (by omega)
  unfold f_X11_text sp_text slotS
  rw [if_pos in4, if_pos in4, if_pos in4, if_pos in4, show (0 : Int32).toNatClampNeg = 0 from rfl, si_ne _ _ _ (show 277 ≠ 275 by omega), show M.1 277 0 = nI (tN T) from hT.1.1]
  generalize hN : hr_si (hr_si (hr_si (hr_si (hr_si M 275 0 0) 275 12 (nI (tN T))) 277 0 0) 278 0 0) 279 0 (-1) = N
  have hf : hr_fr tyW M N := by rw [← hN]; exact hr_fr.si rfl (hr_fr.si rfl (hr_fr.si rfl (hr_fr.si rfl (hr_fr.si rfl (hr_fr.rf _ _)))))
  have h12 : N.1 275 12 = nI (tN T) := by rw [← hN, si_ne _ _ _ (by omega), si_ne _ _ _ (by omega), si_ne _ _ _ (by omega), si_same, if_pos rfl]
  have hTN : mT N 0 (hdT T 0 0 (-1)) := by
    refine mT_hd hT (fun c hc => ?_) ?_ ?_ ?_
    · rw [← hN, si_ne _ _ _ (by omega), si_ne _ _ _ (by omega), si_ne _ _ _ (by omega), si_ne _ _ _ (by omega), si_ne _ _ _ (by omega)]
    · rw [← hN, si_ne _ _ _ (by omega), si_ne _ _ _ (by omega), si_same, if_pos rfl]; rfl
    · rw [← hN, si_ne _ _ _ (by omega), si_same, if_pos rfl]; rfl
    · rw [← hN, si_same, if_pos rfl]; decide
  have no : hw (some (-2, N) : Option (Int32 × PM)) (fun v M' => v = zI (-2) ∧ mT M' 0 (hdT T 0 0 (-1)) ∧ keepM M M') := hw.ok ⟨by decide, hTN, img_tx hf (fun _ _ => rfl) (fun _ _ => rfl) (imgK.rf N)⟩
  rw [show f_X11_in a1 0 4 N = some (bI (ix a1 (4 + 1)).isSome, N) from s_inc N a1 (c := 4) (by decide), q_bd_some, show 4 + 1 = 5 from rfl]
  cases h1 : ix a1 5 with
  | none =>
    rw [if_pos (show bI (none : Option Nat).isSome = 0 from rfl)]
    exact no
  | some s =>
    obtain ⟨rfl, ls, -⟩ := ix_some h1
    have z2 := ok.2.2.1 s ls
    have e80 : N.1 280 s = nI (tz T s) := by
      have := hTN.2.2.1 s ls
      rw [Nat.mul_zero, Nat.zero_add] at this
      exact this
    rw [if_neg (show ¬ bI (some s).isSome = 0 from (by decide : ¬ bI true = 0))]
    dsimp only
    rw [q_cl (show s < 2147483648 by omega)]
    by_cases y : a2 = -1
    · rw [if_pos y, if_pos y, if_pos (q_in (by omega) (by omega)), e80]
      by_cases w : 2 ≤ tz T s
      · rw [if_pos (show nI (tz T s) = 2 by rw [show tz T s = 2 by omega]; rfl), if_pos w]
        exact no
      · rw [if_neg (show ¬ nI (tz T s) = 2 from fun u => by have := (q_eq (b := 2) (by omega) (by omega)).mp u; omega), if_neg w]
        have key := m_text75 (M := M) (k := tz T s) (a2 := a2) hf hTN ok h12 ls (by omega) (Or.inl ⟨y, rfl⟩)
        refine key.mono (fun v M' h => ?_)
        by_cases z : rdF (bySt T) (tN T) s = 0
        · rw [if_pos z, if_pos z] at h
          dsimp only
          rw [if_pos z]
          exact h
        · rw [if_neg z, if_neg z] at h
          dsimp only
          rw [if_neg z]
          exact h
    · rw [if_neg y, if_neg y, s_is (by omega) e80 (by omega) a2, q_bd_some]
      cases h2 : ix a2 (tz T s) with
      | none =>
        rw [if_pos (show bI (none : Option Nat).isSome = 0 from rfl)]
        exact no
      | some k =>
        obtain ⟨e2, lk, -⟩ := ix_some h2
        rw [if_neg (show ¬ bI (some k).isSome = 0 from (by decide : ¬ bI true = 0))]
        have key := m_text75 (M := M) (k := k) (a2 := a2) hf hTN ok h12 ls (by omega) (Or.inr ⟨y, e2, lk⟩)
        refine key.mono (fun v M' h => ?_)
        by_cases z : rdF (bySt T) (tN T) s = 0
        · rw [if_pos z, if_pos z] at h
          dsimp only
          rw [if_pos z]
          exact h
        · rw [if_neg z, if_neg z] at h
          dsimp only
          rw [if_neg z]
          exact h
end MTX
