/-! WHAT HOLDS AT THE START -/
def tolQ (q : Int) : Tol := (fun _ => 0, 0, 0, q, fun _ => 0, fun _ => pal0, fun _ _ => rol0)
theorem pal0_ok : pOK pal0 := (txt0_ok (s := 0) (by omega)).1
theorem tolQ_ok {q : Int} (h1 : -1 ≤ q) (h2 : q ≤ 600) : tOK (tolQ q) :=
  ⟨⟨Nat.zero_le _, Nat.zero_le _, h1, h2⟩, fun i _ => (by show fits .byte (.int 0) = true; decide), fun s _ => Nat.zero_le _, fun k _ => pal0_ok, fun s k _ _ hk => absurd hk (Nat.not_lt_zero _)⟩
theorem dot0 : ∀ n, dotS pal0 (n + 1) = 0 := by
  intro n
  induction n with
  | zero =>
    rw [dotS_s]
    exact if_pos ⟨Or.inl rfl, rfl⟩
  | succ n ih =>
    rw [dotS_s, ih]
    refine if_neg (fun h => ?_)
    rcases h.1 with h | h
    · omega
    · have e : dsum (0 : Int).toNat = 0 := rfl
      rw [e] at h
      omega
theorem rP0 {a : Nat} (hK : hr_K a = 3) (z : ∀ j, j < 9 → hr_i0 (a + j) = fun _ => 0) : rP hr_M0 a pal0 := by
  have e : ∀ j k, j < 9 → hr_M0.1 (a + j) k = nI 0 := fun j k hj => by
    show hr_i0 (a + j) k = nI 0
    rw [z j hj]
    exact nI_0.symm
  refine ⟨⟨hK, pal0_ok⟩, ⟨e 0 0 (by omega), e 0 1 (by omega)⟩, ⟨fun i hi => absurd hi (by show ¬ i < 3 * 0; omega), fun i hi => absurd hi (by show ¬ i < 3 * 0; omega), fun i _ => e 3 i (by omega)⟩, ⟨fun x y hx => absurd hx (Nat.not_lt_zero _), fun x hx => absurd hx (Nat.not_lt_zero _)⟩, ⟨fun i _ => e 6 i (by omega), fun i _ => e 7 i (by omega), fun i _ => e 8 i (by omega)⟩, Or.inr ?_⟩
  rw [show dotS pal0 1000 = 0 from dot0 999]
  exact (e 0 10 (by omega)).trans (by decide)
theorem z9 {P : Nat → Prop} (h : P 0 ∧ P 1 ∧ P 2 ∧ P 3 ∧ P 4 ∧ P 5 ∧ P 6 ∧ P 7 ∧ P 8) : ∀ j, j < 9 → P j := by
  intro j hj
  match j, hj with
  | 0, _ => exact h.1
  | 1, _ => exact h.2.1
  | 2, _ => exact h.2.2.1
  | 3, _ => exact h.2.2.2.1
  | 4, _ => exact h.2.2.2.2.1
  | 5, _ => exact h.2.2.2.2.2.1
  | 6, _ => exact h.2.2.2.2.2.2.1
  | 7, _ => exact h.2.2.2.2.2.2.2.1
  | 8, _ => exact h.2.2.2.2.2.2.2.2
theorem z2 {P : Nat → Prop} (h0 : P 0) (h1 : P 1) : ∀ j, j < 2 → P j := by
  intro j hj
  match j, hj with
  | 0, _ => exact h0
  | 1, _ => exact h1
theorem z3 {P : Nat → Prop} (h0 : P 0) (h1 : P 1) (h2 : P 2) : ∀ j, j < 3 → P j := by
  intro j hj
  match j, hj with
  | 0, _ => exact h0
  | 1, _ => exact h1
  | 2, _ => exact h2
theorem rT0 {b : Nat} (h1 : hr_i0 b 1 = nI 0) (h2 : hr_i0 b 2 = nI 0) (h3 : hr_i0 b 3 = zI (-1)) (h4 : hr_i0 (b + 1) = fun _ => 0) (h5 : hr_i0 (b + 2) = fun _ => 0) (p0 : rP hr_M0 (b + 5) pal0) (p1 : rP hr_M0 (b + 5 + 9) pal0) : rT hr_M0 b (tolQ (-1)) := by
  refine ⟨⟨h1, h2, h3⟩, fun i _ => ?_, fun s _ => ?_, z2 p0 p1, fun s k _ _ hk => absurd hk (Nat.not_lt_zero _)⟩
  · show hr_i0 (b + 1) i = 0
    rw [h4]
  · show hr_i0 (b + 2) s = nI 0
    rw [h5]
    exact nI_0.symm
theorem rT0_1 : rT hr_M0 1 (tolQ (-1)) := rT0 rfl rfl (by decide +kernel) rfl rfl (rP0 (a := 6) rfl (z9 ⟨rfl, rfl, rfl, rfl, rfl, rfl, rfl, rfl, rfl⟩)) (rP0 (a := 15) rfl (z9 ⟨rfl, rfl, rfl, rfl, rfl, rfl, rfl, rfl, rfl⟩))
theorem rT0_57 : rT hr_M0 57 (tolQ (-1)) := rT0 rfl rfl (by decide +kernel) rfl rfl (rP0 (a := 62) rfl (z9 ⟨rfl, rfl, rfl, rfl, rfl, rfl, rfl, rfl, rfl⟩)) (rP0 (a := 71) rfl (z9 ⟨rfl, rfl, rfl, rfl, rfl, rfl, rfl, rfl, rfl⟩))
theorem rT0_112 : rT hr_M0 112 (tolQ (-1)) := rT0 rfl rfl (by decide +kernel) rfl rfl (rP0 (a := 117) rfl (z9 ⟨rfl, rfl, rfl, rfl, rfl, rfl, rfl, rfl, rfl⟩)) (rP0 (a := 126) rfl (z9 ⟨rfl, rfl, rfl, rfl, rfl, rfl, rfl, rfl, rfl⟩))
theorem rT0_167 : rT hr_M0 167 (tolQ (-1)) := rT0 rfl rfl (by decide +kernel) rfl rfl (rP0 (a := 172) rfl (z9 ⟨rfl, rfl, rfl, rfl, rfl, rfl, rfl, rfl, rfl⟩)) (rP0 (a := 181) rfl (z9 ⟨rfl, rfl, rfl, rfl, rfl, rfl, rfl, rfl, rfl⟩))
theorem mT0 {m : Nat} {q : Int} (hq : hr_i0 279 m = zI q) : mT hr_M0 m (tolQ q) :=
  ⟨⟨nI_0.symm, nI_0.symm, hq⟩, fun i _ => rfl, fun s _ => nI_0.symm, fun k _ => ⟨⟨nI_0.symm, nI_0.symm⟩, fun i hi => absurd hi (by show ¬ i < 3 * 0; omega), fun i hi => absurd hi (by show ¬ i < 3 * 0; omega), fun i _ => nI_0.symm⟩, fun k hk => absurd hk (Nat.not_lt_zero _), fun k hk => absurd hk (Nat.not_lt_zero _), fun k hk => absurd hk (Nat.not_lt_zero _), fun k hk => absurd hk (Nat.not_lt_zero _)⟩
theorem forg0 : forg hr_M0 := ⟨by decide +kernel, by decide +kernel, by decide +kernel⟩
theorem hr_MS0 : hr_MS hr_M0 := fun a ha => by
  show hr_i0 a = hr_s0 a
  have h : Nat.ble 305 a = true := Nat.ble_eq_true_of_le ha
  unfold hr_i0
  rw [h, cond_true]
theorem Inv0 : InvM hr_M0 (tolQ (-1)) (fun _ => tolQ (-1)) (fun _ => false) := by
  have ok := tolQ_ok (q := -1) (by omega) (by omega)
  have ok0 := tolQ_ok (q := 0) (by omega) (by omega)
  refine ⟨⟨ok, fun i _ => ok⟩, ⟨rT0_1, z3 (P := fun i => rT hr_M0 (tdA (i + 1)) (tolQ (-1))) rT0_57 rT0_112 rT0_167⟩, ⟨mT0 (by decide +kernel), fun i hi => ⟨tolQ 0, (fun h => nomatch h), ok0, mT0 ?_⟩⟩, fun i _ => ⟨nI_0.symm, nI_0.symm⟩, ⟨Lk_0 forg0, Ck_0 forg0, Gk_0 forg0⟩, hr_MS0⟩
  have e : i = 0 ∨ i = 1 ∨ i = 2 := by omega
  rcases e with rfl | rfl | rfl <;> decide +kernel
