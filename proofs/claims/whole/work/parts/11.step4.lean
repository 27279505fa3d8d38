/-! ONE STEP: the JDK's own, jumps, and all together -/
section HRV
variable {p : Program} {l : Launch} {e : Env} {R : Room} {s : State} {mi : MethodId} {args : Array Value} {below : List Frame} {meth : Method} {c : Code} {G : PG} {cc : ByteArray} {nL : Nat} {Q : State → Prop} {o d : Nat} {pc : Nat} {ls : PL} {st : List Value} {M : PM}
variable {g : Option Prop} {pc' : Nat} {ls' : PL} {st' : List Value} {M' : PM}
theorem hr_MS_sr {a : Nat} {f : Nat → Int32} (ha : a < hr_n) (h : hr_MS M) : hr_MS (hr_sr M a f) := fun q hq => by
  rw [hr_sr_ne (show q ≠ a by omega)]
  exact h q hq
theorem hr_cell_srr {a : Nat} {f : Nat → Int32} (hk : hr_K a = 11 ∨ hr_K a = 12) : hr_cell G (hr_sr M a f) a = .inl (G.2.1 (hr_K a - 11), hr_N a, .inl f) := by
  rcases hk with hk | hk
  · rw [hr_cell_11 hk, hr_sr_self, hk]
  · rw [hr_cell_12 hk, hr_sr_self, hk]
theorem hr_bi_ok (A : hr_A p s mi args c cc nL o G) {idx : Nat} (hd : decode cc pc = .ok (.invokestatic idx, 3) ∨ decode cc pc = .ok (.invokevirtual idx, 3)) (hsv : decode cc pc = .ok (.invokestatic idx, 3) → ∀ k m w, hr_ml o idx = some (k, m, w) → k < 14) (hvv : decode cc pc = .ok (.invokevirtual idx, 3) → ∀ k m w, hr_ml o idx = some (k, m, w) → k < 10 ∨ 14 ≤ k) (h : hr_bi o d idx pc ls st M = some (g, pc', ls', st', M')) (hg : ∀ q, g = some q → q) (hR : d ≤ R.frames ∧ 40 * d ≤ R.locals)
    (kk : hr_PW p l e R s mi args below meth c G nL Q pc' ls' st' M') : hr_PW p l e R s mi args below meth c G nL Q pc ls st M := by
  have hin := fun w hw => A.2.2.2.1 w (hr_mw_in w hw)
  have hstat : ∀ {k m w : Nat}, hr_ml o idx = some (k, m, w) → 10 ≤ k → k < 14 → decode cc pc = .ok (.invokestatic idx, 3) := by
    intro k m w hm h1 h2
    rcases hd with hd | hd
    · exact hd
    · rcases hvv hd k m w hm with z | z <;> omega
  have hvirt : ∀ {k m w : Nat}, hr_ml o idx = some (k, m, w) → 14 ≤ k → decode cc pc = .ok (.invokevirtual idx, 3) := by
    intro k m w hm h1
    rcases hd with hd | hd
    · have := hsv hd k m w hm
      omega
    · exact hd
  unfold hr_bi at h
  split at h
  · next h1d =>
    split at h
    · next m w hm =>
      have hl := A.2.2.2.1 _ (hr_ml_bi hm (by omega))
      split at h
      · next x r =>
        split at h
        · next hr8 =>
          cases h
          exact fun H locs la hP hS hL => va_mabs A.1 A.2.1 (A.2.2.1.trans hL.1.symm) A.2.2.2.2.1 hl (hin _ (by simp [hr_mw])) (hin _ (by simp [hr_mw])) (hin _ (by simp [hr_mw])) (by omega) (by rw [hr_rv_catL]; omega) (Nat.zero_le _) (Nat.zero_le _) (hstat hm (by omega) (by omega)) (kk H locs la hP hS hL)
        · cases h
      · cases h
    · next m w hm =>
      have hl := A.2.2.2.1 _ (hr_ml_bi hm (by omega))
      split at h
      · next y x r =>
        split at h
        · next hr8 =>
          cases h
          exact fun H locs la hP hS hL => va_mmax A.1 A.2.1 (A.2.2.1.trans hL.1.symm) A.2.2.2.2.1 hl (hin _ (by simp [hr_mw])) (hin _ (by simp [hr_mw])) (hin _ (by simp [hr_mw])) (by omega) (by rw [hr_rv_catL]; omega) (Nat.zero_le _) (Nat.zero_le _) (hstat hm (by omega) (by omega)) (kk H locs la hP hS hL)
        · cases h
      · cases h
    · next m w hm =>
      have hl := A.2.2.2.1 _ (hr_ml_bi hm (by omega))
      split at h
      · next y x r =>
        split at h
        · next hr8 =>
          cases h
          exact fun H locs la hP hS hL => va_mmin A.1 A.2.1 (A.2.2.1.trans hL.1.symm) A.2.2.2.2.1 hl (hin _ (by simp [hr_mw])) (hin _ (by simp [hr_mw])) (hin _ (by simp [hr_mw])) (by omega) (by rw [hr_rv_catL]; omega) (Nat.zero_le _) (Nat.zero_le _) (hstat hm (by omega) (by omega)) (kk H locs la hP hS hL)
        · cases h
      · cases h
    · next m w hm =>
      have hl := A.2.2.2.1 _ (hr_ml_bi hm (by omega))
      split at h
      · next n dp a sp a0 r =>
        split at h
        · next hr8 =>
          cases h
          obtain ⟨hkk, ⟨ha, ha0⟩, ⟨h1, h2, h3⟩, h4, h5⟩ := hg _ rfl
          intro H locs la hP hS hL
          show W p l e R s mi args below meth c H locs 0 0 Q (F0 mi pc la (.int n :: .int dp :: .ref (hr_rad G a) :: .int sp :: .ref (hr_rad G a0) :: st'.map (hr_rv G)))
          rw [hr_rad_lt G ha, hr_rad_lt G ha0]
          have hnf : nativeFrameWords "java/lang/System" "arraycopy" 5 + 11 ≤ 32 := by decide
          rcases hkk with ⟨k0, k1⟩ | ⟨k0, k1, hfit⟩
          · refine va_copyi A.1 A.2.1 (A.2.2.1.trans hL.1.symm) A.2.2.2.2.1 hl (hin _ (by simp [hr_mw])) (hin _ (by simp [hr_mw])) (hin _ (by simp [hr_mw])) A.2.2.2.2.2.1 hP.1 (hr_D G M) hS a0 a 1 1 (hr_Wr ha0 (hr_cell_12 k0)) (hr_Wr ha (hr_cell_12 k1)) (ty := .int) rfl rfl rfl h1 h2 h3 h4 h5 (fun _ _ => rfl) (by omega) (by rw [hr_rv_catL]; omega) (hstat hm (by omega) (by omega)) (fun H1 locs1 hP1 _ hS1 => ?_)
            rw [hr_Ws (M' := hr_sr M a (va_cpy (M.1 a0) (M.1 a) sp.toNatClampNeg dp.toNatClampNeg n.toNatClampNeg)) ha (by rw [hr_cell_12 k1, hr_sr_self]) (fun q hq => hr_cell_sr hq)] at hP1
            exact kk H1 locs1 la ⟨hP1, hr_MS_sr ha hP.2⟩ hS1 hL
          · refine va_copyi A.1 A.2.1 (A.2.2.1.trans hL.1.symm) A.2.2.2.2.1 hl (hin _ (by simp [hr_mw])) (hin _ (by simp [hr_mw])) (hin _ (by simp [hr_mw])) A.2.2.2.2.2.1 hP.1 (hr_D G M) hS a0 a 0 0 (hr_Wr ha0 (hr_cell_11 k0)) (hr_Wr ha (hr_cell_11 k1)) (ty := .byte) rfl rfl rfl h1 h2 h3 h4 h5 hfit (by omega) (by rw [hr_rv_catL]; omega) (hstat hm (by omega) (by omega)) (fun H1 locs1 hP1 _ hS1 => ?_)
            rw [hr_Ws (M' := hr_sr M a (va_cpy (M.1 a0) (M.1 a) sp.toNatClampNeg dp.toNatClampNeg n.toNatClampNeg)) ha (by rw [hr_cell_11 k1, hr_sr_self]) (fun q hq => hr_cell_sr hq)] at hP1
            exact kk H1 locs1 la ⟨hP1, hr_MS_sr ha hP.2⟩ hS1 hL
        · cases h
      · cases h
    · next m w hm =>
      split at h
      · next a r =>
        split at h
        · next hr8 =>
          cases h
          exact hr_z_slen A (hvirt hm (by omega)) hm hr8.1 ⟨by omega, by omega⟩ (hg _ rfl) kk
        · cases h
      · cases h
    · next m w hm =>
      split at h
      · next i a r =>
        split at h
        · next hr8 =>
          cases h
          exact hr_z_char A (hvirt hm (by omega)) hm hr8.1 ⟨by omega, by omega⟩ (hg _ rfl).1 (hg _ rfl).2 kk
        · cases h
      · cases h
    · cases h
  · cases h
/-! jumps -/
theorem hr_tgE {off : Int} {pc : Nat} (h : decide (0 ≤ (pc : Int) + off) = true) : (pc : Int) + off = (hr_tg pc off : Int) := by
  have h := of_decide_eq_true h
  unfold hr_tg
  omega
/-- a branch by a condition, from the row of the kit -/
theorem hr_br {cnd : Prop} [Decidable cnd] {t f : Nat} {st0 : List Value} (row : ∀ (H : Heap) (locs : List Loc) (la : Array Slot), (cnd → W p l e R s mi args below meth c H locs 0 0 Q (F0 mi t la (st.map (hr_rv G)))) → (¬ cnd → W p l e R s mi args below meth c H locs 0 0 Q (F0 mi f la (st.map (hr_rv G)))) → W p l e R s mi args below meth c H locs 0 0 Q (F0 mi pc la (st0.map (hr_rv G))))
    (kk : hr_PW p l e R s mi args below meth c G nL Q (if cnd then t else f) ls st M) : hr_PW p l e R s mi args below meth c G nL Q pc ls st0 M := fun H locs la hP hS hL =>
  row H locs la (fun h => by rw [if_pos h] at kk; exact kk H locs la hP hS hL) (fun h => by rw [if_neg h] at kk; exact kk H locs la hP hS hL)
theorem hr_brN {cnd : Prop} [Decidable cnd] {t f : Nat} {st0 : List Value} (row : ∀ (H : Heap) (locs : List Loc) (la : Array Slot), (¬ cnd → W p l e R s mi args below meth c H locs 0 0 Q (F0 mi t la (st.map (hr_rv G)))) → (cnd → W p l e R s mi args below meth c H locs 0 0 Q (F0 mi f la (st.map (hr_rv G)))) → W p l e R s mi args below meth c H locs 0 0 Q (F0 mi pc la (st0.map (hr_rv G))))
    (kk : hr_PW p l e R s mi args below meth c G nL Q (if cnd then f else t) ls st M) : hr_PW p l e R s mi args below meth c G nL Q pc ls st0 M := fun H locs la hP hS hL =>
  row H locs la (fun h => by rw [if_neg h] at kk; exact kk H locs la hP hS hL) (fun h => by rw [if_pos h] at kk; exact kk H locs la hP hS hL)
theorem hr_ofInt {k : Int} (h1 : -2147483648 ≤ k) (h2 : k < 2147483648) : (Int32.ofInt k).toInt = k := by
  have hs : Int32.size = 4294967296 := rfl
  rw [Int32.toInt_ofInt, hs]
  exact Int.bmod_eq_of_le (by omega) (by omega)
/-- the switch's target, by the place of the number in the row of targets -/
theorem hr_sw_out {pc : Nat} {dflt : Int} {x : Int32} : ∀ (offs : List Int) (k : Int), -2147483648 ≤ k → k + offs.length ≤ 2147483648 → (x.toInt < k ∨ k + offs.length ≤ x.toInt) → hr_sw pc dflt offs k x = hr_tg pc dflt
  | [], _, _, _, _ => rfl
  | w :: os, k, h1, h2, h => by
    have hl : ((w :: os).length : Int) = os.length + 1 := by simp
    have hne : ¬ x = Int32.ofInt k := fun z => by
      have := hr_ofInt h1 (by omega)
      rw [← z] at this
      omega
    unfold hr_sw
    rw [if_neg hne]
    exact hr_sw_out os (k + 1) (by omega) (by omega) (by omega)
theorem hr_sw_in {pc : Nat} {dflt : Int} {x : Int32} : ∀ (offs : List Int) (k : Int), -2147483648 ≤ k → k + offs.length ≤ 2147483648 → k ≤ x.toInt → x.toInt < k + offs.length → ∃ w, offs[(x.toInt - k).toNat]? = some w ∧ hr_sw pc dflt offs k x = hr_tg pc w
  | [], k, _, _, h, h' => by
    simp at h'
    omega
  | w :: os, k, h1, h2, h, h' => by
    have hl : ((w :: os).length : Int) = os.length + 1 := by simp
    by_cases hx : x.toInt = k
    · have he : x = Int32.ofInt k := Int32.toInt_inj.mp (by rw [hr_ofInt h1 (by omega)]; exact hx)
      refine ⟨w, by rw [show (x.toInt - k).toNat = 0 by omega]; rfl, ?_⟩
      unfold hr_sw
      rw [if_pos he]
    · have hne : ¬ x = Int32.ofInt k := fun z => by
        have := hr_ofInt h1 (by omega)
        rw [← z] at this
        exact hx this
      obtain ⟨w', h3, h4⟩ := hr_sw_in (pc := pc) (dflt := dflt) (x := x) os (k + 1) (by omega) (by omega) (by omega) (by omega)
      refine ⟨w', ?_, ?_⟩
      · rw [show (x.toInt - k).toNat = (x.toInt - (k + 1)).toNat + 1 by omega]
        exact h3
      · unfold hr_sw
        rw [if_neg hne]
        exact h4
theorem hr_lw_ok {pc : Nat} {dflt : Int} {x : Int32} : ∀ (ps : List (Int × Int)), ps.all (fun q => decide (0 ≤ (pc : Int) + q.2) && decide ((Int32.ofInt q.1).toInt = q.1)) = true → decide (0 ≤ (pc : Int) + dflt) = true → (pc : Int) + Op.lookupswitch.offset ps dflt x.toInt = (hr_lw pc dflt ps x : Int)
  | [], _, h => hr_tgE h
  | (k, w) :: ps, h, h0 => by
    simp only [List.all_cons, Bool.and_eq_true] at h
    unfold hr_lw
    by_cases hx : x = Int32.ofInt k
    · rw [if_pos hx, Op.lookupswitch.offset_cons, if_pos (by rw [hx]; exact (of_decide_eq_true h.1.2).symm)]
      exact hr_tgE h.1.1
    · rw [if_neg hx, lv_osw hx (of_decide_eq_true h.1.2)]
      exact hr_lw_ok ps (by simpa using h.2) h0
end HRV
