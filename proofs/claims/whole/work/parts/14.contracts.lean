/-! THE CONTRACTS -/
theorem hr_call_0 {o m' : Nat} {i : Instr} (h : hr_call o i = some (0, m')) : ∃ idx w, i = .invokevirtual idx ∧ hr_ml o idx = some (0, m', w) := by
  unfold hr_call at h
  split at h
  · split at h <;> cases h
  · next idx =>
    split at h
    · next m w hm =>
      cases h
      exact ⟨_, w, rfl, hm⟩
    · cases h
  · cases h
theorem hr_call_1 {o m' k : Nat} {i : Instr} (h : hr_call o i = some (k + 1, m')) : ∃ idx w, i = .invokestatic idx ∧ (hr_ml o idx = some (1, m', w) ∨ hr_ml o idx = some (2, m', w)) := by
  unfold hr_call at h
  split at h
  · next idx =>
    split at h
    · next m w hm =>
      cases h
      exact ⟨_, w, rfl, Or.inl hm⟩
    · next m w hm =>
      cases h
      exact ⟨_, w, rfl, Or.inr hm⟩
    · cases h
  · next idx =>
    split at h <;> cases h
  · cases h
theorem hr_le_get : ∀ {a b : PL}, hr_le a b → a.length = b.length ∧ ∀ k v, a.getD k none = some v → b.getD k none = some v
  | [], [], _ => ⟨rfl, fun k v h => h⟩
  | [], _ :: _, h => h.elim
  | none :: a, [], h => h.elim
  | some _ :: a, [], h => h.elim
  | none :: a, w :: b, h => by
    obtain ⟨h1, h2⟩ := hr_le_get (a := a) (b := b) h
    refine ⟨by simp [h1], fun k v hk => ?_⟩
    match k, hk with
    | k + 1, hk => exact h2 k v hk
  | some x :: a, w :: b, h => by
    obtain ⟨h1, h2⟩ := hr_le_get (a := a) (b := b) h.2
    refine ⟨by simp [h1], fun k v hk => ?_⟩
    match k, hk with
    | 0, hk => exact h.1.symm.trans hk
    | k + 1, hk => exact h2 k v hk
theorem hr_PW_le {p : Program} {l : Launch} {e : Env} {R : Room} {s : State} {mi : MethodId} {args : Array Value} {below : List Frame} {meth : Method} {c : Code} {G : PG} {nL : Nat} {Q : State → Prop} {pc : Nat} {ls lsx : PL} {st : List Value} {M : PM} (hle : hr_le ls lsx) (k : hr_PW p l e R s mi args below meth c G nL Q pc ls st M) : hr_PW p l e R s mi args below meth c G nL Q pc lsx st M :=
  fun H locs la hP hS hL => k H locs la hP hS ⟨hL.1, (hr_le_get hle).1.trans hL.2.1, hL.2.2.1, fun q v hq => hL.2.2.2 q v ((hr_le_get hle).2 q v hq)⟩
set_option maxHeartbeats 8000000 in
/-- the contract, from the run -/
theorem hr_Ct_of {l : Launch} {G : PG} {m : Nat} {as : List Value} {M : PM} {r : Option Value × PM} (hm : m < hr_mL.length) (hC : hr_Cp l G m as M r) (hl : (hr_ent1 as).length ≤ hr_mV m) : hr_Ct l G m as M r := by
  have hp := hr_mplain hm
  refine Met.ofW (cc := (hr_m m).2.1) (maxL := hr_mV m) (ret := hr_mR m) (by rw [hp.1]; exact hr_cnplain _ (hr_Vle hm).2) rfl ?_
  intro p e s mi args below meth c s₁ B hml hv
  obtain ⟨rfl, hWP, hK, hZ⟩ := hv
  have hts := atoms_spec (ws := Jvm.Cond.code (hr_m m).1 (hr_m m).2.1 (hr_mV m) (hr_mR m) :: hr_GT) B.pre
  have hown : s.vm.findClass (hr_cn (hr_mO m)) = some mi.cls := by
    rw [← hp.1]
    exact findClass_of_methodNamed B.named
  have A : hr_A p s mi (as.map (hr_rv G)).toArray c (hr_m m).2.1 (hr_mV m) (hr_mO m) G := ⟨B.exec, B.bytes, hml, fun w hw => hts w (List.mem_cons_of_mem _ hw), hown, hK, hZ⟩
  rw [lg_entry_eq]
  exact hC p e { frames := hr_mD m, cells := 0, slots := 0, locals := 40 * hr_mD m } s mi _ below meth c A B.returns B.notSynchronized ⟨Nat.le_refl _, Nat.le_refl _⟩ s.heap [] _ hWP va_S.rf (hr_ent_LH G hl)
section HRY
variable {p : Program} {l : Launch} {e : Env} {R : Room} {s : State} {mi : MethodId} {args : Array Value} {below : List Frame} {meth : Method} {c : Code} {G : PG} {Q : State → Prop} {m : Nat}
set_option maxHeartbeats 8000000 in
theorem hr_ex_PW (A : hr_A p s mi args c (hr_m m).2.1 (hr_mV m) (hr_mO m) G) (hm : m < hr_mL.length) (hr : meth.sig.returnType = hr_mR m) (hlk : meth.locks = false) (hR : hr_mD m ≤ R.frames ∧ 40 * hr_mD m ≤ R.locals)
    (IH : ∀ m', m' < hr_mL.length → hr_mD m' < hr_mD m → ∀ as M r, (∃ n, hr_ex n m' 0 (hr_ent (hr_mV m') as) [] M r) → (hr_ent1 as).length ≤ hr_mV m' → hr_Cp l G m' as M r) (r : Option Value × PM) :
    ∀ (n pc : Nat) (ls : PL) (st : List Value) (M : PM), hr_ex n m pc ls st M r → hr_PW p l e R s mi args below meth c G (hr_mV m) (MQ below (hr_Q G r) args s 0 0 (fun q => G.2.2.1 ≤ q)) pc ls st M := by
  intro n
  induction n with
  | zero =>
    intro pc ls st M h
    exact h.elim
  | succ n ih =>
    intro pc lsx st M h
    unfold hr_ex at h
    obtain ⟨ls, hle, h⟩ := h
    refine hr_PW_le hle ?_
    split at h
    · exact h.elim
    · exact h.elim
    · next i len is hb =>
      have hck0 := hr_mblk hm hb
      have hck := hck0
      simp only [hr_ck, Bool.and_eq_true, decide_eq_true_eq] at hck
      split at h
      · exact h.elim
      · next hln =>
        split at h
        · next g v hret =>
          obtain ⟨hg, rfl⟩ := h
          exact hr_ret_ok A hck.1 hln hret hg hr hlk
        · split at h
          · next m' hcall =>
            obtain ⟨idx, w, rfl, hml⟩ := hr_call_0 hcall
            have hn3 : len = 3 := by simpa [hr_ln] using hln
            subst hn3
            split at h
            · next b rest hdrop =>
              obtain ⟨hs, hb2, v, M1, hx1, hx2⟩ := h
              obtain ⟨z, hz⟩ := hr_ml_cl hml (by omega)
              simp only [hr_clq, Bool.and_eq_true, decide_eq_true_eq] at hz
              have hst : st = ((st.take (hr_mP m')).reverse).reverse ++ .ref b :: rest := by
                rw [List.reverse_reverse, ← hdrop, List.take_append_drop]
              have hsta := hr_sta_s hs
              by_cases h3 : hr_mO m' = 3
              · rw [hst]
                exact hr_z_call A hR hck.1 hz.2.1 (hr_at_in hz.1) hz.2.2 h3 hb2 hs (IH m' hz.2.1 hsta.2.1 _ _ _ ⟨n, hx1⟩ hsta.2.2.2) (ih _ _ _ _ hx2)
              · rw [hst]
                exact hr_callV A hR hck.1 hz.2.1 (hr_at_in hz.1) hz.2.2 h3 hb2 hs (hr_Ct_of hz.2.1 (IH m' hz.2.1 hsta.2.1 _ _ _ ⟨n, hx1⟩ hsta.2.2.2) hsta.2.2.2) (ih _ _ _ _ hx2)
            · exact h.elim
          · next k m' hcall =>
            obtain ⟨idx, w, rfl, hml⟩ := hr_call_1 hcall
            have hn3 : len = 3 := by simpa [hr_ln] using hln
            subst hn3
            obtain ⟨hs, v, M1, hx1, hx2⟩ := h
            have hsta := hr_sta_s hs
            have hst : st = ((st.take (hr_mP m')).reverse).reverse ++ st.drop (hr_mP m') := by
              rw [List.reverse_reverse, List.take_append_drop]
            have key : ∀ (hm' : m' < hr_mL.length) (hi : (hr_wi m').2.2.2.2 = 1), hr_mO m' ≠ 3 := by
              intro hm' hi h3
              have h4 := hr_st3 m' hm' h3
              rw [hi] at h4
              cases h4
            rw [hst]
            rcases hml with hml | hml
            · obtain ⟨z, hz⟩ := hr_ml_cl hml (by omega)
              simp only [hr_clq, Bool.and_eq_true, decide_eq_true_eq] at hz
              exact hr_callS (k := 0) A hR hck.1 hz.2.1 (Or.inl (hr_at_in hz.1)) hz.2.2 (key hz.2.1 hz.2.2) hs (hr_Ct_of hz.2.1 (IH m' hz.2.1 hsta.2.1 _ _ _ ⟨n, hx1⟩ hsta.2.2.2) hsta.2.2.2) (ih _ _ _ _ hx2)
            · obtain ⟨z, hz⟩ := hr_ml_cl hml (by omega)
              simp only [hr_clq, Bool.and_eq_true, decide_eq_true_eq] at hz
              have hnw : va_Nw (.methodLinkNest (hr_cn (hr_mO m)) idx (hr_m m').1 "HueRash") s := A.2.2.2.2.2.2.1 (hr_cn (hr_mO m), idx, (hr_m m').1) (List.mem_of_getElem? hz.1)
              exact hr_callS (k := 0) A hR hck.1 hz.2.1 (Or.inr hnw) hz.2.2 (key hz.2.1 hz.2.2) hs (hr_Ct_of hz.2.1 (IH m' hz.2.1 hsta.2.1 _ _ _ ⟨n, hx1⟩ hsta.2.2.2) hsta.2.2.2) (ih _ _ _ _ hx2)
          · split at h
            · exact h.elim
            · next P pc' ls' st' M' hrun =>
              exact hr_run_ok A hR _ pc ls st M hck0 hrun h.1 (ih _ _ _ _ h.2)
end HRY
set_option maxHeartbeats 8000000 in
/-- every method whose pure run ends: its run -/
theorem hr_allp (l : Launch) (G : PG) : ∀ (d m : Nat), m < hr_mL.length → hr_mD m < d → ∀ (as : List Value) (M : PM) (r : Option Value × PM), (∃ n, hr_ex n m 0 (hr_ent (hr_mV m) as) [] M r) → (hr_ent1 as).length ≤ hr_mV m → hr_Cp l G m as M r := by
  intro d
  induction d with
  | zero => intro m _ h; omega
  | succ d ihd =>
    intro m hm hd as M r ⟨n, hx⟩ hl
    intro p e R s mi args below meth c A hr hlk hR
    exact hr_ex_PW A hm hr hlk hR (fun m' hm' hd' as' M' r' hx' hl' => ihd m' hm' (by omega) as' M' r' hx' hl') r n 0 _ [] M hx
/-- every method whose pure run ends has its contract -/
theorem hr_all (l : Launch) (G : PG) (d m : Nat) (hm : m < hr_mL.length) (hd : hr_mD m < d) (as : List Value) (M : PM) (r : Option Value × PM) (hx : ∃ n, hr_ex n m 0 (hr_ent (hr_mV m) as) [] M r) (hl : (hr_ent1 as).length ≤ hr_mV m) : hr_Ct l G m as M r :=
  hr_Ct_of hm (hr_allp l G d m hm hd as M r hx hl) hl
