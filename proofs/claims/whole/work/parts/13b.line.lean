/-! A CALL OF A LINE'S OWN METHOD: its class is not said to be initialised, and an instance method doesn't ask it -/
theorem hr_ent_get (G : PG) : ∀ (as : List Value) (i k : Nat) (v : Value), (hr_ent1 as).getD k none = some v → (i + k, hr_rv G v) ∈ lv_args i (as.map (hr_rv G))
  | [], _, _, _, h => by cases h
  | w :: vs, i, k, v, h => by
    have two : w.category = 2 → hr_ent1 (w :: vs) = some w :: none :: hr_ent1 vs := by
      intro h2
      cases w <;> first | rfl | (exact absurd h2 (by simp [Value.category]))
    have one : w.category ≠ 2 → hr_ent1 (w :: vs) = some w :: hr_ent1 vs := by
      intro h2
      cases w <;> first | rfl | (exact absurd rfl h2)
    rw [List.map_cons]
    by_cases h2 : w.category = 2
    · rw [two h2] at h
      unfold lv_args
      rw [if_pos (by rw [hr_rv_cat]; exact h2)]
      match k, h with
      | 0, h =>
        cases h
        exact List.mem_cons_self
      | 1, h => cases h
      | k + 2, h =>
        have := hr_ent_get G vs (i + 2) k v h
        rw [show i + (k + 2) = i + 2 + k by omega]
        exact List.mem_cons_of_mem _ this
    · rw [one h2] at h
      unfold lv_args
      rw [if_neg (by rw [hr_rv_cat]; exact h2)]
      match k, h with
      | 0, h =>
        cases h
        exact List.mem_cons_self
      | k + 1, h =>
        have := hr_ent_get G vs (i + 1) k v h
        rw [show i + (k + 1) = i + 1 + k by omega]
        exact List.mem_cons_of_mem _ this
theorem hr_sl_len (G : PG) : ∀ as : List Value, (lg_sl (as.map (hr_rv G))).length = (hr_ent1 as).length
  | [] => rfl
  | v :: vs => by
    have ih := hr_sl_len G vs
    have e : lg_sl ((v :: vs).map (hr_rv G)) = (if (hr_rv G v).category = 2 then [Slot.val (hr_rv G v), .second] else [.val (hr_rv G v)]) ++ lg_sl (vs.map (hr_rv G)) := by
      simp [lg_sl]
    rw [e, List.length_append, ih, hr_rv_cat]
    cases v <;> simp [hr_ent1, Value.category] <;> omega
theorem hr_ent_LH (G : PG) {n : Nat} {as : List Value} (h : (hr_ent1 as).length ≤ n) : hr_LH G ((lg_sl (as.map (hr_rv G)) ++ List.replicate (n - (lg_sl (as.map (hr_rv G))).length) Slot.unset).toArray) n (hr_ent n as) := by
  refine hr_LH.of (lv_entry (as.map (hr_rv G)) (by rw [hr_sl_len]; exact h)) (by unfold hr_ent; rw [List.length_append, List.length_replicate]; omega) (fun k v hk => ?_)
  unfold hr_ent at hk
  have h1 : (hr_ent1 as).getD k none = some v := by
    rw [List.getD_eq_getElem?_getD] at hk ⊢
    by_cases hl : k < (hr_ent1 as).length
    · rw [List.getElem?_append_left hl] at hk
      exact hk
    · rw [List.getElem?_append_right (by omega), List.getElem?_replicate] at hk
      split at hk <;> cases hk
  have h2 := hr_ent_get G as 0 k v h1
  rw [Nat.zero_add] at h2
  exact h2
theorem hr_wk {t : State} {a b c : List Frame} (h : a = b ++ c) (hw : Within t a) : Within t c := by
  subst h
  exact hw.weaken
section HRU
variable {p : Program} {l : Launch} {e : Env} {R : Room} {s : State} {sargs : Array Value} {below : List Frame}
theorem hr_backU {y : MethodName} {cc : ByteArray} {maxL : Nat} {ret : Option FieldType} {rm : Room} {Pc : Array Value → State → Prop} {Qc : Array Value → State → Outcome → State → Prop} {Wn : Nat} {free : Addr → Prop} {len : Nat}
    (hy : plainName y.cls = true) (hframes : rm.frames + 1 ≤ R.frames) (hlocals : Wn + (maxL + 11) + rm.locals ≤ R.locals) (hcells : rm.cells = 0) (hslots : rm.slots = 0)
    (hcode : ∀ a' U, s.WarmedH U.vm → (Jvm.Cond.code y cc maxL ret).before a' U = true) (hblind : FrameBlind Pc)
    (body : ∀ (s' : State) (mk : MethodId) (a : Array Value) (below' : List Frame) (methY : Method) (cY : Code), s.WarmedH s'.vm → Pc a s' → s'.methodNamed? y = some mk → methY.sig.returnType = ret → methY.locks = false → cY.code = cc → cY.maxLocals = maxL →
      W p l e rm s' mk a below' methY cY s'.heap [] 0 0 (MQ below' Qc a s' 0 0 free) (entryFrame mk a maxL)) :
    Back l R p e below s sargs y len Wn (PreOf R 0 0 Pc) (PostOf Qc 0 0 free) := by
  intro m meth c A g ig mk a X hg hsize hdg hW hn hp
  obtain ⟨U, Ls, c0, s0⟩ := A
  obtain ⟨hp1, hp2, hp3⟩ := hp
  dsimp only [Pt.U, Pt.locs, Pt.cells, Pt.slots] at hp1 hp2 hp3 X hn ⊢
  obtain ⟨methY, cY, hmY, hcY, hbY, hlY, hrY, hkY, -, -⟩ := Jvm.Cond.code_spec hn (hcode a U X.warmed)
  have h : At U g.method c below := by rw [hg]; exact X.here
  have hroom : (U.calling g mk a).hasRoom e.platform rm = true :=
    X.room_calling (g := g) (R' := rm) hsize hmY hcY hframes (by rw [hlY]; omega) (by rw [hcells]; exact hp1) (by rw [hslots]; exact hp2)
  obtain ⟨mid, hmid⟩ := h.above
  have hfr : (U.setTop g).frames = (.java g :: mid) ++ below := by rw [State.frames_setTop' g h.top, hmid]; rfl
  have hbl : (.java g :: U.frames.tail : List Frame) = (.java g :: mid) ++ below := by rw [hmid]; rfl
  have hf : (U.calling g mk a).frames = .invoking mk a :: (.java g :: U.frames.tail) := State.frames_calling h.top g mk a
  have hcur := State.cur_lt_of_frames hf
  generalize hb' : (.java g :: U.frames.tail : List Frame) = below' at hf hbl
  have hf1 : ((U.calling g mk a).setFrames (.java (entryFrame mk a maxL) :: below')).frames = .java (entryFrame mk a maxL) :: below' := State.frames_setFrames _ hcur
  have ht1 := State.topJava?_of_frames hf1
  have hnm : (U.calling g mk a).methodNamed? y = some mk := hn
  have hmm : (U.calling g mk a).vm.method? mk = some methY := hmY
  have hplain : ((U.calling g mk a).setFrames (.java (entryFrame mk a maxL) :: below')).plainMethod mk := State.plainMethod.of_named (s := U.calling g mk a) (plainFor_of_name hy) hnm hmm
  have hrun : (U.calling g mk a).status = .running := h.running
  have hAt : At ((U.calling g mk a).setFrames (.java (entryFrame mk a maxL) :: below')) mk cY below' :=
    ⟨by rw [ht1]; rfl, ⟨[], by rw [hf1]; rfl⟩, hrun, by simpa [State.calling] using h.runnable, by simpa [State.calling] using h.alone,
      by rw [State.code?_eq]; simp [State.setFrames, hmm, hcY], hplain⟩
  have hhears : (U.calling g mk a).hears mk below' = true := by
    have hcode' : (U.calling g mk a).code? g.method = some c := by
      have := h.code
      rw [State.code?_eq] at this ⊢
      simpa [State.calling, State.pushFrame, State.setFrames] using this
    rw [← hb']
    simp [State.hears, hcode', hdg, Except.toOption]
  obtain ⟨th, hth, -⟩ := State.frames_cons hf
  have X1 : Stand p l e rm (U.calling g mk a) mk a below' methY cY ((U.calling g mk a).setFrames (.java (entryFrame mk a maxL) :: below')) [] 0 0 :=
    ⟨X.admits, X.cas, X.clock, hf, hroom, hhears, hmm, hcY, hAt, by rw [hf1]; rfl, State.WarmedH.refl _, by rw [State.stackLimits_setFrames], by rw [State.stackBytes_setFrames],
      (State.sameButNew.refl _ hth).setFrames (.java (entryFrame mk a maxL) :: below') hcur⟩
  obtain ⟨s₂, a1, o, b1, hend, b3, L, hfe, hL⟩ := body (U.calling g mk a) mk a below' methY cY X.warmed (hblind _ _ _ _ hp3) hnm hrY hkY hbY hlY ((U.calling g mk a).setFrames (.java (entryFrame mk a maxL) :: below')) rfl X1
  have hstep : (doInvoke e (U.setTop g) [] mk a).1 = ((U.calling g mk a).setFrames (.java (entryFrame mk a maxL) :: below')).setTop (entryFrame mk a maxL) := by
    have hfull : e.platform.stackFull ((U.calling g mk a).setFrames below').me ((U.calling g mk a).setFrames below').frames cY.maxLocals = false := by
      obtain ⟨-, h1, -, h2⟩ := State.hasRoom_stack hroom
      rw [hf, List.length_cons] at h1
      rw [State.localsInUse_invoking hf hmm hcY] at h2
      have hw := stackUse_le_stackWeight below'
      rw [State.frames_setFrames _ hcur]
      exact Platform.stackFull_eq_false (by rw [State.stackLimits_setFrames]; omega) (by rw [State.stackLimits_setFrames]; omega)
    have e1 : (stepThread p.tables e (U.calling g mk a)).1 = ((U.calling g mk a).setFrames (.java (entryFrame mk a maxL) :: below')).setTop (entryFrame mk a maxL) := by
      rw [stepThread_invoking hf, (doInvoke_java (s := (U.calling g mk a).setFrames below') (e := e) (meth := methY) (code := cY) hmm hcY hkY hfull).1, State.setTop_self ht1]
      simp only [State.pushFrame, State.frames_setFrames _ hcur, State.setFrames_setFrames, hlY, entryFrame]
    have e2 : (stepThread p.tables e (U.calling g mk a)).1 = (doInvoke e (U.setTop g) [] mk a).1 := by
      obtain ⟨g₀, hg⟩ := Option.isSome_iff_exists.mp h.top
      obtain ⟨r, hr⟩ := State.topJava?_eq_some.mp hg
      have hf' : (U.calling g mk a).frames = .invoking mk a :: .java g :: U.frames.tail := State.frames_calling h.top g mk a
      rw [stepThread_invoking hf', State.calling_eq h.top, State.setFrames_setFrames, State.setTop_of_frames _ hr, hr]
      rfl
    rw [← e2, e1]
  have hsteps : Steps p.tables e below (doInvoke e (U.setTop g) [] mk a).1 s₂ := by
    rw [hstep]
    obtain ⟨n, hn1, hn2⟩ := a1
    refine ⟨n, hn1, fun j hj => ?_⟩
    exact hr_wk hbl (hn2 j hj)
  rw [← hb'] at hend
  obtain ⟨⟨v, rfl⟩, hW₂, e2, q2, q3, q4, q5, q6⟩ := id hfe
  have e3 : s₂ = ({ (U.calling g mk a).setFrames s₂.frames with heap := s₂.heap, slotsUsed := s₂.slotsUsed } : State).setVm s₂.vm := by
    have : s₂ = ({ s₂ with vm := (U.calling g mk a).vm } : State).setVm s₂.vm := rfl
    rw [e2] at this
    exact this
  obtain ⟨c₂, i₂, len₂, hc₂, hd₂, hf₂⟩ := hend
  have hW' : U.WarmedH s₂.vm := hW₂
  have hcc : c₂ = c := by
    have h1 : s₂.code? g.method = U.code? g.method := by
      rw [State.code?_eq, State.code?_eq, hW'.alike.method?]
    exact Option.some.inj (hc₂.symm.trans (h1.trans h.code))
  subst hcc
  have hlen : len₂ = len := by rw [hdg] at hd₂; cases hd₂; rfl
  subst hlen
  obtain ⟨g₀, hg0⟩ := Option.isSome_iff_exists.mp h.top
  obtain ⟨r, hr⟩ := State.topJava?_eq_some.mp hg0
  have hs₂ : s₂ = (({ U with heap := s₂.heap, slotsUsed := s₂.slotsUsed } : State).setVm s₂.vm).setTop { g with pc := g.pc + len₂, stack := v.toList ++ g.stack } := by
    have hr' : (({ U with heap := s₂.heap, slotsUsed := s₂.slotsUsed } : State).setVm s₂.vm).frames = .java g₀ :: r := hr
    refine e3.trans ?_
    rw [hf₂, State.calling_eq h.top, State.setFrames_setFrames, State.setTop_of_frames _ hr', hr]
    rfl
  have hsame : U.sameButNew ({ U with heap := s₂.heap, slotsUsed := s₂.slotsUsed } : State) L 0 0 := by
    refine ⟨?_, q2, q3, q4, q5, q6⟩
    obtain ⟨t, ht, -⟩ := State.frames_cons hr
    show ({ U with heap := s₂.heap, slotsUsed := s₂.slotsUsed } : State) = { U.setFrames U.frames with heap := s₂.heap, slotsUsed := s₂.slotsUsed }
    rw [State.setFrames_self ht]
  subst hg
  refine ⟨v, ⟨(({ U with heap := s₂.heap, slotsUsed := s₂.slotsUsed } : State).setVm s₂.vm), Ls ++ L, c0 + 0, s0 + 0⟩,
    ⟨X.admits, X.cas, X.clock, X.frames, X.room, X.hears, X.method, X.code, (X.here.setHeapUsed s₂.heap s₂.slotsUsed).setVm hW'.alike, X.tail, State.WarmedH.trans X.warmed hW', X.limits, X.bytes, X.same.trans (hsame.setVm s.vm)⟩,
    ⟨g, mk, s₂, L, rfl, rfl, b3, rfl, hL, rfl, rfl⟩, ?_⟩
  show Steps p.tables e below _ ((({ U with heap := s₂.heap, slotsUsed := s₂.slotsUsed } : State).setVm s₂.vm).setTop { g with pc := g.pc + len₂, stack := v.toList ++ g.stack })
  rw [← hs₂]
  exact hsteps
end HRU
section HRX
variable {p : Program} {l : Launch} {e : Env} {R : Room} {s : State} {mi : MethodId} {args : Array Value} {below : List Frame} {meth : Method} {c : Code} {G : PG} {cc : ByteArray} {nL : Nat} {Q : State → Prop} {o d : Nat} {pc : Nat} {ls : PL} {st : List Value} {M : PM}
theorem hr_z_call (A : hr_A p s mi args c cc nL o G) {m m' idx b : Nat} {as rest : List Value} {v : Option Value} {M1 : PM} (hR : hr_mD m ≤ R.frames ∧ 40 * hr_mD m ≤ R.locals) (hd : decode cc pc = .ok (.invokevirtual idx, 3)) (hm' : m' < hr_mL.length) (hlk : Jvm.Cond.methodLink (hr_cn o) idx (hr_m m').1 ∈ hr_GT) (hi : (hr_wi m').2.2.2.2 = 0) (h3 : hr_mO m' = 3) (hb : hr_K b = hr_kd (hr_mO m')) (hs : hr_sta m m' (.ref b :: as) rest 1 = true) (hC : hr_Cp l G m' (.ref b :: as) M (v, M1))
    (kk : hr_PW p l e R s mi args below meth c G nL Q (pc + 3) ls (v.toList ++ rest) M1) : hr_PW p l e R s mi args below meth c G nL Q pc ls (as.reverse ++ .ref b :: rest) M := by
  intro H locs la hP hS hL
  obtain ⟨h1, h2, h4, h5⟩ := hr_sta_s hs
  have hp := hr_mplain hm'
  have hk19 : hr_K b = 19 := by rw [hb, h3]; rfl
  have hb1 := (hr_K_all b (hr_K_lt343 hk19 (by decide))).2.2.2.1 hk19
  obtain ⟨j, rfl⟩ : ∃ j, b = 307 + j := ⟨b - 307, by omega⟩
  have hj : j < 18 := by omega
  have hn : ¬ 307 + j < hr_n := by have : hr_n = 305 := rfl; omega
  obtain ⟨cell, g1, g2, g3⟩ := va_Orecv (A.2.2.2.2.2.2.2.2.2.2.1 j hj).1 hS
  have hst : (as.reverse ++ Value.ref (307 + j) :: rest).map (hr_rv G) = (as.map (hr_rv G)).reverse ++ Value.ref (G.2.2.2 (307 + j)) :: rest.map (hr_rv G) := by
    rw [List.map_append, List.map_reverse, List.map_cons]
    show _ ++ Value.ref (hr_rad G (307 + j)) :: _ = _
    rw [hr_rad_ge G hn]
  rw [hst]
  have hwm : ∀ w, w ∈ hr_GT → ∀ a' U, s.WarmedH U.vm → w.before a' U = true := fun w hw a' U hW => word_at hW (hr_good hw).2 (A.2.2.2.1 _ hw)
  have hK : Back l R p e below s args (hr_m m').1 3 8 (PreOf R 0 0 (va_Pc (((.ref (307 + j) :: as)).map (hr_rv G)) (fun U => s.WarmedH U.vm ∧ hr_WU G M U))) (PostOf (hr_Q G (v, M1)) 0 0 (fun q => G.2.2.1 ≤ q)) := by
    refine hr_backU (cc := (hr_m m').2.1) (maxL := hr_mV m') (ret := hr_mR m') (rm := { frames := hr_mD m', cells := 0, slots := 0, locals := 40 * hr_mD m' }) (by rw [hp.1]; exact hr_cnplain _ (hr_Vle hm').2) (by show hr_mD m' + 1 ≤ R.frames; omega) (by show 8 + (hr_mV m' + 11) + 40 * hr_mD m' ≤ R.locals; have := (hr_Vle hm').1; omega) rfl rfl (hwm _ (hr_mcode hm')) ?_ ?_
    · exact fun a U g mk h => ⟨h.1, h.2.1, (hr_blind G (.ref (307 + j) :: as) M a U g mk ⟨h.1, h.2.2⟩).2⟩
    · intro s' mk a below' methY cY hW hv hnm hr hlk hbc hml
      obtain ⟨rfl, -, hWP, hKK, hZ⟩ := hv
      have hown : s'.vm.findClass (hr_cn (hr_mO m')) = some mk.cls := by
        rw [← hp.1]
        exact findClass_of_methodNamed hnm
      have A' : hr_A p s' mk (((.ref (307 + j) :: as)).map (hr_rv G)).toArray cY (hr_m m').2.1 (hr_mV m') (hr_mO m') G := ⟨A.1, hbc, hml, fun w hw => hwm w hw _ _ hW, hown, hKK, hZ⟩
      rw [lg_entry_eq]
      exact hC p e { frames := hr_mD m', cells := 0, slots := 0, locals := 40 * hr_mD m' } s' mk _ below' methY cY A' hr hlk ⟨Nat.le_refl _, Nat.le_refl _⟩ s'.heap [] _ hWP va_S.rf (hr_ent_LH G h5)
  have hrun : va_Run p l e R s mi args below meth c H locs 0 0 0 0 (F0 mi pc la ((as.map (hr_rv G)).reverse ++ Value.ref (G.2.2.2 (307 + j)) :: rest.map (hr_rv G))) (rest.map (hr_rv G)) (hr_Q G (v, M1) ((.ref (G.2.2.2 (307 + j)) :: as.map (hr_rv G)).toArray)) (fun q => G.2.2.1 ≤ q) := by
    intro T hT X
    obtain ⟨v', vm₁, ⟨U', l2, c2, s2⟩, hW₁, X', ⟨g', mk, t, L, e1, e2, hq, e3, hL', e4, e5⟩, st⟩ := callV X A.1 (C := (hr_m m').1.cls) (bytes := (hr_m m').2.1) (maxL := hr_mV m') (ret := hr_mR m') A.2.2.2.2.1 (A.2.2.2.1 _ hlk) (A.2.2.2.1 _ (hr_minst hm' hi).1) (A.2.2.2.1 _ (hr_minst hm' hi).2) (A.2.2.2.1 _ (hr_mcode hm')) ⟨hp.2.1, hp.2.2.1⟩ hK (by rw [hT]; exact g1) g2 (by rw [hp.1, h3]; exact g3) rfl (hL.1.trans A.2.2.1.symm) (argsL := as.map (hr_rv G)) (rest := rest.map (hr_rv G))
      (fun sig h => by
        have := hp.2.2.2
        rw [h] at this
        have h7 : sig.parameters.length = hr_mP m' := Option.some.inj this
        rw [List.length_map, h7]
        simp only [List.length_cons] at h1
        omega) rfl (lv_room (by rw [hr_rv_catL]; exact h4)) (by rw [A.2.1]; exact hd)
      (fun vm₁ hW₁ => ⟨Nat.zero_le _, Nat.zero_le _, by
        refine ⟨?_, hW₁, hr_WU_at A hP hS (U := T.setVm vm₁) hT hW₁⟩
        show (Value.ref (G.2.2.2 (307 + j)) :: as.map (hr_rv G)).toArray = (Value.ref (hr_rad G (307 + j)) :: as.map (hr_rv G)).toArray
        rw [hr_rad_ge G hn]⟩)
    dsimp only [Pt.U, Pt.locs, Pt.cells, Pt.slots] at X' e1 e2 e3 e4 e5 st
    subst e3; subst e4; subst e5
    exact ⟨v', (T.setVm vm₁).calling g' mk (Value.ref (G.2.2.2 (307 + j)) :: as.map (hr_rv G)).toArray, t, U', L, hT, X', hL', e1, e2, hq, st⟩
  exact hr_callR hrun rfl hS hL kk
end HRX
