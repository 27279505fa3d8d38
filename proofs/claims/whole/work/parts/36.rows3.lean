/-! rows of the constructors that make objects of ours: new and its constructor in one, a new row of references, a store into one -/
theorem hr_row.app {lo : Nat} {ws out : va_W} (h : hr_row lo ws) (h2 : hr_row (lo + ws.length) out) : hr_row lo (ws ++ out) := by
  intro k q hq
  by_cases hl : k < ws.length
  · rw [List.getElem?_append_left hl] at hq
    exact h k q hq
  · rw [List.getElem?_append_right (by omega)] at hq
    have h3 := h2 _ q hq
    omega
theorem hr_row.D {lo : Nat} {ws : va_W} (h : hr_row lo ws) : va_D (fun y => lo ≤ y) ws := by
  refine ⟨fun i j p q hi hj e => ?_, fun k q hk => ?_⟩
  · have h1 := h i p hi
    have h2 := h j q hj
    omega
  · have h1 := h k q hk
    show lo ≤ q.1
    omega
theorem hr_rowL {lo : Nat} {ws : va_W} (h : ws.map (fun q => q.1) = (List.range ws.length).map (fun i => lo + i)) : hr_row lo ws := by
  intro k q hq
  have h1 : (ws.map (fun q => q.1))[k]? = some q.1 := by rw [List.getElem?_map, hq]; rfl
  rw [h, List.getElem?_map, List.getElem?_range (List.getElem?_eq_some_iff.mp hq).1] at h1
  exact (Option.some.inj h1).symm
theorem hr_bbl (G : PG) (b k : Nat) (dflt : List Value) : FrameBlind (va_Pc [.ref b] (fun U => U.heap.size = b + 1 ∧ va_P G.1 vwCl [(b, .inr (k, dflt))] U.heap ∧ va_K G.1 vwCl (hr_tys G) U)) :=
  fun a U g mk h => ⟨h.1, h.2.1, h.2.2.1, va_K.moved (u := U) (U := U.calling g mk a) (Vm.Alike.refl U.vm) h.2.2.2⟩
/-- rows of our objects can be made -/
def hr_AO (U : State) : Prop := va_AO RX4 U ∧ va_AO RX6 U ∧ va_AO RX8 U
theorem hr_AO.moved {u U : State} (hvm : u.vm.Alike U.vm) (h : hr_AO u) : hr_AO U := ⟨va_AO.moved hvm h.1, va_AO.moved hvm h.2.1, va_AO.moved hvm h.2.2⟩
theorem hr_bbl2 (G : PG) (b k : Nat) (dflt : List Value) : FrameBlind (va_Pc [.ref b] (fun U => (U.heap.size = b + 1 ∧ va_P G.1 vwCl [(b, .inr (k, dflt))] U.heap ∧ va_K G.1 vwCl (hr_tys G) U) ∧ hr_AO U)) :=
  fun a U g mk h => ⟨h.1, ⟨h.2.1.1, h.2.1.2.1, va_K.moved (u := U) (U := U.calling g mk a) (Vm.Alike.refl U.vm) h.2.1.2.2⟩, hr_AO.moved (u := U) (U := U.calling g mk a) (Vm.Alike.refl U.vm) h.2.2⟩
def hr_Bt2 (l : Launch) (G : PG) (y : MethodName) (cc : ByteArray) (nL d N S b k : Nat) (dflt : List Value) (out : va_W) : Prop :=
  Met l y (Jvm.Cond.code y cc nL none :: hr_GT) { frames := d, cells := N, slots := S, locals := 40 * d } (va_Pc [.ref b] (fun U => (U.heap.size = b + 1 ∧ va_P G.1 vwCl [(b, .inr (k, dflt))] U.heap ∧ va_K G.1 vwCl (hr_tys G) U) ∧ hr_AO U)) (hr_Qb G b out) N S (fun y => b ≤ y)
theorem hr_Bof2 {l : Launch} {G : PG} {y : MethodName} {cc : ByteArray} {nL d N S b k o : Nat} {dflt : List Value} {out : va_W} (hy : plainName y.cls = true) (hnm : y.name = "<init>") (hcls : y.cls = hr_cn o)
    (body : ∀ (p : Program) (e : Env) (s : State) (mi : MethodId) (below : List Frame) (meth : Method) (c : Code), hr_Y p s mi #[.ref b] meth c cc nL o G → hr_AO s → meth.sig.returnType = none → meth.locks = false → s.heap.size = b + 1 → va_P G.1 vwCl [(b, .inr (k, dflt))] s.heap →
      W p l e { frames := d, cells := N, slots := S, locals := 40 * d } s mi #[.ref b] below meth c s.heap [] 0 0 (MQ below (hr_Qb G b out) #[.ref b] s N S (fun y => b ≤ y)) (F0 mi 0 ((lg_sl [.ref b] ++ List.replicate (nL - (lg_sl [.ref b]).length) Slot.unset).toArray) [])) : hr_Bt2 l G y cc nL d N S b k dflt out := by
  refine Met.ofW (cc := cc) (maxL := nL) (ret := none) hy rfl ?_
  intro p e s mi args below meth c s₁ B hml hv
  obtain ⟨rfl, ⟨h1, h2, h3⟩, h4⟩ := hv
  have hts := atoms_spec (ws := Jvm.Cond.code y cc nL none :: hr_GT) B.pre
  rw [lg_entry_eq]
  exact body p e s mi below meth c ⟨B.exec, B.bytes, hml, fun w hw => hts w (List.mem_cons_of_mem _ hw), by rw [← hcls]; exact findClass_of_methodNamed B.named, h3, by rw [← hnm]; exact (name_of_methodNamed B.named B.method).1⟩ h4 B.returns B.notSynchronized h1 h2
section HRR
variable {p : Program} {l : Launch} {e : Env} {R : Room} {s : State} {mi : MethodId} {args : Array Value} {below : List Frame} {meth : Method} {c : Code} {H : Heap} {locs : List Loc} {cells slots : Nat} {Q : State → Prop} {ws : va_W} {G : PG} {cc : ByteArray} {nL o pc : Nat} {la : Array Slot} {rest : List Value} {H0 : Heap}
theorem hr_callb {b a mc ms : Nat} {out : va_W} {a0 : Array Value} {free : Addr → Prop} {st0 : List Value} {x : va_E}
    (hr : va_Run p l e R s mi args below meth c H locs cells slots mc ms (F0 mi pc la st0) rest (hr_Qb G a out a0) free) (hS : va_S (fun y => b ≤ y) H0 H locs) (hba : b ≤ a) (hf : ∀ q, free q → b ≤ q) (hz : H.size = a + 1) (hout : out[0]? = some (a, x))
    (kk : ∀ (H1 : Heap) (locs1 : List Loc), va_P G.1 vwCl out H1 → (∀ q : Nat, q < a → H1[q]? = H[q]?) → va_S (fun y => b ≤ y) H0 H1 locs1 → W p l e R s mi args below meth c H1 locs1 (cells + mc) (slots + ms) Q (F0 mi (pc + 3) la rest)) : W p l e R s mi args below meth c H locs cells slots Q (F0 mi pc la st0) := by
  intro T hT X
  obtain ⟨v, st₀, t, T', L, h0, X', hL, e1, e2, ⟨hv, hp, hk⟩, st⟩ := hr T hT X
  cases hv
  rw [h0] at hk
  have hlt : a < t.heap.size := (hp 0 _ hout).lt
  obtain ⟨t2, a1, b1⟩ := kk T'.heap (locs ++ L) (by rw [e1]; exact hp) (fun q hq => by rw [e1]; exact hk q hq)
    ⟨by have h9 := hS.1; rw [e1]; omega, fun q h1 h2 => by
      have h3 : ¬ b ≤ q := h2
      rw [e1, hk q (by omega)]
      exact hS.2.1 q h1 h2, fun q hq => by
      rcases List.mem_append.mp hq with h | h
      · exact hS.2.2 q h
      · exact hf _ (hL q h)⟩ T' rfl X'
  exact ⟨t2, st t2 a1, b1⟩
theorem hr_bmk (A : hr_Y p s mi args meth c cc nL o G) {b : Nat} {y : MethodName} {cc' : ByteArray} {nL' d N S k idxN idxI a : Nat} {dflt : List Value} {out : va_W} {vs : List Value} (hM : hr_Bt l G y cc' nL' d N S a k dflt out) (ha : a = b + ws.length) (h11 : k < 11)
    (hcl : Jvm.Cond.classLink (hr_cn o) idxN (hr_C k).1 ∈ hr_GT) (hinst : Jvm.Cond.instantiable (hr_C k).1 (hr_C k).2.2 ∈ hr_GT) (hini : Jvm.Cond.initialized (hr_C k).1 ∈ hr_GT) (hfs : ∀ j, j < (hr_C k).2.2 → (parseFieldDescriptor ((hr_C k).2.1 j).2.2.1).map defaultValue = some (vp_V dflt j))
    (hlk : Jvm.Cond.methodLink (hr_cn o) idxI y ∈ hr_GT) (hin : Jvm.Cond.instanceMethod y ∈ hr_GT) (hcd : Jvm.Cond.code y cc' nL' none ∈ hr_GT) (hyi : Jvm.Cond.initialized y.cls ∈ hr_GT) (hnm : y.name = "<init>") (hd0 : y.cls ≠ "java/lang/invoke/MethodHandle" ∧ y.cls ≠ "java/lang/invoke/VarHandle" ∧ (parseMethodDescriptor y.desc).map (fun d => d.parameters.length) = some 0) (hR : d + 1 ≤ R.frames ∧ 8 + (nL' + 11) + 40 * d ≤ R.locals)
    (hP : va_P G.1 vwCl ws H) (hrw : hr_row b ws) (hS : va_S (fun y => b ≤ y) H0 H locs) (hlo : b ≤ H0.size) (hz : s.heap.size + cells ≤ a) (hcells : cells + 1 + N ≤ R.cells) (hslots : slots + (hr_C k).2.2 + S ≤ R.slots) (hro : hr_row a out) (hout : out[0]? = some (a, .inr (k, vs))) (hla : la.size = nL) (hrest : ((Value.ref a :: rest).map fun v => v.category).sum ≤ 8)
    (hdN : decode cc pc = .ok (.new idxN, 3)) (hdD : decode cc (pc + 3) = .ok (.dup, 1)) (hdI : decode cc (pc + 4) = .ok (.invokespecial idxI, 3))
    (kk : ∀ (H1 : Heap) (locs1 : List Loc), va_P G.1 vwCl (ws ++ out) H1 → hr_row b (ws ++ out) → (ws ++ out)[ws.length]? = some (a, .inr (k, vs)) → va_S (fun y => b ≤ y) H0 H1 locs1 → W p l e R s mi args below meth c H1 locs1 (cells + 1 + N) (slots + (hr_C k).2.2 + S) Q (F0 mi (pc + 7) la (.ref a :: rest))) : W p l e R s mi args below meth c H locs cells slots Q (F0 mi pc la rest) := by
  subst ha
  obtain ⟨ty0, hty⟩ := hr_tyf k h11
  refine va_new A.1 A.2.1 (Ts := hr_GT) (C := (hr_C k).1) (T := (hr_C k).2.1) (N := (hr_C k).2.2) (ci := k) (fs := dflt) A.2.2.2.1 (hr_cls_in h11) ty0 hty A.2.2.2.2.1 (A.2.2.2.1 _ hcl) (A.2.2.2.1 _ hinst) (A.2.2.2.1 _ hini) A.2.2.2.2.2.1 hP hrw.D hS (fun q hq => Nat.le_trans hlo hq) (hr_Cg h11) (fun j hj => ?_) (by omega) (by omega) hdN (fun q H1 hP1 hD1 hS1 => ?_)
  · have h1 := hfs j hj
    rw [hty j hj] at h1
    exact Option.some.inj h1
  refine hr_addr hP1 hD1 hrw (by omega) (fun hq => ?_)
  subst hq
  refine hr_size (lo := b) (n := ws.length) hP1 rfl (by omega) (fun hsz => ?_)
  have hPa : va_P G.1 vwCl [(b + ws.length, .inr (k, dflt))] H1 := fun j q hj => by
    have h1 : j < 1 := (List.getElem?_eq_some_iff.mp hj).1
    rw [show j = 0 by omega] at hj
    cases hj
    exact hP1 ws.length _ (by rw [List.getElem?_append_right (Nat.le_refl _), Nat.sub_self]; rfl)
  have hPw : va_P G.1 vwCl ws H1 := fun j q hj => hP1 j q (by rw [List.getElem?_append_left (List.getElem?_eq_some_iff.mp hj).1]; exact hj)
  refine lv_dup A.1 A.2.1 hdD rfl ?_
  have hcw := cwI (R := R) (args := args) (s := s) (Ts := hr_GT) (ws := Jvm.Cond.code y cc' nL' none :: hr_GT) (rm := { frames := d, cells := N, slots := S, locals := 40 * d }) (own := hr_cn o) (index := idxI) (y := y) (mc := N) (ms := S) 0 A.2.2.2.1 (fun w hw => by
    rcases List.mem_cons.mp hw with rfl | hw
    · exact hr_good hcd
    · exact hr_good hw) rfl rfl rfl (A.2.2.2.1 _ hyi) (A.2.2.2.1 _ hlk) (A.2.2.2.1 _ hin) hnm hd0 hR
  refine hr_callb (va_runI (As := []) (rest := .ref (b + ws.length) :: rest) (b := b + ws.length) ⟨A.1, A.2.1, A.2.2.1, A.2.2.2.2.1, A.2.2.2.1⟩ hM hcw ⟨hr_bbl G _ k dflt, fun U hU hW => ⟨rfl, by rw [hU]; exact hsz, by rw [hU]; exact hPa, va_K.moved hW.alike A.2.2.2.2.2.1⟩⟩ rfl rfl hla rfl (lv_room hrest) hdI ⟨hcells, hslots⟩) hS1 (Nat.le_add_right _ _) (fun q hq => Nat.le_trans (Nat.le_add_right _ _) hq) hsz hout (fun H2 L2 hP2 hk2 hS2 => ?_)
  exact kk H2 L2 (va_P.app (hPw.kept (fun j x hx => hk2 x.1 (by
    have h1 := hrw j x hx
    have h2 := (List.getElem?_eq_some_iff.mp hx).1
    omega))) hP2) (hrw.app hro) (by rw [List.getElem?_append_right (Nat.le_refl _), Nat.sub_self]; exact hout) hS2
theorem hr_bmk2 (A : hr_Y p s mi args meth c cc nL o G) {b : Nat} {y : MethodName} {cc' : ByteArray} {nL' d N S k idxN idxI a : Nat} {dflt : List Value} {out : va_W} {vs : List Value} (hAO : hr_AO s) (hM : hr_Bt2 l G y cc' nL' d N S a k dflt out) (ha : a = b + ws.length) (h11 : k < 11)
    (hcl : Jvm.Cond.classLink (hr_cn o) idxN (hr_C k).1 ∈ hr_GT) (hinst : Jvm.Cond.instantiable (hr_C k).1 (hr_C k).2.2 ∈ hr_GT) (hini : Jvm.Cond.initialized (hr_C k).1 ∈ hr_GT) (hfs : ∀ j, j < (hr_C k).2.2 → (parseFieldDescriptor ((hr_C k).2.1 j).2.2.1).map defaultValue = some (vp_V dflt j))
    (hlk : Jvm.Cond.methodLink (hr_cn o) idxI y ∈ hr_GT) (hin : Jvm.Cond.instanceMethod y ∈ hr_GT) (hcd : Jvm.Cond.code y cc' nL' none ∈ hr_GT) (hyi : Jvm.Cond.initialized y.cls ∈ hr_GT) (hnm : y.name = "<init>") (hd0 : y.cls ≠ "java/lang/invoke/MethodHandle" ∧ y.cls ≠ "java/lang/invoke/VarHandle" ∧ (parseMethodDescriptor y.desc).map (fun d => d.parameters.length) = some 0) (hR : d + 1 ≤ R.frames ∧ 8 + (nL' + 11) + 40 * d ≤ R.locals)
    (hP : va_P G.1 vwCl ws H) (hrw : hr_row b ws) (hS : va_S (fun y => b ≤ y) H0 H locs) (hlo : b ≤ H0.size) (hz : s.heap.size + cells ≤ a) (hcells : cells + 1 + N ≤ R.cells) (hslots : slots + (hr_C k).2.2 + S ≤ R.slots) (hro : hr_row a out) (hout : out[0]? = some (a, .inr (k, vs))) (hla : la.size = nL) (hrest : ((Value.ref a :: rest).map fun v => v.category).sum ≤ 8)
    (hdN : decode cc pc = .ok (.new idxN, 3)) (hdD : decode cc (pc + 3) = .ok (.dup, 1)) (hdI : decode cc (pc + 4) = .ok (.invokespecial idxI, 3))
    (kk : ∀ (H1 : Heap) (locs1 : List Loc), va_P G.1 vwCl (ws ++ out) H1 → hr_row b (ws ++ out) → (ws ++ out)[ws.length]? = some (a, .inr (k, vs)) → va_S (fun y => b ≤ y) H0 H1 locs1 → W p l e R s mi args below meth c H1 locs1 (cells + 1 + N) (slots + (hr_C k).2.2 + S) Q (F0 mi (pc + 7) la (.ref a :: rest))) : W p l e R s mi args below meth c H locs cells slots Q (F0 mi pc la rest) := by
  subst ha
  obtain ⟨ty0, hty⟩ := hr_tyf k h11
  refine va_new A.1 A.2.1 (Ts := hr_GT) (C := (hr_C k).1) (T := (hr_C k).2.1) (N := (hr_C k).2.2) (ci := k) (fs := dflt) A.2.2.2.1 (hr_cls_in h11) ty0 hty A.2.2.2.2.1 (A.2.2.2.1 _ hcl) (A.2.2.2.1 _ hinst) (A.2.2.2.1 _ hini) A.2.2.2.2.2.1 hP hrw.D hS (fun q hq => Nat.le_trans hlo hq) (hr_Cg h11) (fun j hj => ?_) (by omega) (by omega) hdN (fun q H1 hP1 hD1 hS1 => ?_)
  · have h1 := hfs j hj
    rw [hty j hj] at h1
    exact Option.some.inj h1
  refine hr_addr hP1 hD1 hrw (by omega) (fun hq => ?_)
  subst hq
  refine hr_size (lo := b) (n := ws.length) hP1 rfl (by omega) (fun hsz => ?_)
  have hPa : va_P G.1 vwCl [(b + ws.length, .inr (k, dflt))] H1 := fun j q hj => by
    have h1 : j < 1 := (List.getElem?_eq_some_iff.mp hj).1
    rw [show j = 0 by omega] at hj
    cases hj
    exact hP1 ws.length _ (by rw [List.getElem?_append_right (Nat.le_refl _), Nat.sub_self]; rfl)
  have hPw : va_P G.1 vwCl ws H1 := fun j q hj => hP1 j q (by rw [List.getElem?_append_left (List.getElem?_eq_some_iff.mp hj).1]; exact hj)
  refine lv_dup A.1 A.2.1 hdD rfl ?_
  have hcw := cwI (R := R) (args := args) (s := s) (Ts := hr_GT) (ws := Jvm.Cond.code y cc' nL' none :: hr_GT) (rm := { frames := d, cells := N, slots := S, locals := 40 * d }) (own := hr_cn o) (index := idxI) (y := y) (mc := N) (ms := S) 0 A.2.2.2.1 (fun w hw => by
    rcases List.mem_cons.mp hw with rfl | hw
    · exact hr_good hcd
    · exact hr_good hw) rfl rfl rfl (A.2.2.2.1 _ hyi) (A.2.2.2.1 _ hlk) (A.2.2.2.1 _ hin) hnm hd0 hR
  refine hr_callb (va_runI (As := []) (rest := .ref (b + ws.length) :: rest) (b := b + ws.length) ⟨A.1, A.2.1, A.2.2.1, A.2.2.2.2.1, A.2.2.2.1⟩ hM hcw ⟨hr_bbl2 G _ k dflt, fun U hU hW => ⟨rfl, ⟨by rw [hU]; exact hsz, by rw [hU]; exact hPa, va_K.moved hW.alike A.2.2.2.2.2.1⟩, hr_AO.moved hW.alike hAO⟩⟩ rfl rfl hla rfl (lv_room hrest) hdI ⟨hcells, hslots⟩) hS1 (Nat.le_add_right _ _) (fun q hq => Nat.le_trans (Nat.le_add_right _ _) hq) hsz hout (fun H2 L2 hP2 hk2 hS2 => ?_)
  exact kk H2 L2 (va_P.app (hPw.kept (fun j x hx => hk2 x.1 (by
    have h1 := hrw j x hx
    have h2 := (List.getElem?_eq_some_iff.mp hx).1
    omega))) hP2) (hrw.app hro) (by rw [List.getElem?_append_right (Nat.le_refl _), Nat.sub_self]; exact hout) hS2
theorem hr_banew (A : hr_Y p s mi args meth c cc nL o G) {idx t0 : Nat} {C : String} (hcl : Jvm.Cond.classLink (hr_cn o) idx C ∈ hr_GT) (hov : va_AO C s) {cA : ClassId} (ht : (hr_tys G)[t0]? = some (cA, .object C)) {b a : Nat} (ha : a = b + ws.length) (hP : va_P G.1 vwCl ws H) (hrw : hr_row b ws) (hS : va_S (fun y => b ≤ y) H0 H locs) (hlo : b ≤ H0.size) (hz : s.heap.size + cells ≤ a)
    {n : Int32} {N' : Nat} (hn : ¬ n < 0) (hN : n.toNatClampNeg = N') (hbytes : N' * 4 ≤ 536870912) (hcells : cells + 1 ≤ R.cells) (hslots : slots + N' ≤ R.slots) (hd : decode cc pc = .ok (.anewarray idx, 3))
    (kk : ∀ (H1 : Heap), va_P G.1 vwCl (ws ++ [(a, .inl (cA, N', .inr (.inr (.inr (.inr (fun _ => none))))))]) H1 → hr_row b (ws ++ [(a, .inl (cA, N', .inr (.inr (.inr (.inr (fun _ => none))))))]) → va_S (fun y => b ≤ y) H0 H1 locs → W p l e R s mi args below meth c H1 locs (cells + 1) (slots + N') Q (F0 mi (pc + 3) la (.ref a :: rest))) : W p l e R s mi args below meth c H locs cells slots Q (F0 mi pc la (.int n :: rest)) := by
  subst ha
  refine va_newq A.1 A.2.1 A.2.2.2.2.1 (A.2.2.2.1 _ hcl) hov A.2.2.2.2.2.1 hP hrw.D hS (fun q hq => Nat.le_trans hlo hq) hn hN hbytes hcells hslots hd (fun q cB H1 hK1 hP1 hD1 hS1 => ?_)
  have hcB : cB = cA := by
    obtain ⟨_, _, _, _, _, e1⟩ := (hK1.2 (hr_tys G).length (cB, .object C) (by rw [List.getElem?_append_right (Nat.le_refl _), Nat.sub_self]; rfl)).2
    obtain ⟨_, _, _, _, _, e2⟩ := (A.2.2.2.2.2.1.2 t0 _ ht).2
    exact Option.some.inj (e1.symm.trans e2)
  subst hcB
  refine hr_addr hP1 hD1 hrw (by omega) (fun hq => ?_)
  subst hq
  exact kk H1 hP1 (hrw.push rfl) hS1
theorem hr_bast (A : hr_Y p s mi args meth c cc nL o G) {b : Nat} (hP : va_P G.1 vwCl ws H) (hrw : hr_row b ws) (hS : va_S (fun y => b ≤ y) H0 H locs) (q0 t0 qk k : Nat) (h11 : k < 11) {cA : ClassId} {n v a : Nat} {vs : List Value} {f : Nat → Option Nat} (ha : ws[q0]? = some (a, .inl (cA, n, .inr (.inr (.inr (.inr f)))))) (ht : (hr_tys G)[t0]? = some (cA, .object (hr_C k).1)) (hv : ws[qk]? = some (v, .inr (k, vs))) {i : Int32} (hin : vp_in i n) (hd : decode cc pc = .ok (.aastore, 1))
    (kk : ∀ (H1 : Heap) (locs1 : List Loc), va_P G.1 vwCl (ws.set q0 (a, .inl (cA, n, .inr (.inr (.inr (.inr (va_up f i.toNatClampNeg (some v)))))))) H1 → hr_row b (ws.set q0 (a, .inl (cA, n, .inr (.inr (.inr (.inr (va_up f i.toNatClampNeg (some v)))))))) → va_S (fun y => b ≤ y) H0 H1 locs1 → W p l e R s mi args below meth c H1 locs1 cells slots Q (F0 mi (pc + 1) la rest)) : W p l e R s mi args below meth c H locs cells slots Q (F0 mi pc la (.ref v :: .int i :: .ref a :: rest)) :=
  va_astq A.1 A.2.1 A.2.2.2.2.2.1 hP hrw.D hS q0 t0 qk k ha ht hv (hr_Cg h11) hin hd (fun H1 L1 hP1 _ hS1 => kk H1 L1 hP1 (hrw.set ha) hS1)
end HRR
