/-! THE LAW: it makes the class and the model -/
section LMK
variable {p : Program} {l : Launch} {e : Env} {s : State} {mi : MethodId} {below : List Frame} {meth : Method} {c : Code} {H : Heap} {locs : List Loc} {cells slots : Nat} {Q : State → Prop} {ws : va_W} {G : PG} {pc bb LL : Nat} {xx : Nat → Int32} {la : Array Slot} {rest : List Value} {H0 : Heap}
theorem lw_bmk (A : hr_LA p s mi meth c G bb LL xx) {b : Nat} {y : MethodName} {cc' : ByteArray} {nL' d N S k idxN idxI a : Nat} {dflt : List Value} {out : va_W} {vs : List Value} (hM : hr_Bt l G y cc' nL' d N S a k dflt out) (ha : a = b + ws.length) (h11 : k < 11)
    (hcl : Jvm.Cond.classLink (R_law) idxN (hr_C k).1 ∈ hr_GT) (hinst : Jvm.Cond.instantiable (hr_C k).1 (hr_C k).2.2 ∈ hr_GT) (hini : Jvm.Cond.initialized (hr_C k).1 ∈ hr_GT) (hfs : ∀ j, j < (hr_C k).2.2 → (parseFieldDescriptor ((hr_C k).2.1 j).2.2.1).map defaultValue = some (vp_V dflt j))
    (hlk : Jvm.Cond.methodLink (R_law) idxI y ∈ hr_GT) (hin : Jvm.Cond.instanceMethod y ∈ hr_GT) (hcd : Jvm.Cond.code y cc' nL' none ∈ hr_GT) (hyi : Jvm.Cond.initialized y.cls ∈ hr_GT) (hnm : y.name = "<init>") (hd0 : y.cls ≠ "java/lang/invoke/MethodHandle" ∧ y.cls ≠ "java/lang/invoke/VarHandle" ∧ (parseMethodDescriptor y.desc).map (fun d => d.parameters.length) = some 0) (hR : d + 1 ≤ room_1.frames ∧ 8 + (nL' + 11) + 40 * d ≤ room_1.locals)
    (hP : va_P G.1 vwCl ws H) (hrw : hr_row b ws) (hS : va_S (fun y => b ≤ y) H0 H locs) (hlo : b ≤ H0.size) (hz : s.heap.size + cells ≤ a) (hcells : cells + 1 + N ≤ room_1.cells) (hslots : slots + (hr_C k).2.2 + S ≤ room_1.slots) (hro : hr_row a out) (hout : out[0]? = some (a, .inr (k, vs))) (hla : la.size = 4) (hrest : ((Value.ref a :: rest).map fun v => v.category).sum ≤ 8)
    (hdN : decode code pc = .ok (.new idxN, 3)) (hdD : decode code (pc + 3) = .ok (.dup, 1)) (hdI : decode code (pc + 4) = .ok (.invokespecial idxI, 3))
    (kk : ∀ (H1 : Heap) (locs1 : List Loc), va_P G.1 vwCl (ws ++ out) H1 → hr_row b (ws ++ out) → (ws ++ out)[ws.length]? = some (a, .inr (k, vs)) → va_S (fun y => b ≤ y) H0 H1 locs1 → W p l e room_1 s mi #[Value.ref bb] below meth c H1 locs1 (cells + 1 + N) (slots + (hr_C k).2.2 + S) Q (F0 mi (pc + 7) la (.ref a :: rest))) : W p l e room_1 s mi #[Value.ref bb] below meth c H locs cells slots Q (F0 mi pc la rest) := by
  subst ha
  obtain ⟨ty0, hty⟩ := hr_tyf k h11
  refine va_new A.1 A.2.1 (Ts := hr_GT) (C := (hr_C k).1) (T := (hr_C k).2.1) (N := (hr_C k).2.2) (ci := k) (fs := dflt) A.2.2.2.1 (hr_cls_in h11) ty0 hty A.2.2.2.2.1 (A.2.2.2.1 _ hcl) (A.2.2.2.1 _ hinst) (A.2.2.2.1 _ hini) A.2.2.2.2.2.1 hP hrw.D hS (fun q hq => Nat.le_trans hlo hq) (hr_Cg h11) (fun j hj => ?_) (by omega) (by omega) hdN (fun q H1 hP1 hD1 hS1 => ?_)
  · have h1 := hfs j hj
    rw [hty j hj] at h1
    exact Option.some.inj h1
  refine hr_addr hP1 hD1 hrw (by omega) (fun hq => ?_)
  subst hq
  refine hr_size (lo := b) (n := ws.length) hP1 rfl (by omega) (fun hsz => ?_)
  have hPa : va_P G.1 vwCl [(b + ws.length, .inr (k, dflt))] H1 := fun j q hj => by
    have h1 : j < 1 := (List.getElem?_eq_some_iff.mp hj).1
    rw [show j = 0 by omega] at hj
    cases hj
    exact hP1 ws.length _ (by rw [List.getElem?_append_right (Nat.le_refl _), Nat.sub_self]; rfl)
  have hPw : va_P G.1 vwCl ws H1 := fun j q hj => hP1 j q (by rw [List.getElem?_append_left (List.getElem?_eq_some_iff.mp hj).1]; exact hj)
  refine lv_dup A.1 A.2.1 hdD rfl ?_
  have hcw := cwI (R := room_1) (args := #[Value.ref bb]) (s := s) (Ts := hr_GT) (ws := Jvm.Cond.code y cc' nL' none :: hr_GT) (rm := { frames := d, cells := N, slots := S, locals := 40 * d }) (own := R_law) (index := idxI) (y := y) (mc := N) (ms := S) 0 A.2.2.2.1 (fun w hw => by
    rcases List.mem_cons.mp hw with rfl | hw
    · exact hr_good hcd
    · exact hr_good hw) rfl rfl rfl (A.2.2.2.1 _ hyi) (A.2.2.2.1 _ hlk) (A.2.2.2.1 _ hin) hnm hd0 hR
  refine hr_callb (va_runI (As := []) (rest := .ref (b + ws.length) :: rest) (b := b + ws.length) ⟨A.1, A.2.1, A.2.2.1, A.2.2.2.2.1, A.2.2.2.1⟩ hM hcw ⟨hr_bbl G _ k dflt, fun U hU hW => ⟨rfl, by rw [hU]; exact hsz, by rw [hU]; exact hPa, va_K.moved hW.alike A.2.2.2.2.2.1⟩⟩ rfl rfl hla rfl (lv_room hrest) hdI ⟨hcells, hslots⟩) hS1 (Nat.le_add_right _ _) (fun q hq => Nat.le_trans (Nat.le_add_right _ _) hq) hsz hout (fun H2 L2 hP2 hk2 hS2 => ?_)
  exact kk H2 L2 (va_P.app (hPw.kept (fun j x hx => hk2 x.1 (by
    have h1 := hrw j x hx
    have h2 := (List.getElem?_eq_some_iff.mp hx).1
    omega))) hP2) (hrw.app hro) (by rw [List.getElem?_append_right (Nat.le_refl _), Nat.sub_self]; exact hout) hS2
theorem lw_bmk2 (A : hr_LA p s mi meth c G bb LL xx) {b : Nat} {y : MethodName} {cc' : ByteArray} {nL' d N S k idxN idxI a : Nat} {dflt : List Value} {out : va_W} {vs : List Value} (hAO : hr_AO s) (hM : hr_Bt2 l G y cc' nL' d N S a k dflt out) (ha : a = b + ws.length) (h11 : k < 11)
    (hcl : Jvm.Cond.classLink (R_law) idxN (hr_C k).1 ∈ hr_GT) (hinst : Jvm.Cond.instantiable (hr_C k).1 (hr_C k).2.2 ∈ hr_GT) (hini : Jvm.Cond.initialized (hr_C k).1 ∈ hr_GT) (hfs : ∀ j, j < (hr_C k).2.2 → (parseFieldDescriptor ((hr_C k).2.1 j).2.2.1).map defaultValue = some (vp_V dflt j))
    (hlk : Jvm.Cond.methodLink (R_law) idxI y ∈ hr_GT) (hin : Jvm.Cond.instanceMethod y ∈ hr_GT) (hcd : Jvm.Cond.code y cc' nL' none ∈ hr_GT) (hyi : Jvm.Cond.initialized y.cls ∈ hr_GT) (hnm : y.name = "<init>") (hd0 : y.cls ≠ "java/lang/invoke/MethodHandle" ∧ y.cls ≠ "java/lang/invoke/VarHandle" ∧ (parseMethodDescriptor y.desc).map (fun d => d.parameters.length) = some 0) (hR : d + 1 ≤ room_1.frames ∧ 8 + (nL' + 11) + 40 * d ≤ room_1.locals)
    (hP : va_P G.1 vwCl ws H) (hrw : hr_row b ws) (hS : va_S (fun y => b ≤ y) H0 H locs) (hlo : b ≤ H0.size) (hz : s.heap.size + cells ≤ a) (hcells : cells + 1 + N ≤ room_1.cells) (hslots : slots + (hr_C k).2.2 + S ≤ room_1.slots) (hro : hr_row a out) (hout : out[0]? = some (a, .inr (k, vs))) (hla : la.size = 4) (hrest : ((Value.ref a :: rest).map fun v => v.category).sum ≤ 8)
    (hdN : decode code pc = .ok (.new idxN, 3)) (hdD : decode code (pc + 3) = .ok (.dup, 1)) (hdI : decode code (pc + 4) = .ok (.invokespecial idxI, 3))
    (kk : ∀ (H1 : Heap) (locs1 : List Loc), va_P G.1 vwCl (ws ++ out) H1 → hr_row b (ws ++ out) → (ws ++ out)[ws.length]? = some (a, .inr (k, vs)) → va_S (fun y => b ≤ y) H0 H1 locs1 → W p l e room_1 s mi #[Value.ref bb] below meth c H1 locs1 (cells + 1 + N) (slots + (hr_C k).2.2 + S) Q (F0 mi (pc + 7) la (.ref a :: rest))) : W p l e room_1 s mi #[Value.ref bb] below meth c H locs cells slots Q (F0 mi pc la rest) := by
  subst ha
  obtain ⟨ty0, hty⟩ := hr_tyf k h11
  refine va_new A.1 A.2.1 (Ts := hr_GT) (C := (hr_C k).1) (T := (hr_C k).2.1) (N := (hr_C k).2.2) (ci := k) (fs := dflt) A.2.2.2.1 (hr_cls_in h11) ty0 hty A.2.2.2.2.1 (A.2.2.2.1 _ hcl) (A.2.2.2.1 _ hinst) (A.2.2.2.1 _ hini) A.2.2.2.2.2.1 hP hrw.D hS (fun q hq => Nat.le_trans hlo hq) (hr_Cg h11) (fun j hj => ?_) (by omega) (by omega) hdN (fun q H1 hP1 hD1 hS1 => ?_)
  · have h1 := hfs j hj
    rw [hty j hj] at h1
    exact Option.some.inj h1
  refine hr_addr hP1 hD1 hrw (by omega) (fun hq => ?_)
  subst hq
  refine hr_size (lo := b) (n := ws.length) hP1 rfl (by omega) (fun hsz => ?_)
  have hPa : va_P G.1 vwCl [(b + ws.length, .inr (k, dflt))] H1 := fun j q hj => by
    have h1 : j < 1 := (List.getElem?_eq_some_iff.mp hj).1
    rw [show j = 0 by omega] at hj
    cases hj
    exact hP1 ws.length _ (by rw [List.getElem?_append_right (Nat.le_refl _), Nat.sub_self]; rfl)
  have hPw : va_P G.1 vwCl ws H1 := fun j q hj => hP1 j q (by rw [List.getElem?_append_left (List.getElem?_eq_some_iff.mp hj).1]; exact hj)
  refine lv_dup A.1 A.2.1 hdD rfl ?_
  have hcw := cwI (R := room_1) (args := #[Value.ref bb]) (s := s) (Ts := hr_GT) (ws := Jvm.Cond.code y cc' nL' none :: hr_GT) (rm := { frames := d, cells := N, slots := S, locals := 40 * d }) (own := R_law) (index := idxI) (y := y) (mc := N) (ms := S) 0 A.2.2.2.1 (fun w hw => by
    rcases List.mem_cons.mp hw with rfl | hw
    · exact hr_good hcd
    · exact hr_good hw) rfl rfl rfl (A.2.2.2.1 _ hyi) (A.2.2.2.1 _ hlk) (A.2.2.2.1 _ hin) hnm hd0 hR
  refine hr_callb (va_runI (As := []) (rest := .ref (b + ws.length) :: rest) (b := b + ws.length) ⟨A.1, A.2.1, A.2.2.1, A.2.2.2.2.1, A.2.2.2.1⟩ hM hcw ⟨hr_bbl2 G _ k dflt, fun U hU hW => ⟨rfl, ⟨by rw [hU]; exact hsz, by rw [hU]; exact hPa, va_K.moved hW.alike A.2.2.2.2.2.1⟩, hr_AO.moved hW.alike hAO⟩⟩ rfl rfl hla rfl (lv_room hrest) hdI ⟨hcells, hslots⟩) hS1 (Nat.le_add_right _ _) (fun q hq => Nat.le_trans (Nat.le_add_right _ _) hq) hsz hout (fun H2 L2 hP2 hk2 hS2 => ?_)
  exact kk H2 L2 (va_P.app (hPw.kept (fun j x hx => hk2 x.1 (by
    have h1 := hrw j x hx
    have h2 := (List.getElem?_eq_some_iff.mp hx).1
    omega))) hP2) (hrw.app hro) (by rw [List.getElem?_append_right (Nat.le_refl _), Nat.sub_self]; exact hout) hS2
end LMK
