/-! THE JDK'S length, charAt on a static word, walked -/
def hr_Qj (v : Option Value) : Array Value → State → Outcome → State → Prop := fun _ st oc t => oc = .returned v ∧ t.heap = st.heap
def hr_ZV (G : PG) (adV : Nat → Nat) (U : State) : Prop := hr_Zst G U ∧ vk_S 18 hr_sn hr_sb (fun i => G.2.2.2 (325 + i)) adV (hr_AA G) U U.heap
theorem hr_ZV_mv {G : PG} {adV : Nat → Nat} {u U : State} (hvm : u.vm.Alike U.vm) (hq : ∀ q : Nat, q < u.heap.size → ¬ G.2.2.1 ≤ q → U.heap[q]? = u.heap[q]?) (h : hr_ZV G adV u) : hr_ZV G adV U := ⟨hr_Zst_mv hvm hq h.1, (h.2.moved hvm).kept hq⟩
def hr_J (l : Launch) (G : PG) (adV : Nat → Nat) (y : MethodName) (cc : ByteArray) (nL : Nat) (ret : Option FieldType) (d : Nat) (as : List Value) (v : Option Value) : Prop :=
  Met l y (Jvm.Cond.code y cc nL ret :: hr_GT) { frames := d, cells := 0, slots := 0, locals := 40 * d } (va_Pc as (fun U => hr_ZV G adV U)) (hr_Qj v) 0 0 (fun _ => False)
def hr_B (p : Program) (s : State) (mi : MethodId) (args : Array Value) (c : Code) (cc : ByteArray) (nL : Nat) (C : String) (G : PG) (adV : Nat → Nat) : Prop :=
  p.tables.exec = Jvm.exec ∧ c.code = cc ∧ c.maxLocals = nL ∧ (∀ w ∈ hr_GT, w.before args s = true) ∧ s.vm.findClass C = some mi.cls ∧ hr_ZV G adV s
theorem hr_gj {w : Jvm.Cond} (h : w ∈ hr_GT) : w ∈ hr_GT ∧ ((w.onTables && w.keeps) = true ∨ ∃ ty, w = .arrayClass ty) := ⟨h, good_of_word (List.mem_filter.mp h).2⟩
theorem hr_Jof {l : Launch} {G : PG} {adV : Nat → Nat} {y : MethodName} {cc : ByteArray} {nL : Nat} {ret : Option FieldType} {d : Nat} {as : List Value} {v : Option Value} (hy : plainName y.cls = true)
    (body : ∀ (p : Program) (e : Env) (s : State) (mi : MethodId) (below : List Frame) (meth : Method) (c : Code), hr_B p s mi as.toArray c cc nL y.cls G adV → meth.sig.returnType = ret → meth.locks = false →
      W p l e { frames := d, cells := 0, slots := 0, locals := 40 * d } s mi as.toArray below meth c s.heap [] 0 0 (MQ below (hr_Qj v) as.toArray s 0 0 (fun _ => False)) (F0 mi 0 ((lg_sl as ++ List.replicate (nL - (lg_sl as).length) Slot.unset).toArray) [])) : hr_J l G adV y cc nL ret d as v := by
  refine Met.ofW (cc := cc) (maxL := nL) (ret := ret) hy rfl ?_
  intro p e s mi args below meth c s₁ B hml hv
  obtain ⟨rfl, hZ⟩ := hv
  have hts := atoms_spec (ws := Jvm.Cond.code y cc nL ret :: hr_GT) B.pre
  rw [lg_entry_eq]
  exact body p e s mi below meth c ⟨B.exec, B.bytes, hml, fun w hw => hts w (List.mem_cons_of_mem _ hw), findClass_of_methodNamed B.named, hZ⟩ B.returns B.notSynchronized
section HRJ
variable {p : Program} {l : Launch} {e : Env} {R : Room} {s : State} {mi : MethodId} {args : Array Value} {below : List Frame} {meth : Method} {c : Code} {G : PG} {cc : ByteArray} {nL : Nat} {Q : State → Prop} {pc : Nat} {H : Heap} {locs : List Loc} {la : Array Slot} {C : String} {adV : Nat → Nat}
theorem hr_jR {st0 rest : List Value} {a : Array Value} {v : Option Value} (hr : va_Run p l e R s mi args below meth c H locs 0 0 0 0 (F0 mi pc la st0) rest (hr_Qj v a) (fun _ => False))
    (kk : W p l e R s mi args below meth c H locs 0 0 Q (F0 mi (pc + 3) la (v.toList ++ rest))) : W p l e R s mi args below meth c H locs 0 0 Q (F0 mi pc la st0) := by
  intro T hT X
  obtain ⟨w, st₀, t, T', L, h0, X', hL', e1, e2, ⟨hv, hh⟩, st⟩ := hr T hT X
  cases hv
  cases L with
  | cons q L => exact (hL' q List.mem_cons_self).elim
  | nil =>
    rw [List.append_nil] at X'
    obtain ⟨t2, a1, b1⟩ := kk T' (e1.trans (hh.trans h0)) X'
    exact ⟨t2, st t2 a1, b1⟩
theorem hr_Zb (G : PG) (adV : Nat → Nat) (as : List Value) : FrameBlind (va_Pc as (fun U => hr_ZV G adV U)) :=
  fun a U g mk h => ⟨h.1, hr_ZV_mv (u := U) (U := U.calling g mk a) (Vm.Alike.refl U.vm) (fun _ _ _ => rfl) h.2⟩
theorem hr_jV (B : hr_B p s mi args c cc nL C G adV) (hS : va_S (hr_AA G) s.heap H locs) {y : MethodName} {yc : ByteArray} {yL : Nat} {yr : Option FieldType} {d k idx b : Nat} {as rest : List Value} {v : Option Value}
    (hJ : hr_J l G adV y yc yL yr d (.ref b :: as) v) (hlk : Jvm.Cond.methodLink C idx y ∈ hr_GT) (hin : Jvm.Cond.instanceMethod y ∈ hr_GT) (hse : Jvm.Cond.selects y.cls y y ∈ hr_GT) (hini : Jvm.Cond.initialized y.cls ∈ hr_GT) (hcd : Jvm.Cond.code y yc yL yr ∈ hr_GT)
    (hy : y.cls ≠ "java/lang/invoke/MethodHandle" ∧ y.cls ≠ "java/lang/invoke/VarHandle" ∧ (parseMethodDescriptor y.desc).map (fun d => d.parameters.length) = some k) (hk : as.length = k) (hR : d + 1 ≤ R.frames ∧ 8 + (yL + 11) + 40 * d ≤ R.locals)
    (hcell : ∃ cell : Cell, H[b]? = some cell ∧ cell.vm.isStatics = false ∧ s.vm.findClass y.cls = some cell.cls) (hla : la.size = nL) (hrest : (rest.map fun v => v.category).sum ≤ 8) (hd : decode cc pc = .ok (.invokevirtual idx, 3))
    (kk : W p l e R s mi args below meth c H locs 0 0 Q (F0 mi (pc + 3) la (v.toList ++ rest))) : W p l e R s mi args below meth c H locs 0 0 Q (F0 mi pc la (as.reverse ++ .ref b :: rest)) := by
  have hcw := cwV (args := args) (s := s) (R := R) (own := C) (index := idx) (C := y.cls) (y := y) (ws := Jvm.Cond.code y yc yL yr :: hr_GT) (rm := { frames := d, cells := 0, slots := 0, locals := 40 * d }) (mc := 0) (ms := 0) k B.2.2.2.1
    (fun w hw => by
      simp only [wsV, List.mem_append, List.mem_cons, List.not_mem_nil, or_false] at hw
      rcases hw with (rfl | rfl | rfl | rfl) | rfl | hw
      · exact hr_gj hlk
      · exact hr_gj hin
      · exact hr_gj hse
      · exact hr_gj hini
      · exact hr_gj hcd
      · exact hr_gj hw) rfl rfl rfl ⟨rfl, hy⟩ hR
  exact hr_jR (va_runV (As := as) (rest := rest) (b := b) ⟨B.1, B.2.1, B.2.2.1, B.2.2.2.2.1, B.2.2.2.1⟩ hJ hcw ⟨hr_Zb G adV _, hcell, fun U hU hW => ⟨rfl, hr_ZV_mv hW.alike (fun q h1 h2 => by rw [hU]; exact hS.2.1 q h1 h2) B.2.2.2.2.2⟩⟩ rfl hk hla rfl (lv_room hrest) hd ⟨Nat.zero_le _, Nat.zero_le _⟩) kk
theorem hr_jS (B : hr_B p s mi args c cc nL C G adV) (hS : va_S (hr_AA G) s.heap H locs) {y : MethodName} {yc : ByteArray} {yL : Nat} {yr : Option FieldType} {d k idx : Nat} {as rest : List Value} {v : Option Value}
    (hJ : hr_J l G adV y yc yL yr d as v) (hlk : Jvm.Cond.methodLink C idx y ∈ hr_GT) (hst : Jvm.Cond.static y ∈ hr_GT) (hini : Jvm.Cond.initialized y.cls ∈ hr_GT) (hcd : Jvm.Cond.code y yc yL yr ∈ hr_GT)
    (hy : y.cls ≠ "java/lang/invoke/MethodHandle" ∧ y.cls ≠ "java/lang/invoke/VarHandle" ∧ (parseMethodDescriptor y.desc).map (fun d => d.parameters.length) = some k) (hk : as.length = k) (hR : d + 1 ≤ R.frames ∧ 8 + (yL + 11) + 40 * d ≤ R.locals)
    (hla : la.size = nL) (hrest : (rest.map fun v => v.category).sum ≤ 8) (hd : decode cc pc = .ok (.invokestatic idx, 3))
    (kk : W p l e R s mi args below meth c H locs 0 0 Q (F0 mi (pc + 3) la (v.toList ++ rest))) : W p l e R s mi args below meth c H locs 0 0 Q (F0 mi pc la (as.reverse ++ rest)) := by
  have hcw := va_cwS (args := args) (s := s) (R := R) (own := C) (index := idx) (y := y) (ws := Jvm.Cond.code y yc yL yr :: hr_GT) (rm := { frames := d, cells := 0, slots := 0, locals := 40 * d }) (mc := 0) (ms := 0) k B.2.2.2.1
    (fun w hw => by
      simp only [va_wsS, List.mem_append, List.mem_cons, List.not_mem_nil, or_false] at hw
      rcases hw with (rfl | rfl | rfl) | rfl | hw
      · exact hr_gj hlk
      · exact hr_gj hst
      · exact hr_gj hini
      · exact hr_gj hcd
      · exact hr_gj hw) rfl rfl rfl hy hR
  exact hr_jR (va_runS (As := as) (rest := rest) ⟨B.1, B.2.1, B.2.2.1, B.2.2.2.2.1, B.2.2.2.1⟩ hJ hcw ⟨hr_Zb G adV _, fun U hU hW => ⟨rfl, hr_ZV_mv hW.alike (fun q h1 h2 => by rw [hU]; exact hS.2.1 q h1 h2) B.2.2.2.2.2⟩⟩ rfl hk hla rfl (lv_room hrest) hd ⟨Nat.zero_le _, Nat.zero_le _⟩) kk
end HRJ
abbrev hr_i (i : Nat) (w : Jvm.Cond) : Prop := tables_1[i]? = some w ∧ goodWord w = true
theorem hr_iT {i : Nat} {w : Jvm.Cond} (h : hr_i i w) : w ∈ hr_GT := hr_GT_1 h.1 h.2
theorem hr_w12 : Jvm.Cond.initialized "java/lang/String" ∈ hr_GT := hr_iT (i := 12) ⟨by decide +kernel, by decide +kernel⟩
theorem hr_w13 : Jvm.Cond.initialized "java/lang/StringLatin1" ∈ hr_GT := hr_iT (i := 13) ⟨by decide +kernel, by decide +kernel⟩
theorem hr_w14 : Jvm.Cond.initialized "jdk/internal/util/Preconditions" ∈ hr_GT := hr_iT (i := 14) ⟨by decide +kernel, by decide +kernel⟩
theorem hr_w523 : Jvm.Cond.methodLink "HueRash$Reader" 184 yJ0_length_8abf5 ∈ hr_GT := hr_iT (i := 523) ⟨by decide +kernel, by decide +kernel⟩
theorem hr_w524 : Jvm.Cond.instanceMethod yJ0_length_8abf5 ∈ hr_GT := hr_iT (i := 524) ⟨by decide +kernel, by decide +kernel⟩
theorem hr_w525 : Jvm.Cond.selects "java/lang/String" yJ0_length_8abf5 yJ0_length_8abf5 ∈ hr_GT := hr_iT (i := 525) ⟨by decide +kernel, by decide +kernel⟩
theorem hr_w526 : Jvm.Cond.code yJ0_length_8abf5 cJ0_length_8abf5 1 (some .int) ∈ hr_GT := hr_iT (i := 526) ⟨by decide +kernel, by decide +kernel⟩
theorem hr_w527 : Jvm.Cond.methodLink "java/lang/String" 335 yJ0_coder_7d493 ∈ hr_GT := hr_iT (i := 527) ⟨by decide +kernel, by decide +kernel⟩
theorem hr_w528 : Jvm.Cond.instanceMethod yJ0_coder_7d493 ∈ hr_GT := hr_iT (i := 528) ⟨by decide +kernel, by decide +kernel⟩
theorem hr_w529 : Jvm.Cond.selects "java/lang/String" yJ0_coder_7d493 yJ0_coder_7d493 ∈ hr_GT := hr_iT (i := 529) ⟨by decide +kernel, by decide +kernel⟩
theorem hr_w530 : Jvm.Cond.code yJ0_coder_7d493 cJ0_coder_7d493 1 (some .byte) ∈ hr_GT := hr_iT (i := 530) ⟨by decide +kernel, by decide +kernel⟩
theorem hr_w531 : Jvm.Cond.fieldLink "java/lang/String" 38 "java/lang/String" "COMPACT_STRINGS" "Z" ∈ hr_GT := hr_iT (i := 531) ⟨by decide +kernel, by decide +kernel⟩
theorem hr_w533 : Jvm.Cond.methodLink "HueRash$Reader" 192 yJ0_charAt_5068e ∈ hr_GT := hr_iT (i := 533) ⟨by decide +kernel, by decide +kernel⟩
theorem hr_w534 : Jvm.Cond.instanceMethod yJ0_charAt_5068e ∈ hr_GT := hr_iT (i := 534) ⟨by decide +kernel, by decide +kernel⟩
theorem hr_w535 : Jvm.Cond.selects "java/lang/String" yJ0_charAt_5068e yJ0_charAt_5068e ∈ hr_GT := hr_iT (i := 535) ⟨by decide +kernel, by decide +kernel⟩
theorem hr_w536 : Jvm.Cond.code yJ0_charAt_5068e cJ0_charAt_5068e 2 (some .char) ∈ hr_GT := hr_iT (i := 536) ⟨by decide +kernel, by decide +kernel⟩
theorem hr_w537 : Jvm.Cond.methodLink "java/lang/String" 492 yJ0_isLatin1_aae02 ∈ hr_GT := hr_iT (i := 537) ⟨by decide +kernel, by decide +kernel⟩
theorem hr_w538 : Jvm.Cond.instanceMethod yJ0_isLatin1_aae02 ∈ hr_GT := hr_iT (i := 538) ⟨by decide +kernel, by decide +kernel⟩
theorem hr_w539 : Jvm.Cond.selects "java/lang/String" yJ0_isLatin1_aae02 yJ0_isLatin1_aae02 ∈ hr_GT := hr_iT (i := 539) ⟨by decide +kernel, by decide +kernel⟩
theorem hr_w540 : Jvm.Cond.code yJ0_isLatin1_aae02 cJ0_isLatin1_aae02 1 (some .boolean) ∈ hr_GT := hr_iT (i := 540) ⟨by decide +kernel, by decide +kernel⟩
theorem hr_w541 : Jvm.Cond.methodLink "java/lang/String" 495 yJ1_charAt_3b067 ∈ hr_GT := hr_iT (i := 541) ⟨by decide +kernel, by decide +kernel⟩
theorem hr_w542 : Jvm.Cond.static yJ1_charAt_3b067 ∈ hr_GT := hr_iT (i := 542) ⟨by decide +kernel, by decide +kernel⟩
theorem hr_w543 : Jvm.Cond.code yJ1_charAt_3b067 cJ1_charAt_3b067 2 (some .char) ∈ hr_GT := hr_iT (i := 543) ⟨by decide +kernel, by decide +kernel⟩
theorem hr_w544 : Jvm.Cond.methodLink "java/lang/StringLatin1" 9 yJ0_checkIndex_df160 ∈ hr_GT := hr_iT (i := 544) ⟨by decide +kernel, by decide +kernel⟩
theorem hr_w545 : Jvm.Cond.static yJ0_checkIndex_df160 ∈ hr_GT := hr_iT (i := 545) ⟨by decide +kernel, by decide +kernel⟩
theorem hr_w546 : Jvm.Cond.code yJ0_checkIndex_df160 cJ0_checkIndex_df160 2 none ∈ hr_GT := hr_iT (i := 546) ⟨by decide +kernel, by decide +kernel⟩
theorem hr_w547 : Jvm.Cond.fieldLink "java/lang/String" 1053 "jdk/internal/util/Preconditions" "SIOOBE_FORMATTER" "Ljava/util/function/BiFunction;" ∈ hr_GT := hr_iT (i := 547) ⟨by decide +kernel, by decide +kernel⟩
theorem hr_w549 : Jvm.Cond.methodLink "java/lang/String" 1059 yJ3_checkIndex_8e157 ∈ hr_GT := hr_iT (i := 549) ⟨by decide +kernel, by decide +kernel⟩
theorem hr_w550 : Jvm.Cond.static yJ3_checkIndex_8e157 ∈ hr_GT := hr_iT (i := 550) ⟨by decide +kernel, by decide +kernel⟩
theorem hr_w551 : Jvm.Cond.code yJ3_checkIndex_8e157 cJ3_checkIndex_8e157 3 (some .int) ∈ hr_GT := hr_iT (i := 551) ⟨by decide +kernel, by decide +kernel⟩
theorem hr_w1950 : Jvm.Cond.fieldLink "java/lang/String" 9 "java/lang/String" "value" "[B" ∈ hr_GT := hr_iT (i := 1950) ⟨by decide +kernel, by decide +kernel⟩
theorem hr_w1951 : Jvm.Cond.fieldLink "java/lang/String" 15 "java/lang/String" "coder" "B" ∈ hr_GT := hr_iT (i := 1951) ⟨by decide +kernel, by decide +kernel⟩
theorem hr_coder {l : Launch} {G : PG} {adV : Nat → Nat} {i : Nat} (hi : i < 18) : hr_J l G adV yJ0_coder_7d493 cJ0_coder_7d493 1 (some .byte) 0 [.ref (G.2.2.2 (325 + i))] (some (.int 0)) := by
  refine hr_Jof (by decide +kernel) ?_
  intro p e s mi below meth c B hr hlk
  have hv := B.2.2.2.2.2.2
  refine va_gets B.1 B.2.1 B.2.2.2.2.2.1.2.2.2.2.1 va_S.rf B.2.2.2.2.1 (B.2.2.2.1 _ hr_w531) (fun x h => h) (show decode cJ0_coder_7d493 0 = .ok (.getstatic 38, 3) by decide +kernel) ?_
  refine lv_if_eq B.1 B.2.1 (show decode cJ0_coder_7d493 3 = .ok (.ifCond .eq 10, 3) by decide +kernel) (tgt := 13) rfl (fun h => absurd h (by decide)) (fun _ => ?_)
  refine lv_aload_n B.1 B.2.1 (show decode cJ0_coder_7d493 6 = .ok (.aload_n 0, 1) by decide +kernel) rfl rfl ?_
  refine vk_getf B.1 B.2.1 (hv.1 i hi).2.1 va_S.rf B.2.2.2.2.1 (B.2.2.2.1 _ hr_w1951) (fun x h => h) (show decode cJ0_coder_7d493 7 = .ok (.getfield 15, 3) by decide +kernel) ?_
  refine lv_goto B.1 B.2.1 (show decode cJ0_coder_7d493 10 = .ok (.goto 4, 3) by decide +kernel) (tgt := 14) rfl ?_
  exact W.zret B.1 B.2.1 hr (by decide) (fun t ht _ => ⟨rfl, ht⟩) (fun q h => by cases h) (show decode cJ0_coder_7d493 14 = .ok (.ireturn, 1) by decide +kernel) hlk
theorem hr_len {l : Launch} {G : PG} {adV : Nat → Nat} {i : Nat} (hi : i < 18) : hr_J l G adV yJ0_length_8abf5 cJ0_length_8abf5 1 (some .int) 1 [.ref (G.2.2.2 (325 + i))] (some (.int (Int32.ofNat (hr_sn.getD i 0)))) := by
  refine hr_Jof (by decide +kernel) ?_
  intro p e s mi below meth c B hr hlk
  have hv := B.2.2.2.2.2.2
  refine lv_aload_n B.1 B.2.1 (show decode cJ0_length_8abf5 0 = .ok (.aload_n 0, 1) by decide +kernel) rfl rfl ?_
  refine vk_getf B.1 B.2.1 (hv.1 i hi).2.2.1 va_S.rf B.2.2.2.2.1 (B.2.2.2.1 _ hr_w1950) (fun x h => h) (show decode cJ0_length_8abf5 1 = .ok (.getfield 9, 3) by decide +kernel) ?_
  refine va_tlen B.1 B.2.1 (hv.1 i hi).2.2.2 va_S.rf rfl (show decode cJ0_length_8abf5 4 = .ok (.arraylength, 1) by decide +kernel) ?_
  refine lv_aload_n B.1 B.2.1 (show decode cJ0_length_8abf5 5 = .ok (.aload_n 0, 1) by decide +kernel) rfl rfl ?_
  refine hr_jV (as := []) (k := 0) B va_S.rf (hr_coder hi) hr_w527 hr_w528 hr_w529 hr_w12 hr_w530
    ⟨by decide, by decide, by decide +kernel⟩ rfl ⟨by decide, by decide⟩ (vk_recv (i := i) hv hi va_S.rf) rfl (Nat.le_of_ble_eq_true rfl) (show decode cJ0_length_8abf5 6 = .ok (.invokevirtual 335, 3) by decide +kernel) ?_
  refine lv_ishr B.1 B.2.1 (show decode cJ0_length_8abf5 9 = .ok (.ishr, 1) by decide +kernel) ?_
  have e0 : ∀ x : Int32, x >>> ((0 : Int32) &&& 31) = x := fun x => by simp
  rw [e0]
  exact W.iret B.1 B.2.1 hr (fun t ht _ => ⟨rfl, ht⟩) (fun q h => by cases h) (show decode cJ0_length_8abf5 10 = .ok (.ireturn, 1) by decide +kernel) hlk
theorem hr_latin {l : Launch} {G : PG} {adV : Nat → Nat} {i : Nat} (hi : i < 18) : hr_J l G adV yJ0_isLatin1_aae02 cJ0_isLatin1_aae02 1 (some .boolean) 0 [.ref (G.2.2.2 (325 + i))] (some (.int 1)) := by
  refine hr_Jof (by decide +kernel) ?_
  intro p e s mi below meth c B hr hlk
  have hv := B.2.2.2.2.2.2
  refine va_gets B.1 B.2.1 B.2.2.2.2.2.1.2.2.2.2.1 va_S.rf B.2.2.2.2.1 (B.2.2.2.1 _ hr_w531) (fun x h => h) (show decode cJ0_isLatin1_aae02 0 = .ok (.getstatic 38, 3) by decide +kernel) ?_
  refine lv_if_eq B.1 B.2.1 (show decode cJ0_isLatin1_aae02 3 = .ok (.ifCond .eq 14, 3) by decide +kernel) (tgt := 17) rfl (fun h => absurd h (by decide)) (fun _ => ?_)
  refine lv_aload_n B.1 B.2.1 (show decode cJ0_isLatin1_aae02 6 = .ok (.aload_n 0, 1) by decide +kernel) rfl rfl ?_
  refine vk_getf B.1 B.2.1 (hv.1 i hi).2.1 va_S.rf B.2.2.2.2.1 (B.2.2.2.1 _ hr_w1951) (fun x h => h) (show decode cJ0_isLatin1_aae02 7 = .ok (.getfield 15, 3) by decide +kernel) ?_
  refine lv_if_ne B.1 B.2.1 (show decode cJ0_isLatin1_aae02 10 = .ok (.ifCond .ne 7, 3) by decide +kernel) (tgt := 17) rfl (fun h => absurd rfl h) (fun _ => ?_)
  refine lv_iconst B.1 B.2.1 (show decode cJ0_isLatin1_aae02 13 = .ok (.iconst 1, 1) by decide +kernel) (v := 1) (by decide) ?_
  refine lv_goto B.1 B.2.1 (show decode cJ0_isLatin1_aae02 14 = .ok (.goto 4, 3) by decide +kernel) (tgt := 18) rfl ?_
  exact W.zret B.1 B.2.1 hr (by decide) (fun t ht _ => ⟨rfl, ht⟩) (fun q h => by cases h) (show decode cJ0_isLatin1_aae02 18 = .ok (.ireturn, 1) by decide +kernel) hlk
theorem hr_ckP {l : Launch} {G : PG} {adV : Nat → Nat} {x n : Int32} {w : Value} (h0 : ¬ x < 0) (h1 : x < n) : hr_J l G adV yJ3_checkIndex_8e157 cJ3_checkIndex_8e157 3 (some .int) 0 [.int x, .int n, w] (some (.int x)) := by
  refine hr_Jof (by decide +kernel) ?_
  intro p e s mi below meth c B hr hlk
  refine lv_iload_n B.1 B.2.1 (show decode cJ3_checkIndex_8e157 0 = .ok (.iload_n 0, 1) by decide +kernel) rfl rfl ?_
  refine lv_if_lt B.1 B.2.1 (show decode cJ3_checkIndex_8e157 1 = .ok (.ifCond .lt 8, 3) by decide +kernel) (tgt := 9) rfl (fun h => absurd h h0) (fun _ => ?_)
  refine lv_iload_n B.1 B.2.1 (show decode cJ3_checkIndex_8e157 4 = .ok (.iload_n 0, 1) by decide +kernel) rfl rfl ?_
  refine lv_iload_n B.1 B.2.1 (show decode cJ3_checkIndex_8e157 5 = .ok (.iload_n 1, 1) by decide +kernel) rfl rfl ?_
  refine lv_icmp_lt B.1 B.2.1 (show decode cJ3_checkIndex_8e157 6 = .ok (.if_icmp .lt 10, 3) by decide +kernel) (tgt := 16) rfl (fun _ => ?_) (fun h => absurd h1 h)
  refine lv_iload_n B.1 B.2.1 (show decode cJ3_checkIndex_8e157 16 = .ok (.iload_n 0, 1) by decide +kernel) rfl rfl ?_
  exact W.iret B.1 B.2.1 hr (fun t ht _ => ⟨rfl, ht⟩) (fun q h => by cases h) (show decode cJ3_checkIndex_8e157 17 = .ok (.ireturn, 1) by decide +kernel) hlk
theorem hr_ckS {l : Launch} {G : PG} {adV : Nat → Nat} {x n : Int32} (h0 : ¬ x < 0) (h1 : x < n) : hr_J l G adV yJ0_checkIndex_df160 cJ0_checkIndex_df160 2 none 1 [.int x, .int n] none := by
  refine hr_Jof (by decide +kernel) ?_
  intro p e s mi below meth c B hr hlk
  refine lv_iload_n B.1 B.2.1 (show decode cJ0_checkIndex_df160 0 = .ok (.iload_n 0, 1) by decide +kernel) rfl rfl ?_
  refine lv_iload_n B.1 B.2.1 (show decode cJ0_checkIndex_df160 1 = .ok (.iload_n 1, 1) by decide +kernel) rfl rfl ?_
  obtain ⟨w, hw⟩ : ∃ w : Value, va_Z "jdk/internal/util/Preconditions" "SIOOBE_FORMATTER" "Ljava/util/function/BiFunction;" w (hr_AA G) s s.heap := by
    rcases B.2.2.2.2.2.1.2.2.2.2.2 with h | ⟨t, h⟩
    · exact ⟨_, h⟩
    · exact ⟨_, h⟩
  refine va_gets B.1 B.2.1 hw va_S.rf B.2.2.2.2.1 (B.2.2.2.1 _ hr_w547) (fun x h => h) (show decode cJ0_checkIndex_df160 2 = .ok (.getstatic 1053, 3) by decide +kernel) ?_
  refine hr_jS (as := [.int x, .int n, w]) (rest := []) (k := 3) B va_S.rf (hr_ckP (w := w) h0 h1) hr_w549 hr_w550 hr_w14 hr_w551 ⟨by decide, by decide, by decide +kernel⟩ rfl ⟨Nat.le_of_ble_eq_true rfl, Nat.le_of_ble_eq_true rfl⟩ rfl (Nat.le_of_ble_eq_true rfl) (show decode cJ0_checkIndex_df160 5 = .ok (.invokestatic 1059, 3) by decide +kernel) ?_
  refine lv_pop B.1 B.2.1 (show decode cJ0_checkIndex_df160 8 = .ok (.pop, 1) by decide +kernel) rfl ?_
  exact W.vret B.1 B.2.1 hr (fun t ht _ => ⟨rfl, ht⟩) (fun q h => by cases h) (show decode cJ0_checkIndex_df160 9 = .ok (.return_, 1) by decide +kernel) hlk
theorem hr_latAt {l : Launch} {G : PG} {adV : Nat → Nat} {i : Nat} (hi : i < 18) {x : Int32} (hx : vp_in x (hr_sn.getD i 0)) (h0 : ¬ x < 0) (h1 : x < Int32.ofNat (hr_sn.getD i 0)) (hw : (((hr_sb.getD i []).getD x.toNatClampNeg 0 &&& 255).toUInt32 % 65536).toInt32 = (hr_sb.getD i []).getD x.toNatClampNeg 0) (hn : narrow .char (.int ((hr_sb.getD i []).getD x.toNatClampNeg 0)) = .int ((hr_sb.getD i []).getD x.toNatClampNeg 0)) :
    hr_J l G adV yJ1_charAt_3b067 cJ1_charAt_3b067 2 (some .char) 2 [.ref (adV i), .int x] (some (.int ((hr_sb.getD i []).getD x.toNatClampNeg 0))) := by
  refine hr_Jof (by decide +kernel) ?_
  intro p e s mi below meth c B hr hlk
  have hv := B.2.2.2.2.2.2
  refine lv_iload_n B.1 B.2.1 (show decode cJ1_charAt_3b067 0 = .ok (.iload_n 1, 1) by decide +kernel) rfl rfl ?_
  refine lv_aload_n B.1 B.2.1 (show decode cJ1_charAt_3b067 1 = .ok (.aload_n 0, 1) by decide +kernel) rfl rfl ?_
  refine va_tlen B.1 B.2.1 (hv.1 i hi).2.2.2 va_S.rf rfl (show decode cJ1_charAt_3b067 2 = .ok (.arraylength, 1) by decide +kernel) ?_
  refine hr_jS (as := [.int x, .int (Int32.ofNat (hr_sn.getD i 0))]) (rest := []) (k := 2) B va_S.rf (hr_ckS h0 h1) hr_w544 hr_w545 hr_w12 hr_w546 ⟨by decide, by decide, by decide +kernel⟩ rfl ⟨Nat.le_of_ble_eq_true rfl, Nat.le_of_ble_eq_true rfl⟩ rfl (Nat.le_of_ble_eq_true rfl) (show decode cJ1_charAt_3b067 3 = .ok (.invokestatic 9, 3) by decide +kernel) ?_
  refine lv_aload_n B.1 B.2.1 (show decode cJ1_charAt_3b067 6 = .ok (.aload_n 0, 1) by decide +kernel) rfl rfl ?_
  refine lv_iload_n B.1 B.2.1 (show decode cJ1_charAt_3b067 7 = .ok (.iload_n 1, 1) by decide +kernel) rfl rfl ?_
  refine va_tb B.1 B.2.1 (hv.1 i hi).2.2.2 va_S.rf hx rfl (show decode cJ1_charAt_3b067 8 = .ok (.baload, 1) by decide +kernel) ?_
  refine lv_sipush B.1 B.2.1 (show decode cJ1_charAt_3b067 9 = .ok (.sipush 255, 3) by decide +kernel) (v := 255) (by decide) ?_
  refine lv_iand B.1 B.2.1 (show decode cJ1_charAt_3b067 12 = .ok (.iand, 1) by decide +kernel) ?_
  refine lv_i2c B.1 B.2.1 (show decode cJ1_charAt_3b067 13 = .ok (.i2c, 1) by decide +kernel) hw ?_
  exact W.zret B.1 B.2.1 hr hn (fun t ht _ => ⟨rfl, ht⟩) (fun q h => by cases h) (show decode cJ1_charAt_3b067 14 = .ok (.ireturn, 1) by decide +kernel) hlk
theorem hr_chAt {l : Launch} {G : PG} {adV : Nat → Nat} {i : Nat} (hi : i < 18) {x : Int32} (hx : vp_in x (hr_sn.getD i 0)) (h0 : ¬ x < 0) (h1 : x < Int32.ofNat (hr_sn.getD i 0)) (hw : (((hr_sb.getD i []).getD x.toNatClampNeg 0 &&& 255).toUInt32 % 65536).toInt32 = (hr_sb.getD i []).getD x.toNatClampNeg 0) (hn : narrow .char (.int ((hr_sb.getD i []).getD x.toNatClampNeg 0)) = .int ((hr_sb.getD i []).getD x.toNatClampNeg 0)) :
    hr_J l G adV yJ0_charAt_5068e cJ0_charAt_5068e 2 (some .char) 3 [.ref (G.2.2.2 (325 + i)), .int x] (some (.int ((hr_sb.getD i []).getD x.toNatClampNeg 0))) := by
  refine hr_Jof (by decide +kernel) ?_
  intro p e s mi below meth c B hr hlk
  have hv := B.2.2.2.2.2.2
  refine lv_aload_n B.1 B.2.1 (show decode cJ0_charAt_5068e 0 = .ok (.aload_n 0, 1) by decide +kernel) rfl rfl ?_
  refine hr_jV (as := []) (k := 0) B va_S.rf (hr_latin hi) hr_w537 hr_w538 hr_w539 hr_w12 hr_w540 ⟨by decide, by decide, by decide +kernel⟩ rfl ⟨Nat.le_of_ble_eq_true rfl, Nat.le_of_ble_eq_true rfl⟩ (vk_recv (i := i) hv hi va_S.rf) rfl (Nat.le_of_ble_eq_true rfl) (show decode cJ0_charAt_5068e 1 = .ok (.invokevirtual 492, 3) by decide +kernel) ?_
  refine lv_if_eq B.1 B.2.1 (show decode cJ0_charAt_5068e 4 = .ok (.ifCond .eq 12, 3) by decide +kernel) (tgt := 16) rfl (fun h => absurd h (by decide)) (fun _ => ?_)
  refine lv_aload_n B.1 B.2.1 (show decode cJ0_charAt_5068e 7 = .ok (.aload_n 0, 1) by decide +kernel) rfl rfl ?_
  refine vk_getf B.1 B.2.1 (hv.1 i hi).2.2.1 va_S.rf B.2.2.2.2.1 (B.2.2.2.1 _ hr_w1950) (fun x h => h) (show decode cJ0_charAt_5068e 8 = .ok (.getfield 9, 3) by decide +kernel) ?_
  refine lv_iload_n B.1 B.2.1 (show decode cJ0_charAt_5068e 11 = .ok (.iload_n 1, 1) by decide +kernel) rfl rfl ?_
  refine hr_jS (as := [.ref (adV i), .int x]) (rest := []) (k := 2) B va_S.rf (hr_latAt hi hx h0 h1 hw hn) hr_w541 hr_w542 hr_w13 hr_w543 ⟨by decide, by decide, by decide +kernel⟩ rfl ⟨Nat.le_of_ble_eq_true rfl, Nat.le_of_ble_eq_true rfl⟩ rfl (Nat.le_of_ble_eq_true rfl) (show decode cJ0_charAt_5068e 12 = .ok (.invokestatic 495, 3) by decide +kernel) ?_
  exact W.zret B.1 B.2.1 hr hn (fun t ht _ => ⟨rfl, ht⟩) (fun q h => by cases h) (show decode cJ0_charAt_5068e 15 = .ok (.ireturn, 1) by decide +kernel) hlk
def hr_mlqz (o : Nat) (q : Nat × Nat × Nat × Nat) : Bool := (decide (q.2.1 ≠ 14) || (decide (o = 5) && decide (q.1 = 184))) && (decide (q.2.1 ≠ 15) || (decide (o = 5) && decide (q.1 = 192)))
theorem hr_mlqzs : (List.range 14).all (fun o => (hr_mlT.getD o []).all (hr_mlqz o)) = true := by decide +kernel
theorem hr_ml_s {o i m w : Nat} : (hr_ml o i = some (14, m, w) → o = 5 ∧ i = 184) ∧ (hr_ml o i = some (15, m, w) → o = 5 ∧ i = 192) := by
  constructor
  · intro h
    obtain ⟨ho, hm⟩ := hr_ml_o h
    have h1 := List.all_eq_true.mp (List.all_eq_true.mp hr_mlqzs o (List.mem_range.mpr ho)) _ hm
    simp only [hr_mlqz, Bool.and_eq_true, Bool.or_eq_true, decide_eq_true_eq] at h1
    exact h1.1.resolve_left (fun q => q rfl)
  · intro h
    obtain ⟨ho, hm⟩ := hr_ml_o h
    have h1 := List.all_eq_true.mp (List.all_eq_true.mp hr_mlqzs o (List.mem_range.mpr ho)) _ hm
    simp only [hr_mlqz, Bool.and_eq_true, Bool.or_eq_true, decide_eq_true_eq] at h1
    exact h1.2.resolve_left (fun q => q rfl)
theorem hr_sN : ∀ j, j < 18 → hr_N (325 + j) = hr_sn.getD j 0 ∧ hr_sn.getD j 0 < 100 ∧ hr_s0L.getD (20 + j) [] = hr_sb.getD j [] := by decide +kernel
def hr_byq (b : Int32) : Bool := decide (((b &&& 255).toUInt32 % 65536).toInt32 = b) && decide (narrow .char (.int b) = .int b)
theorem hr_byall : hr_sb.all (fun w => w.all hr_byq) = true := by decide +kernel
theorem hr_byz : hr_byq 0 = true := by decide +kernel
theorem hr_byok (j k : Nat) : hr_byq ((hr_sb.getD j []).getD k 0) = true := by
  by_cases h1 : j < hr_sb.length
  · rw [List.getD_eq_getElem?_getD, List.getD_eq_getElem?_getD, List.getElem?_eq_getElem h1, Option.getD_some]
    by_cases h2 : k < hr_sb[j].length
    · rw [List.getElem?_eq_getElem h2, Option.getD_some]
      exact List.all_eq_true.mp (List.all_eq_true.mp hr_byall _ (List.getElem_mem h1)) _ (List.getElem_mem h2)
    · rw [List.getElem?_eq_none (by omega)]
      exact hr_byz
  · have e : hr_sb.getD j [] = [] := by rw [List.getD_eq_getElem?_getD, List.getElem?_eq_none (Nat.le_of_not_lt h1)]; rfl
    rw [e]
    exact hr_byz
theorem hr_vplt {x : Int32} {N : Nat} (h : vp_in x N) (hN : N < 100) : ¬ x < 0 ∧ x < Int32.ofNat N := by
  have h0 : ¬ x < 0 := fun q => h (Or.inl q)
  have h1 : x.toNatClampNeg < N := Nat.not_le.mp fun q => h (Or.inr q)
  refine ⟨h0, ?_⟩
  rw [Int32.lt_iff_toInt_lt] at h0 ⊢
  rw [Int32.toInt_ofNat_of_lt (by omega)]
  have h2 : x.toNatClampNeg = x.toInt.toNat := rfl
  rw [h2] at h1
  have h3 : (0 : Int32).toInt = 0 := rfl
  omega
section HRZ
variable {p : Program} {l : Launch} {e : Env} {R : Room} {s : State} {mi : MethodId} {args : Array Value} {below : List Frame} {meth : Method} {c : Code} {G : PG} {cc : ByteArray} {nL : Nat} {Q : State → Prop} {o d : Nat} {pc : Nat} {ls : PL} {st : List Value} {M : PM}
theorem hr_A_B {adV : Nat → Nat} (A : hr_A p s mi args c cc nL o G) (hv : vk_S 18 hr_sn hr_sb (fun i => G.2.2.2 (325 + i)) adV (hr_AA G) s s.heap) : hr_B p s mi args c cc nL (hr_cn o) G adV := ⟨A.1, A.2.1, A.2.2.1, A.2.2.2.1, A.2.2.2.2.1, A.2.2.2.2.2.2.2.2, hv⟩
theorem hr_z_slen (A : hr_A p s mi args c cc nL o G) {idx m w : Nat} (hd : decode cc pc = .ok (.invokevirtual idx, 3)) (hm : hr_ml o idx = some (14, m, w)) {a : Nat} {r : List Value} (hr : hr_cat r ≤ 8) (hR : 4 ≤ R.frames ∧ 160 ≤ R.locals) (hk : hr_K a = 20) (kk : hr_PW p l e R s mi args below meth c G nL Q (pc + 3) ls (.int (Int32.ofNat (hr_N a)) :: r) M) : hr_PW p l e R s mi args below meth c G nL Q pc ls (.ref a :: r) M := by
  obtain ⟨rfl, rfl⟩ := hr_ml_s.1 hm
  have ha3 := hr_K_lt343 hk (by decide)
  have ha := (hr_K_all a ha3).2.2.2.2.1 hk
  obtain ⟨j, rfl⟩ : ∃ j, a = 325 + j := ⟨a - 325, by omega⟩
  have hj : j < 18 := by omega
  obtain ⟨adV, hv⟩ := A.2.2.2.2.2.2.2.2.2.2.2.1
  intro H locs la hP hS hL
  have h := kk H locs la hP hS hL
  have hn : hr_n = 305 := rfl
  show W p l e R s mi args below meth c H locs 0 0 Q (F0 mi pc la (.ref (hr_rad G (325 + j)) :: r.map (hr_rv G)))
  rw [hr_rad_ge G (by omega)]
  rw [(hr_sN j hj).1] at h
  exact hr_jV (as := []) (k := 0) (rest := r.map (hr_rv G)) (hr_A_B A hv) hS (hr_len hj) hr_w523 hr_w524 hr_w525 hr_w12 hr_w526 ⟨by decide, by decide, by decide +kernel⟩ rfl ⟨by omega, by omega⟩ (vk_recv (i := j) hv hj hS) hL.1 (by rw [hr_rv_catL]; exact hr) hd h
theorem hr_z_char (A : hr_A p s mi args c cc nL o G) {idx m w : Nat} (hd : decode cc pc = .ok (.invokevirtual idx, 3)) (hm : hr_ml o idx = some (15, m, w)) {a : Nat} {i : Int32} {r : List Value} (hr : hr_cat r ≤ 8) (hR : 4 ≤ R.frames ∧ 160 ≤ R.locals) (hk : hr_K a = 20) (hi : vp_in i (hr_N a)) (kk : hr_PW p l e R s mi args below meth c G nL Q (pc + 3) ls (.int (M.1 a i.toNatClampNeg) :: r) M) : hr_PW p l e R s mi args below meth c G nL Q pc ls (.int i :: .ref a :: r) M := by
  obtain ⟨rfl, rfl⟩ := hr_ml_s.2 hm
  have ha3 := hr_K_lt343 hk (by decide)
  have ha := (hr_K_all a ha3).2.2.2.2.1 hk
  obtain ⟨j, rfl⟩ : ∃ j, a = 325 + j := ⟨a - 325, by omega⟩
  have hj : j < 18 := by omega
  obtain ⟨adV, hv⟩ := A.2.2.2.2.2.2.2.2.2.2.2.1
  obtain ⟨q1, q2, q3⟩ := hr_sN j hj
  rw [q1] at hi
  obtain ⟨h0, h1⟩ := hr_vplt hi q2
  have hb := hr_byok j i.toNatClampNeg
  simp only [hr_byq, Bool.and_eq_true, decide_eq_true_eq] at hb
  intro H locs la hP hS hL
  have h := kk H locs la hP hS hL
  have hn : hr_n = 305 := rfl
  have hm : M.1 (325 + j) i.toNatClampNeg = (hr_sb.getD j []).getD i.toNatClampNeg 0 := by
    rw [hP.2 _ (by omega), ← q3]
    show (hr_s0L.getD (325 + j - 305) []).getD _ 0 = _
    rw [show 325 + j - 305 = 20 + j by omega]
  rw [hm] at h
  show W p l e R s mi args below meth c H locs 0 0 Q (F0 mi pc la (.int i :: .ref (hr_rad G (325 + j)) :: r.map (hr_rv G)))
  rw [hr_rad_ge G (by omega)]
  exact hr_jV (as := [.int i]) (k := 1) (rest := r.map (hr_rv G)) (hr_A_B A hv) hS (hr_chAt hj hi h0 h1 hb.1 hb.2) hr_w533 hr_w534 hr_w535 hr_w12 hr_w536 ⟨by decide, by decide, by decide +kernel⟩ rfl ⟨by omega, by omega⟩ (vk_recv (i := j) hv hj hS) hL.1 (by rw [hr_rv_catL]; exact hr) hd h
end HRZ
