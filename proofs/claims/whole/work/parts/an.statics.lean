/-! WHAT THE START GIVES: the classes, the static cells -/
abbrev hr_ws0 : List Jvm.Cond := flatC (Jvm.Cond.and given_1 narrow_1)
theorem hr_t0 {i : Nat} {w : Jvm.Cond} (h : tables_1[i]? = some w) : w ∈ lw_tbl := List.mem_append_right _ (List.mem_of_getElem? h)
theorem hr_GT_sub {w : Jvm.Cond} (h : w ∈ hr_GT) : w ∈ lw_tbl := (List.mem_filter.mp h).1
def hr_lnm : List String := ["HUE_LINE", "SUM_LINE", "GAP_LINE", "LIKE_LINE", "PAIR_LINE", "CURE_LINE", "LIKES_LINE", "PICTURE_LINE", "LIMIT_LINE", "HANG_LINE", "TAKE_LINE", "WEAR_LINE", "ENTER_LINE", "LEAVE_LINE", "HOUR_LINE", "CALM_LINE", "SNEEZED_LINE", "GUEST_LINE"]
def hr_lt (k : Nat) : Jvm.Term := .static "HueRash$Line" (hr_lnm.getD k "") "LHueRash$Line;"
def hr_sk : List Nat := [103, 109, 112, 115, 118, 121, 124, 127, 130, 133, 136, 139, 142, 145, 148, 151, 154, 157]
def hr_so : List Nat := [235, 242, 249, 256, 264, 272, 280, 289, 300, 309, 317, 325, 333, 342, 351, 359, 367, 378]
def hr_stm (k : Nat) : Jvm.Term := .string "HueRash$Line" (hr_sk.getD k 0)
def hr_sv (k : Nat) : Jvm.Term := .field (hr_stm k) "java/lang/String" "value" "[B"
def hr_tL : Jvm.Term := .static "HueRash" "LINES" "[LHueRash$Line;"
def hr_tR : Jvm.Term := .static "HueRash" "ROLL_LIMITS" "[I"
theorem hr_u1 : ∀ k, k < 18 → hr_ws0[40 + 9 * k]? = some (.exactly (hr_lt k) "HueRash$Line") := by decide +kernel
theorem hr_u2 : ∀ k, k < 18 → hr_ws0[9 + k]? = some (.eq (.elem hr_tL (.int (Int32.ofNat k))) (hr_lt k)) := by decide +kernel
theorem hr_u3 : ∀ k, k < 18 → ∀ f, f < 7 → f ≠ 1 → hr_ws0[42 + 9 * k + f]? = some (.eq (.field (hr_lt k) "HueRash$Line" (hr_lfN f).1 (hr_lfN f).2) (.int (hr_s0 (307 + k) f))) := by decide +kernel
theorem hr_u4 : ∀ k, k < 18 → hr_ws0[43 + 9 * k]? = some (.eq (.field (hr_lt k) "HueRash$Line" "word" "Ljava/lang/String;") (hr_stm k)) := by decide +kernel
theorem hr_u5 : ∀ j, j < 5 → hr_ws0[35 + j]? = some (.eq (.elem hr_tR (.int (Int32.ofNat j))) (.int (hr_s0 305 j))) := by decide +kernel
theorem hr_u6 : ∀ k, k < 18 → hr_ws0[hr_so.getD k 0]? = some (.exactly (hr_stm k) "java/lang/String") ∧ hr_ws0[hr_so.getD k 0 + 1]? = some (.eq (.field (hr_stm k) "java/lang/String" "coder" "B") (.int 0)) ∧ hr_ws0[hr_so.getD k 0 + 2]? = some (.arrayOf (hr_sv k) .byte) ∧ hr_ws0[hr_so.getD k 0 + 3]? = some (.eq (.length (hr_sv k)) (.int (Int32.ofNat (hr_sn.getD k 0)))) := by decide +kernel
theorem hr_u7 : ∀ k, k < 18 → ∀ j, j < hr_sn.getD k 0 → hr_ws0[hr_so.getD k 0 + 4 + j]? = some (.eq (.elem (hr_sv k) (.int (Int32.ofNat j))) (.int ((hr_sb.getD k []).getD j 0))) := by decide +kernel
theorem hr_u8 : hr_ws0[6]? = some (.arrayOf hr_tL (.object "HueRash$Line")) ∧ hr_ws0[7]? = some (.eq (.length hr_tL) (.int (Int32.ofNat 18))) ∧ hr_ws0[33]? = some (.arrayOf hr_tR .int) ∧ hr_ws0[34]? = some (.eq (.length hr_tR) (.int (Int32.ofNat 5))) := by decide +kernel
theorem hr_u9 : hr_ws0[27]? = some (.eq (.static "java/lang/String" "COMPACT_STRINGS" "Z") (.int 1)) ∧ hr_ws0[28]? = some (.isRef (.static "jdk/internal/util/Preconditions" "SIOOBE_FORMATTER" "Ljava/util/function/BiFunction;")) := by decide +kernel
theorem hr_sdiff : ∀ i, i < 18 → ∀ j, j < 18 → i ≠ j → Int32.ofNat (hr_sn.getD i 0) ≠ Int32.ofNat (hr_sn.getD j 0) ∨ (hr_sn.getD i 0 = hr_sn.getD j 0 ∧ ∃ k, k < hr_sn.getD i 0 ∧ (hr_sb.getD i []).getD k 0 ≠ (hr_sb.getD j []).getD k 0) := by decide +kernel
theorem hr_slen : ∀ i, i < 18 → hr_sn.getD i 0 < 2 ^ 31 := by decide +kernel
theorem hr_eqR {args : Array Value} {s : State} {t u : Jvm.Term} {a : Nat} (h : (Jvm.Cond.eq t u).before args s = true) (hu : u.eval args s none [] s = some (.ref a)) : t.eval args s none [] s = some (.ref a) := by
  cases hv : t.eval args s none [] s with
  | none => simp [Cond.before, Cond.holds, Cond.value, hv] at h
  | some w =>
    simp only [Cond.before, Cond.holds, Cond.value, hv, hu] at h
    cases w <;> simp_all
theorem hr_OF_eq {o n d : String} {v w : Value} {t : Nat} {A : Nat → Prop} {U : State} {H : Heap} (h : va_OF o n d v t A U H) (h' : va_OF o n d w t A U H) : v = w := by
  obtain ⟨cf, k, i, f, cell, h1, h2, h3, h4, h5, h6⟩ := h
  obtain ⟨cf', k', i', f', cell', h1', h2', h3', h4', h5', h6'⟩ := h'
  cases h1.symm.trans h1'
  cases h3.symm.trans h3'
  exact Option.some.inj (h5.symm.trans h5')
theorem hr_T_cg {ty : FieldType} {t N : Nat} {f g : Nat → Value} {A : Nat → Prop} {U : State} {H : Heap} (h : va_T ty t N f A U H) (e : ∀ j, j < N → f j = g j) : va_T ty t N g A U H := by
  obtain ⟨cell, h1, h2, h3, h4, h5, h6, h7⟩ := h
  exact ⟨cell, h1, h2, h3, h4, h5, fun j hj => (h6 j hj).trans (by rw [e j hj]), h7⟩
section HRG
variable {b : Nat} {s : State}
theorem hr_w0 (h : (Jvm.Cond.and given_1 narrow_1).before #[Value.ref b] s = true) {i : Nat} {w : Jvm.Cond} (hi : hr_ws0[i]? = some w) : w.before #[Value.ref b] s = true := flat_of_before _ h _ (List.mem_of_getElem? hi)
theorem hr_out : ∀ a : Nat, a < s.heap.size → ¬ (fun q : Nat => s.heap.size ≤ q) a := fun _ h => Nat.not_le.mpr h
/-- the words of the lines -/
theorem hr_Sof (h : (Jvm.Cond.and given_1 narrow_1).before #[Value.ref b] s = true) : ∃ adK adV : Nat → Nat, vk_S 18 hr_sn hr_sb adK adV (fun q : Nat => s.heap.size ≤ q) s s.heap ∧ ∀ i, i < 18 → (hr_stm i).eval #[Value.ref b] s none [] s = some (.ref (adK i)) := by
  have h0 : ∀ i : Nat, ∃ q : Nat × Nat, i < 18 → (hr_stm i).eval #[Value.ref b] s none [] s = some (.ref q.1) ∧ va_O "java/lang/String" q.1 (fun q : Nat => s.heap.size ≤ q) s s.heap ∧ va_OF "java/lang/String" "coder" "B" (.int 0) q.1 (fun q : Nat => s.heap.size ≤ q) s s.heap ∧ va_OF "java/lang/String" "value" "[B" (.ref q.2) q.1 (fun q : Nat => s.heap.size ≤ q) s s.heap ∧ va_T .byte q.2 (hr_sn.getD i 0) (fun j => .int ((hr_sb.getD i []).getD j 0)) (fun q : Nat => s.heap.size ≤ q) s s.heap := by
    intro i
    by_cases hi : i < 18
    · obtain ⟨u1, u2, u3, u4⟩ := hr_u6 i hi
      obtain ⟨a, c, cA, kA, q1, q2, q3, q4, q5, q6, -⟩ := Cond.exactly_spec (args := #[Value.ref b]) (first := s) (o := none) (s := s) (idx := []) (t := hr_stm i) (cls := "java/lang/String") (hr_w0 h u1)
      obtain ⟨t, ht, hT⟩ := va_Tof (f := fun j => .int ((hr_sb.getD i []).getD j 0)) (A := fun q : Nat => s.heap.size ≤ q) (hr_slen i hi) (hr_w0 h u3) (va_eqt (hr_w0 h u4)) (fun j hj => va_eqt (hr_w0 h (hr_u7 i hi j hj))) hr_out
      exact ⟨(a, t), fun _ => ⟨q1, ⟨cA, q3, q5, by rw [q6]; exact q2, hr_out a (Array.getElem?_eq_some_iff.mp q3).1⟩, vk_OFof q1 (va_eqt (hr_w0 h u2)) hr_out, vk_OFof q1 ht hr_out, hT⟩⟩
    · exact ⟨(0, 0), fun z => absurd z hi⟩
  obtain ⟨ad, had⟩ := Classical.axiomOfChoice h0
  refine ⟨fun i => (ad i).1, fun i => (ad i).2, ⟨fun i hi => (had i hi).2, fun i j hi hj e => ?_⟩, fun i hi => (had i hi).1⟩
  by_cases hij : i = j
  · exact hij
  · exfalso
    have e : (ad i).1 = (ad j).1 := e
    obtain ⟨-, -, -, v1, t1⟩ := had i hi
    obtain ⟨-, -, -, v2, t2⟩ := had j hj
    rw [e] at v1
    have ev : (ad i).2 = (ad j).2 := by
      have := hr_OF_eq v1 v2
      injection this
    rw [ev] at t1
    obtain ⟨cell, h1, h2, h3, h4, h5, h6, h7⟩ := t1
    obtain ⟨cell', h1', h2', h3', h4', h5', h6', h7'⟩ := t2
    cases h1.symm.trans h1'
    rcases hr_sdiff i hi j hj hij with d | ⟨d1, k, d2, d3⟩
    · exact d (h5.symm.trans h5')
    · have g1 := h6 k d2
      have g2 := h6' k (by rw [← d1]; exact d2)
      rw [g1] at g2
      have g3 := Option.some.inj g2
      injection g3 with g4
      exact d3 g4
def hr_ad (tR tL : Nat) (adL adK : Nat → Nat) (a : Nat) : Nat := if a = 305 then tR else if a = 306 then tL else if a < 325 then adL (a - 307) else adK (a - 325)
theorem hr_zst (hts : ∀ w ∈ lw_tbl, w.before #[Value.ref b] s = true) (h : (Jvm.Cond.and given_1 narrow_1).before #[Value.ref b] s = true) : ∃ ad : Nat → Nat, ∀ (D : va_G) (cA : Nat → ClassId), hr_Zst (D, cA, s.heap.size, ad) s := by
  obtain ⟨u1, u2, u3, u4⟩ := hr_u8
  obtain ⟨tR, hR, hTR⟩ := va_Tof (tm := hr_tR) (ty := .int) (N := 5) (f := fun j => .int (hr_s0 305 j)) (A := fun q : Nat => s.heap.size ≤ q) (by decide) (hr_w0 h u3) (va_eqt (hr_w0 h u4)) (fun j hj => va_eqt (hr_w0 h (hr_u5 j hj))) hr_out
  have hl : ∀ k : Nat, ∃ t : Nat, k < 18 → (hr_lt k).eval #[Value.ref b] s none [] s = some (.ref t) ∧ va_O "HueRash$Line" t (fun q : Nat => s.heap.size ≤ q) s s.heap := by
    intro k
    by_cases hk : k < 18
    · obtain ⟨a, c, cA, kA, q1, q2, q3, q4, q5, q6, -⟩ := Cond.exactly_spec (args := #[Value.ref b]) (first := s) (o := none) (s := s) (idx := []) (t := hr_lt k) (cls := "HueRash$Line") (hr_w0 h (hr_u1 k hk))
      exact ⟨a, fun _ => ⟨q1, cA, q3, q5, by rw [q6]; exact q2, hr_out a (Array.getElem?_eq_some_iff.mp q3).1⟩⟩
    · exact ⟨0, fun z => absurd z hk⟩
  obtain ⟨adL, hL⟩ := Classical.axiomOfChoice hl
  obtain ⟨tL, hLv, hTL⟩ := va_Tof (tm := hr_tL) (ty := .object "HueRash$Line") (N := 18) (f := fun j => .ref (adL j)) (A := fun q : Nat => s.heap.size ≤ q) (by decide) (hr_w0 h u1) (va_eqt (hr_w0 h u2)) (fun j hj => hr_eqR (hr_w0 h (hr_u2 j hj)) (hL j hj).1) hr_out
  obtain ⟨adK, adV, hS, hSv⟩ := hr_Sof h
  have eL : ∀ k, k < 18 → hr_ad tR tL adL adK (307 + k) = adL k := fun k hk => by
    unfold hr_ad
    rw [if_neg (by omega), if_neg (by omega), if_pos (by omega), show 307 + k - 307 = k by omega]
  have eK : ∀ k, hr_ad tR tL adL adK (325 + k) = adK k := fun k => by
    unfold hr_ad
    rw [if_neg (by omega), if_neg (by omega), if_neg (by omega), show 325 + k - 325 = k by omega]
  refine ⟨hr_ad tR tL adL adK, fun D cA => ⟨⟨?_, ?_⟩, ⟨?_, ?_⟩, fun k hk => ⟨?_, fun f hf => ?_⟩, ⟨adV, ?_⟩, ?_, ?_⟩⟩
  · exact va_Zref (hts _ (hr_t0 (i := 591) (by decide +kernel))) (hts _ (hr_t0 (i := 1) (by decide +kernel))) hR hr_out
  · exact hTR
  · exact va_Zref (hts _ (hr_t0 (i := 514) (by decide +kernel))) (hts _ (hr_t0 (i := 1) (by decide +kernel))) hLv hr_out
  · exact hr_T_cg hTL (fun j hj => by show Value.ref (adL j) = Value.ref (hr_ad tR tL adL adK (307 + j)); rw [eL j hj])
  · show va_O "HueRash$Line" (hr_ad tR tL adL adK (307 + k)) _ s s.heap
    rw [eL k hk]
    exact (hL k hk).2
  · show va_OF "HueRash$Line" (hr_lfN f).1 (hr_lfN f).2 (if f = 1 then .ref (hr_ad tR tL adL adK (325 + k)) else .int (hr_s0 (307 + k) f)) (hr_ad tR tL adL adK (307 + k)) _ s s.heap
    rw [eL k hk, eK k]
    by_cases h1 : f = 1
    · subst h1
      rw [if_pos rfl]
      exact vk_OFof (hL k hk).1 (hr_eqR (hr_w0 h (hr_u4 k hk)) (hSv k hk)) hr_out
    · rw [if_neg h1]
      exact vk_OFof (hL k hk).1 (va_eqt (hr_w0 h (hr_u3 k hk f hf h1))) hr_out
  · refine ⟨fun i hi => ?_, fun i j hi hj e => ?_⟩
    · show va_O "java/lang/String" (hr_ad tR tL adL adK (325 + i)) _ s s.heap ∧ va_OF "java/lang/String" "coder" "B" (.int 0) (hr_ad tR tL adL adK (325 + i)) _ s s.heap ∧ va_OF "java/lang/String" "value" "[B" (.ref (adV i)) (hr_ad tR tL adL adK (325 + i)) _ s s.heap ∧ _
      rw [eK i]
      exact hS.1 i hi
    · have e : hr_ad tR tL adL adK (325 + i) = hr_ad tR tL adL adK (325 + j) := e
      rw [eK i, eK j] at e
      exact hS.2 i j hi hj e
  · exact va_Zof (hts _ (hr_t0 (i := 532) (by decide +kernel))) (hts _ (hr_t0 (i := 12) (by decide +kernel))) (va_eqi (hr_w0 h hr_u9.1)) hr_out
  · exact va_Zqof (hts _ (hr_t0 (i := 548) (by decide +kernel))) (hts _ (hr_t0 (i := 14) (by decide +kernel))) (hr_w0 h hr_u9.2) hr_out
theorem hr_nw_ok : hr_NW.all (fun q => decide (Jvm.Cond.methodLinkNest q.1 q.2.1 q.2.2 "HueRash" ∈ tables_1)) = true := by decide +kernel
theorem hr_nf_ok : hr_NF.all (fun q => decide (Jvm.Cond.fieldLinkNest q.1 q.2.1 "HueRash" q.2.2.1 q.2.2.2 "HueRash" ∈ tables_1)) = true := by decide +kernel
theorem hr_inst_ok : (List.range 11).all (fun k => decide (Jvm.Cond.instantiable (hr_C k).1 (hr_C k).2.2 ∈ tables_1)) = true := by decide +kernel
theorem hr_zz (hts : ∀ w ∈ lw_tbl, w.before #[Value.ref b] s = true) {G : PG} (h : hr_Zst G s) : hr_Z G s := by
  refine ⟨fun q hq => ?_, fun q hq => ?_, h⟩
  · have h1 := of_decide_eq_true (List.all_eq_true.mp hr_nw_ok q hq)
    exact va_Nw.of rfl (hts _ (List.mem_append_right _ h1))
  · have h1 := of_decide_eq_true (List.all_eq_true.mp hr_nf_ok q hq)
    exact va_Nw.of rfl (hts _ (List.mem_append_right _ h1))
theorem hr_arrP {args : Array Value} {ty : FieldType} (h : (Jvm.Cond.arrayClass ty).before args s = true) : ∃ c : ClassId, ArrOfT s c ty ∧ s.vm.findClass ("[" ++ ty.toString) = some c := by
  obtain ⟨c, k, comp, h1, h2, h3⟩ := Cond.arrayClass_spec h
  exact ⟨c, fun n z => ⟨(fun k h => by cases h), k, h2, comp, h3⟩, h1⟩
theorem hr_arrO {args : Array Value} {C : String} (h : (Jvm.Cond.arrayOver (.object C)).before args s = true) : ∃ c : ClassId, ArrOfT s c (.object C) ∧ va_RA s c (.object C) := by
  obtain ⟨comp, c, k, h1, h2, h3, h4, h5⟩ := Cond.arrayOver_spec h
  exact ⟨c, fun n z => ⟨(fun k h => by cases h), k, h3, comp, h4⟩, k, comp, h3, h4, h1, h5⟩
/-- the classes -/
theorem hr_kk (hts : ∀ w ∈ lw_tbl, w.before #[Value.ref b] s = true) : ∃ (D : va_G) (cA : Nat → ClassId), ∀ r : Nat × (Nat → Nat), va_K D vwCl (hr_tys (D, cA, r)) s := by
  have h0 : ∀ k : Nat, ∃ q : ClassId × (Nat → Nat), k < 11 → u_Kn s (hr_C k).1 (hr_C k).2.1 (hr_C k).2.2 q.1 q.2 := by
    intro k
    by_cases hk : k < 11
    · have h1 := of_decide_eq_true (List.all_eq_true.mp hr_inst_ok k (List.mem_range.mpr hk))
      obtain ⟨c, i, hc⟩ := u_known (ws := hr_GT) (args := #[Value.ref b]) (fun w hw => hts w (hr_GT_sub hw)) (hr_cls_in hk) (hts _ (List.mem_append_right _ h1))
      exact ⟨(c, i), fun _ => hc⟩
    · exact ⟨(0, fun _ => 0), fun z => absurd z hk⟩
  obtain ⟨d, hd⟩ := Classical.axiomOfChoice h0
  obtain ⟨c0, a0, n0⟩ := hr_arrP (s := s) (hts _ (hr_t0 (w := .arrayClass .byte) (i := 85) (by decide +kernel)))
  obtain ⟨c1, a1, n1⟩ := hr_arrP (s := s) (hts _ (hr_t0 (w := .arrayClass .int) (i := 86) (by decide +kernel)))
  obtain ⟨c2, a2, n2⟩ := hr_arrP (s := s) (hts _ (hr_t0 (w := .arrayClass .long) (i := 423) (by decide +kernel)))
  obtain ⟨c3, a3, n3⟩ := hr_arrP (s := s) (hts _ (hr_t0 (w := .arrayClass .boolean) (i := 225) (by decide +kernel)))
  obtain ⟨c4, a4, n4⟩ := hr_arrO (s := s) (hts _ (hr_t0 (w := .arrayOver (.object RX4)) (i := 34) (by decide +kernel)))
  obtain ⟨c5, a5, n5⟩ := hr_arrO (s := s) (hts _ (hr_t0 (w := .arrayOver (.object RX6)) (i := 36) (by decide +kernel)))
  obtain ⟨c6, a6, n6⟩ := hr_arrO (s := s) (hts _ (hr_t0 (w := .arrayOver (.object RX8)) (i := 164) (by decide +kernel)))
  refine ⟨(fun k => (d k).1, fun k => (d k).2), fun k => [c0, c1, c2, c3, c4, c5, c6].getD k 0, fun r => ⟨fun k q hq => ?_, fun k q hq => ?_⟩⟩
  · have hk : k < 11 := (List.getElem?_eq_some_iff.mp hq).1
    have e := Option.some.inj ((hr_Cg hk).symm.trans hq)
    rw [← e]
    exact hd k hk
  · match k, hq with
    | 0, hq => cases hq; exact ⟨a0, n0⟩
    | 1, hq => cases hq; exact ⟨a1, n1⟩
    | 2, hq => cases hq; exact ⟨a2, n2⟩
    | 3, hq => cases hq; exact ⟨a3, n3⟩
    | 4, hq => cases hq; exact ⟨a4, n4⟩
    | 5, hq => cases hq; exact ⟨a5, n5⟩
    | 6, hq => cases hq; exact ⟨a6, n6⟩
    | k + 7, hq => simp [hr_tys] at hq
end HRG
