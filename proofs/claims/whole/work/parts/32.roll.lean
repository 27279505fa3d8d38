/-! the constructors -/
def hr_Qb (G : PG) (b : Nat) (out : va_W) : Array Value → State → Outcome → State → Prop := fun _ st oc t => oc = .returned none ∧ va_P G.1 vwCl out t.heap ∧ ∀ q, q < b → t.heap[q]? = st.heap[q]?
def hr_Bt (l : Launch) (G : PG) (y : MethodName) (cc : ByteArray) (nL d N S b k : Nat) (dflt : List Value) (out : va_W) : Prop :=
  Met l y (Jvm.Cond.code y cc nL none :: hr_GT) { frames := d, cells := N, slots := S, locals := 40 * d } (va_Pc [.ref b] (fun U => U.heap.size = b + 1 ∧ va_P G.1 vwCl [(b, .inr (k, dflt))] U.heap ∧ va_K G.1 vwCl (hr_tys G) U)) (hr_Qb G b out) N S (fun y => b ≤ y)
theorem hr_Bof {l : Launch} {G : PG} {y : MethodName} {cc : ByteArray} {nL d N S b k o : Nat} {dflt : List Value} {out : va_W} (hy : plainName y.cls = true) (hnm : y.name = "<init>") (hcls : y.cls = hr_cn o)
    (body : ∀ (p : Program) (e : Env) (s : State) (mi : MethodId) (below : List Frame) (meth : Method) (c : Code), hr_Y p s mi #[.ref b] meth c cc nL o G → meth.sig.returnType = none → meth.locks = false → s.heap.size = b + 1 → va_P G.1 vwCl [(b, .inr (k, dflt))] s.heap →
      W p l e { frames := d, cells := N, slots := S, locals := 40 * d } s mi #[.ref b] below meth c s.heap [] 0 0 (MQ below (hr_Qb G b out) #[.ref b] s N S (fun y => b ≤ y)) (F0 mi 0 ((lg_sl [.ref b] ++ List.replicate (nL - (lg_sl [.ref b]).length) Slot.unset).toArray) [])) : hr_Bt l G y cc nL d N S b k dflt out := by
  refine Met.ofW (cc := cc) (maxL := nL) (ret := none) hy rfl ?_
  intro p e s mi args below meth c s₁ B hml hv
  obtain ⟨rfl, h1, h2, h3⟩ := hv
  have hts := atoms_spec (ws := Jvm.Cond.code y cc nL none :: hr_GT) B.pre
  rw [lg_entry_eq]
  exact body p e s mi below meth c ⟨B.exec, B.bytes, hml, fun w hw => hts w (List.mem_cons_of_mem _ hw), by rw [← hcls]; exact findClass_of_methodNamed B.named, h3, by rw [← hnm]; exact (name_of_methodNamed B.named B.method).1⟩ B.returns B.notSynchronized h1 h2
theorem hr_D1 (b : Nat) (x : va_E) : va_D (fun y => b ≤ y) [(b, x)] := by
  refine ⟨fun i j p q hi hj _ => ?_, fun k q h => ?_⟩
  · have h1 : i < 1 := (List.getElem?_eq_some_iff.mp hi).1
    have h2 : j < 1 := (List.getElem?_eq_some_iff.mp hj).1
    omega
  · have h1 : k < 1 := (List.getElem?_eq_some_iff.mp h).1
    rw [show k = 0 by omega] at h
    cases h
    exact Nat.le_refl _
theorem hr_row1 (b : Nat) (x : va_E) : hr_row b [(b, x)] := by
  intro k q h
  have h1 : k < 1 := (List.getElem?_eq_some_iff.mp h).1
  rw [show k = 0 by omega] at h ⊢
  cases h
  rfl
theorem hr_w25 : Jvm.Cond.instanceMethod Lib.objectInit ∈ hr_GT := hr_iT (i := 25) ⟨by decide +kernel, by decide +kernel⟩
theorem hr_w26 : Jvm.Cond.code Lib.objectInit ⟨#[0xb1]⟩ 1 none ∈ hr_GT := hr_iT (i := 26) ⟨by decide +kernel, by decide +kernel⟩
theorem hr_w86 : Jvm.Cond.arrayClass .int ∈ hr_GT := hr_iT (i := 86) ⟨by decide +kernel, by decide +kernel⟩
theorem hr_w91 : Jvm.Cond.methodLink (hr_cn 6) 3 Lib.objectInit ∈ hr_GT := hr_iT (i := 91) ⟨by decide +kernel, by decide +kernel⟩
def hr_dX6 : List Value := [.int 0, .int 0, .int 0, .null, .null, .null]
def hr_oX6 (G : PG) (b : Nat) : va_W := [(b, .inr (5, [.int 0, .int 10, .int 0, .ref (b + 1), .ref (b + 2), .ref (b + 3)])), (b + 1, .inl (G.2.1 1, 40, .inl fun _ => 0)), (b + 2, .inl (G.2.1 1, 40, .inl fun _ => 0)), (b + 3, .inl (G.2.1 1, 40, .inl fun _ => 0))]
set_option maxRecDepth 4000 in
theorem hr_iX6 {l : Launch} {G : PG} {b : Nat} : hr_Bt l G yX6_init cX6_init 1 1 3 120 b 5 hr_dX6 (hr_oX6 G b) := by
  refine hr_Bof (o := 6) (by decide +kernel) rfl rfl ?_
  intro p e s mi below meth c A hr hlk hsz hP
  have hx := A.1
  have hb := A.2.1
  have hw := A.2.2.2.1
  refine lv_aload_n hx hb (show decode cX6_init 0 = .ok (.aload_n 0, 1) by decide +kernel) rfl rfl ?_
  refine W.objInit hx hb A.2.2.2.2.1 (hw _ hr_w91) (hw _ hr_w25) (hw _ hr_w26) rfl A.2.2.1.symm rfl (show decode cX6_init 1 = .ok (.invokespecial 3, 3) by decide +kernel) (Nat.le_of_ble_eq_true rfl) (Nat.le_of_ble_eq_true rfl) ?_
  refine lv_aload_n hx hb (show decode cX6_init 4 = .ok (.aload_n 0, 1) by decide +kernel) rfl rfl ?_
  refine lv_bipush hx hb (show decode cX6_init 5 = .ok (.bipush 10, 2) by decide +kernel) rfl ?_
  refine hr_bput A (show hr_fl 6 9 = some (5, 1, (hr_fl 6 9).get!.2.2) by decide +kernel) (by decide) hP (hr_D1 _ _) va_S.rf 0 rfl (by decide) (ty := .int) (by decide +kernel) rfl rfl (by decide +kernel) (show decode cX6_init 7 = .ok (.putfield 9, 3) by decide +kernel) (fun H1 L1 hP hD hS => ?_)
  refine lv_aload_n hx hb (show decode cX6_init 10 = .ok (.aload_n 0, 1) by decide +kernel) rfl rfl ?_
  refine lv_bipush hx hb (show decode cX6_init 11 = .ok (.bipush 40, 2) by decide +kernel) rfl ?_
  refine hr_bnewa A (t := .int) hr_w86 1 rfl hP hD ((hr_row1 _ _).set rfl) hS (by omega) (by rw [hsz]; exact Nat.le_refl _) (N' := 40) (a0 := (40, .inl fun _ => 0)) (fun cA => rfl) (by decide) (by decide) (by decide) (by decide) (by decide) (show decode cX6_init 13 = .ok (.newarray .int, 2) by decide +kernel) (fun H2 hP hD hS => ?_)
  refine hr_bput A (show hr_fl 6 15 = some (5, 3, (hr_fl 6 15).get!.2.2) by decide +kernel) (by decide) hP hD hS 0 rfl (Nat.le_of_ble_eq_true rfl) (ty := .array .int) (by decide +kernel) rfl rfl (by decide +kernel) (show decode cX6_init 15 = .ok (.putfield 15, 3) by decide +kernel) (fun H3 L3 hP hD hS => ?_)
  refine lv_aload_n hx hb (show decode cX6_init 18 = .ok (.aload_n 0, 1) by decide +kernel) rfl rfl ?_
  refine lv_bipush hx hb (show decode cX6_init 19 = .ok (.bipush 40, 2) by decide +kernel) rfl ?_
  refine hr_bnewa A (t := .int) hr_w86 1 rfl hP hD ((((hr_row1 _ _).set rfl).push rfl).set rfl) hS (by omega) (by rw [hsz]; exact Nat.le_refl _) (N' := 40) (a0 := (40, .inl fun _ => 0)) (fun cA => rfl) (by decide) (by decide) (by decide) (by decide) (by decide) (show decode cX6_init 21 = .ok (.newarray .int, 2) by decide +kernel) (fun H4 hP hD hS => ?_)
  refine hr_bput A (show hr_fl 6 19 = some (5, 4, (hr_fl 6 19).get!.2.2) by decide +kernel) (by decide) hP hD hS 0 rfl (Nat.le_of_ble_eq_true rfl) (ty := .array .int) (by decide +kernel) rfl rfl (by decide +kernel) (show decode cX6_init 23 = .ok (.putfield 19, 3) by decide +kernel) (fun H5 L5 hP hD hS => ?_)
  refine lv_aload_n hx hb (show decode cX6_init 26 = .ok (.aload_n 0, 1) by decide +kernel) rfl rfl ?_
  refine lv_bipush hx hb (show decode cX6_init 27 = .ok (.bipush 40, 2) by decide +kernel) rfl ?_
  refine hr_bnewa A (t := .int) hr_w86 1 rfl hP hD ((((((hr_row1 _ _).set rfl).push rfl).set rfl).push rfl).set rfl) hS (by omega) (by rw [hsz]; exact Nat.le_refl _) (N' := 40) (a0 := (40, .inl fun _ => 0)) (fun cA => rfl) (by decide) (by decide) (by decide) (by decide) (by decide) (show decode cX6_init 29 = .ok (.newarray .int, 2) by decide +kernel) (fun H6 hP hD hS => ?_)
  refine hr_bput A (show hr_fl 6 22 = some (5, 5, (hr_fl 6 22).get!.2.2) by decide +kernel) (by decide) hP hD hS 0 rfl (Nat.le_of_ble_eq_true rfl) (ty := .array .int) (by decide +kernel) rfl rfl (by decide +kernel) (show decode cX6_init 31 = .ok (.putfield 22, 3) by decide +kernel) (fun H7 L7 hP hD hS => ?_)
  exact W.vret hx hb hr (fun t ht _ => ⟨rfl, by rw [ht]; exact hP, fun q hq => by rw [ht]; exact hS.2.1 q (by omega) (by omega)⟩) hS.2.2 (show decode cX6_init 34 = .ok (.return_, 1) by decide +kernel) hlk
