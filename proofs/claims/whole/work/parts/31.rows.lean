/-! the rows of a constructor -/
/-- a constructor's activation: the machine, the code, the words, the classes, its name -/
def hr_Y (p : Program) (s : State) (mi : MethodId) (args : Array Value) (meth : Method) (c : Code) (cc : ByteArray) (nL o : Nat) (G : PG) : Prop :=
  p.tables.exec = Jvm.exec ∧ c.code = cc ∧ c.maxLocals = nL ∧ (∀ w ∈ hr_GT, w.before args s = true) ∧ s.vm.findClass (hr_cn o) = some mi.cls ∧ va_K G.1 vwCl (hr_tys G) s ∧ meth.name = "<init>"
section HRR
variable {p : Program} {l : Launch} {e : Env} {R : Room} {s : State} {mi : MethodId} {args : Array Value} {below : List Frame} {meth : Method} {c : Code} {H : Heap} {locs : List Loc} {cells slots : Nat} {Q : State → Prop} {ws : va_W} {G : PG} {cc : ByteArray} {nL o pc : Nat} {la : Array Slot} {rest : List Value} {A0 : Nat → Prop} {H0 : Heap}
theorem hr_bput (A : hr_Y p s mi args meth c cc nL o G) {idx k s' w : Nat} (hf : hr_fl o idx = some (k, s', w)) (h11 : k < 11) (hP : va_P G.1 vwCl ws H) (hD : va_D A0 ws) (hS : va_S A0 H0 H locs) (q0 : Nat) {a : Nat} {fs : List Value} (he : ws[q0]? = some (a, .inr (k, fs))) (hl : s' < fs.length) {v : Value} {ty : FieldType} (hpf : parseFieldDescriptor ((hr_C k).2.1 s').2.2.1 = some ty) (hn : narrow ty v = v) (hfit : fits ty v = true) (hdecl : ((hr_C k).2.1 s').1 = hr_cn o) (hd : decode cc pc = .ok (.putfield idx, 3))
    (kk : ∀ (H1 : Heap) (locs1 : List Loc), va_P G.1 vwCl (ws.set q0 (a, .inr (k, fs.set s' v))) H1 → va_D A0 (ws.set q0 (a, .inr (k, fs.set s' v))) → va_S A0 H0 H1 locs1 → W p l e R s mi args below meth c H1 locs1 cells slots Q (F0 mi (pc + 3) la rest)) : W p l e R s mi args below meth c H locs cells slots Q (F0 mi pc la (v :: .ref a :: rest)) := by
  obtain ⟨hx, hb, hml, hts, hown, hK, hin⟩ := A
  rcases hr_fl_ok hf with h19 | ⟨-, hs, hlk⟩
  · omega
  · obtain ⟨ty0, hty⟩ := hr_tyf k h11
    cases hfin : ((hr_C k).2.1 s').2.2.2 with
    | false => exact va_put hx hb (Ts := hr_GT) hts (hr_cls_in h11) ty0 hty (hr_cls_nm k h11) hown hK hP hD hS q0 he (hr_Cg h11) s' hs (hts _ hlk) (fun x h => h) hfin hpf hn hfit hl hd kk
    | true => exact va_putF hx hb (Ts := hr_GT) hts (hr_cls_in h11) ty0 hty (hr_cls_nm k h11) hown hK hP hD hS q0 he (hr_Cg h11) s' hs (hts _ hlk) (fun x h => h) hfin hin hdecl hpf hn hfit hl hd kk
/-- a new array of ints, booleans, longs or bytes: the next place, and G's own class -/
theorem hr_bnewa (A : hr_Y p s mi args meth c cc nL o G) {t : ArrayType} (harr : Jvm.Cond.arrayClass (newarray.typeOf t) ∈ hr_GT) (t0 : Nat) {cA : ClassId} (ht : (hr_tys G)[t0]? = some (cA, newarray.typeOf t)) {lo : Nat} (hP : va_P G.1 vwCl ws H) (hD : va_D (fun y => lo ≤ y) ws) (hr : hr_row lo ws) (hS : va_S (fun y => lo ≤ y) H0 H locs) (hlo : lo ≤ H0.size) (hz : s.heap.size + cells ≤ lo + ws.length)
    {n : Int32} {N' : Nat} {a0 : vp_A} (ha : ∀ cA : ClassId, vp_cell cA a0 = arrV cA N' (fun _ => defaultValue (newarray.typeOf t))) (hn : ¬ n < 0) (hN : n.toNatClampNeg = N') (hbytes : N' * componentBytes (newarray.typeOf t) ≤ 536870912) (hcells : cells + 1 ≤ R.cells) (hslots : slots + N' ≤ R.slots) (hd : decode cc pc = .ok (.newarray t, 2))
    (kk : ∀ (H1 : Heap), va_P G.1 vwCl (ws ++ [(lo + ws.length, .inl (cA, a0))]) H1 → va_D (fun y => lo ≤ y) (ws ++ [(lo + ws.length, .inl (cA, a0))]) → va_S (fun y => lo ≤ y) H0 H1 locs →
      W p l e R s mi args below meth c H1 locs (cells + 1) (slots + N') Q (F0 mi (pc + 2) la (.ref (lo + ws.length) :: rest))) : W p l e R s mi args below meth c H locs cells slots Q (F0 mi pc la (.int n :: rest)) := by
  obtain ⟨hx, hb, hml, hts, hown, hK, hin⟩ := A
  refine va_newa hx hb (hts _ harr) rfl hK hP hD hS (fun q hq => Nat.le_trans hlo hq) ha hn hN hbytes hcells hslots hd (fun q cB H1 hK1 hP1 hD1 hS1 => ?_)
  have hcB : cB = cA := by
    have h1 := (hK1.2 (hr_tys G).length (cB, newarray.typeOf t) (by rw [List.getElem?_append_right (Nat.le_refl _), Nat.sub_self]; rfl)).2
    exact hr_cA h1 (hK.2 t0 _ ht).2
  subst hcB
  refine hr_addr hP1 hD1 hr (by omega) (fun hq => ?_)
  subst hq
  exact kk H1 hP1 hD1 hS1
end HRR
