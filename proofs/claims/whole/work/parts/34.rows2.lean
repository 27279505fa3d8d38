/-! two more rows of a constructor: a store into a fresh array of ints; the reading of a field just filled -/
section HRR
variable {p : Program} {l : Launch} {e : Env} {R : Room} {s : State} {mi : MethodId} {args : Array Value} {below : List Frame} {meth : Method} {c : Code} {H : Heap} {locs : List Loc} {cells slots : Nat} {Q : State → Prop} {ws : va_W} {G : PG} {cc : ByteArray} {nL o pc : Nat} {la : Array Slot} {rest : List Value} {A0 : Nat → Prop} {H0 : Heap}
theorem hr_biast (A : hr_Y p s mi args meth c cc nL o G) (hP : va_P G.1 vwCl ws H) (hD : va_D A0 ws) (hS : va_S A0 H0 H locs) (q0 : Nat) {a n : Nat} {f : Nat → Int32} (ha : ws[q0]? = some (a, .inl (G.2.1 1, n, .inl f))) {i x : Int32} (hin : vp_in i n) (hd : decode cc pc = .ok (.iastore, 1))
    (kk : ∀ (H1 : Heap) (locs1 : List Loc), va_P G.1 vwCl (ws.set q0 (a, .inl (G.2.1 1, n, .inl (upd f i.toNatClampNeg x)))) H1 → va_D A0 (ws.set q0 (a, .inl (G.2.1 1, n, .inl (upd f i.toNatClampNeg x)))) → va_S A0 H0 H1 locs1 → W p l e R s mi args below meth c H1 locs1 cells slots Q (F0 mi (pc + 1) la rest)) : W p l e R s mi args below meth c H locs cells slots Q (F0 mi pc la (.int x :: .int i :: .ref a :: rest)) := by
  obtain ⟨hx, hb, hml, hts, hown, hK, hin2⟩ := A
  exact va_iast hx hb hK hP hD hS q0 1 ha rfl hin hd kk
theorem hr_bget (A : hr_Y p s mi args meth c cc nL o G) {idx k s' w : Nat} (hf : hr_fl o idx = some (k, s', w)) (h11 : k < 11) (hP : va_P G.1 vwCl ws H) (q0 : Nat) {a : Nat} {fs : List Value} (he : ws[q0]? = some (a, .inr (k, fs))) {v : Value} (hv : fs[s']? = some v) (hd : decode cc pc = .ok (.getfield idx, 3))
    (kk : W p l e R s mi args below meth c H locs cells slots Q (F0 mi (pc + 3) la (v :: rest))) : W p l e R s mi args below meth c H locs cells slots Q (F0 mi pc la (.ref a :: rest)) := by
  obtain ⟨hx, hb, hml, hts, hown, hK, hin2⟩ := A
  rcases hr_fl_ok hf with h19 | ⟨-, hs, hlk⟩
  · omega
  · exact va_get hx hb (Ts := hr_GT) hts (hr_cls_in h11) hown hK hP q0 he (hr_Cg h11) s' hs (hts _ hlk) (fun x h => h) hv hd kk
end HRR
