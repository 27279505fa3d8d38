/-! THE LAW: its rows (its head is the skeleton's) -/
def R_law : String := "HueRashLaw"
def lw_P (b : Addr) (xs : List Int32) (args : Array Value) (s : State) : Prop := args = #[.ref b] ∧ s.IntsAt b xs ∧ xs.length ≤ 3072 ∧ (Jvm.Cond.and given_1 narrow_1).before args s = true
def lw_Q (_ : Array Value) (s : State) (o : Outcome) (t : State) : Prop := o = .returned (some (.int 1)) ∧ Framed s o t [] 600000 7302250
def lw_Z (below : List Frame) (a : Array Value) (s : State) : State → Prop := fun t => ∃ o, t.status = .running ∧ Ended t below o ∧ lw_Q a s o t
/-- the law's own end, with 1 on the stack, nothing written that was there before, its room as the claim has it -/
theorem lw_ret {p : Program} {l : Launch} {e : Env} {s : State} {m : MethodId} {below : List Frame} {meth : Method} {c : Code} {b : Nat} (hx : p.tables.exec = Jvm.exec) (hb : c.code = code) (hr : meth.sig.returnType = ret) (hlocks : meth.locks = false) {pc : Nat} {H : Heap} {ls : Array Slot} (hdg : decode code pc = .ok (.ireturn, 1)) : W p l e room_1 s m #[Value.ref b] below meth c H [] 600000 7302250 (lw_Z below #[Value.ref b] s) (F0 m pc ls [.int 1]) := by
  intro T hT X
  obtain ⟨fs, hret, hrun, hended, hW, hframe⟩ := X.leave (v := some (.int 1)) (hlocks := hlocks) (fun h => by rw [hr] at h; cases h)
  have hmeth' : T.vm.method? m = some meth := X.method'
  refine ⟨T.setFrames fs, ?_, .returned (some (.int 1)), hrun, hended, rfl, ⟨_, rfl⟩, hW, hframe⟩
  jvm_step X.here [X.here.top, hx, hb, hdg, hmeth', hr, ret, narrow_b1]
  (try refine ⟨rfl, ?_⟩); (try refine ⟨rfl, ?_⟩)
  first | (intro acts; rw [hret _ acts rfl rfl rfl]) | rw [hret _ _ rfl rfl rfl]
  exact Steps.refl _
/-- what holds at the law's entry: the machine, the code, the tables' words (any of lw_tbl by 'hts w (by decide +kernel)'), the script of L ints xs at the cell b, what the Statement gives of the start (any of its parts by flat_of_before) -/
def lw_At (p : Program) (s : State) (m : MethodId) (meth : Method) (c : Code) (b L : Nat) (xs : Nat → Int32) : Prop :=
  p.tables.exec = Jvm.exec ∧ c.code = code ∧ meth.sig.returnType = ret ∧ c.maxLocals = 4 ∧ s.vm.findClass R_law = some m.cls ∧ (∀ w ∈ lw_tbl, w.before #[Value.ref b] s = true) ∧ va_X b L xs s s.heap ∧ b < s.heap.size ∧ meth.locks = false ∧ (Jvm.Cond.and given_1 narrow_1).before #[Value.ref b] s = true

/-- the law's activation -/
def hr_LA (p : Program) (s : State) (m : MethodId) (meth : Method) (c : Code) (G : PG) (b L : Nat) (xs : Nat → Int32) : Prop :=
  p.tables.exec = Jvm.exec ∧ c.code = code ∧ c.maxLocals = 4 ∧ (∀ w ∈ hr_GT, w.before #[Value.ref b] s = true) ∧ s.vm.findClass R_law = some m.cls ∧ va_K G.1 vwCl (hr_tys G) s ∧ hr_Z G s ∧ G.2.2.1 = s.heap.size ∧ va_X b L xs s s.heap ∧ b < s.heap.size ∧ meth.sig.returnType = ret ∧ meth.locks = false
def hr_LW (p : Program) (l : Launch) (e : Env) (s : State) (m : MethodId) (below : List Frame) (meth : Method) (c : Code) (G : PG) (b cells slots : Nat) (Q : State → Prop) (i pc : Nat) (st : List Value) (M : PM) : Prop :=
  ∀ (H : Heap) (locs : List Loc) (la : Array Slot), hr_WP G M H → va_S (fun q => G.2.2.1 ≤ q) s.heap H locs → lv_has la 4 [(0, .ref b), (1, .ref G.2.2.1), (2, .ref (G.2.2.1 + 275)), (3, .int (nI i))] → W p l e room_1 s m #[Value.ref b] below meth c H locs cells slots Q (F0 m pc la st)
/-- what is known of a call: its link, its method -/
def lw_mok (idx m n b0 : Nat) : Prop := Jvm.Cond.methodLink R_law idx (hr_m m).1 ∈ hr_GT ∧ m < hr_mL.length ∧ (hr_wi m).2.2.2.2 = 0 ∧ hr_mO m ≠ 3 ∧ hr_K b0 = hr_kd (hr_mO m) ∧ n = hr_mP m ∧ hr_mD m ≤ 9
theorem lw_mk {idx m n b0 i : Nat} (h : (tables_1[i]? = some (Jvm.Cond.methodLink R_law idx (hr_m m).1) ∧ goodWord (Jvm.Cond.methodLink R_law idx (hr_m m).1) = true) ∧ m < hr_mL.length ∧ (hr_wi m).2.2.2.2 = 0 ∧ hr_mO m ≠ 3 ∧ hr_K b0 = hr_kd (hr_mO m) ∧ n = hr_mP m ∧ hr_mD m ≤ 9) : lw_mok idx m n b0 := ⟨hr_GT_1 h.1.1 h.1.2, h.2⟩
def lw_as (xs : Nat → Int32) (i k : Nat) : Nat → List Value
  | 0 => []
  | n + 1 => .int (xs (i + k)) :: lw_as xs i (k + 1) n
theorem lw_as_len (xs : Nat → Int32) (i : Nat) : ∀ n k, (lw_as xs i k n).length = n
  | 0, _ => rfl
  | n + 1, k => by show (lw_as xs i (k + 1) n).length + 1 = n + 1; rw [lw_as_len xs i n (k + 1)]
theorem lw_as_rv (G : PG) (xs : Nat → Int32) (i : Nat) : ∀ n k, (lw_as xs i k n).map (hr_rv G) = lw_as xs i k n
  | 0, _ => rfl
  | n + 1, k => by
    show hr_rv G (.int (xs (i + k))) :: (lw_as xs i (k + 1) n).map (hr_rv G) = _
    rw [lw_as_rv G xs i n (k + 1)]
    rfl
def lw_ca (pc k : Nat) : Nat → Bool
  | 0 => true
  | n + 1 => decide (decode code pc = .ok (.aload_n 0, 1)) && (decide (decode code (pc + 1) = .ok (.iload_n 3, 1)) && (decide (decode code (pc + 2) = .ok (.iconst (k : Int), 1)) && (decide (decode code (pc + 3) = .ok (.iadd, 1)) && (decide (decode code (pc + 4) = .ok (.iaload, 1)) && lw_ca (pc + 5) (k + 1) n))))
def lw_fl (x : Int32) : Int32 := if x = 0 then 0 else 1
section LWR
variable {p : Program} {l : Launch} {e : Env} {s : State} {m : MethodId} {below : List Frame} {meth : Method} {c : Code} {G : PG} {b L i cells slots : Nat} {xs : Nat → Int32} {Q : State → Prop} {M M1 M2 : PM} {pc : Nat} {st rest : List Value}
theorem lw_args (A : hr_LA p s m meth c G b L xs) (hL : L ≤ 3072) : ∀ (n pc k : Nat) (st : List Value), lw_ca pc k n = true → i + k + n ≤ L → hr_LW p l e s m below meth c G b cells slots Q i (pc + 5 * n) ((lw_as xs i k n).reverse ++ st) M → hr_LW p l e s m below meth c G b cells slots Q i pc st M := by
  obtain ⟨hx, hb, hml, hts, hown, hK, hZ, hG, hX, hbl, -, -⟩ := A
  have hbA : ¬ (fun q : Nat => G.2.2.1 ≤ q) b := by show ¬ G.2.2.1 ≤ b; omega
  intro n
  induction n with
  | zero => intro pc k st _ _ kk; exact kk
  | succ n ih =>
    intro pc k st hc hi kk H locs la hP hS hl
    simp only [lw_ca, Bool.and_eq_true, decide_eq_true_eq] at hc
    obtain ⟨d0, d1, d2, d3, d4, hc⟩ := hc
    refine lv_aload_n hx hb d0 rfl (lv_at hl 0 rfl) ?_
    refine lv_iload_n hx hb d1 rfl (lv_at hl 3 rfl) ?_
    refine lv_iconst (v := nI k) hx hb d2 (q_nz k).symm ?_
    refine lv_iadd hx hb d3 ?_
    refine va_sld hx hb hX hbl hbA hS (by rw [q_add]; exact vp_in_nI (by omega) (by omega)) d4 ?_
    rw [q_add, q_cl (show i + k < 2147483648 by omega)]
    refine ih (pc + 5) (k + 1) (.int (xs (i + k)) :: st) hc (by omega) ?_ H locs la hP hS hl
    have e1 : (lw_as xs i (k + 1) n).reverse ++ .int (xs (i + k)) :: st = (lw_as xs i k (n + 1)).reverse ++ st := by
      show _ = (.int (xs (i + k)) :: lw_as xs i (k + 1) n).reverse ++ st
      rw [List.reverse_cons, List.append_assoc]
      rfl
    rw [e1, show pc + 5 + 5 * n = pc + 5 * (n + 1) by omega]
    exact kk
theorem lw_call (A : hr_LA p s m meth c G b L xs) (hR : cells ≤ 600000 ∧ slots ≤ 7302250) {idx m' n b0 : Nat} (hk : lw_mok idx m' n b0) {as : List Value} (hn : as.length = n) {w : Value} (hwv : hr_rv G w = w) (hC : hr_Ct l G m' (.ref b0 :: as) M (some w, M1)) (hd : decode code pc = .ok (.invokevirtual idx, 3)) (hcat : (rest.map fun v => v.category).sum ≤ 8)
    (kk : hr_LW p l e s m below meth c G b cells slots Q i (pc + 3) (w :: rest) M1) : hr_LW p l e s m below meth c G b cells slots Q i pc ((as.map (hr_rv G)).reverse ++ .ref (G.2.2.1 + b0) :: rest) M := by
  intro H locs la hP hS hl
  obtain ⟨hx, hb, hml, hts, hown, hK, hZ, hG, hX, hbl, -, -⟩ := A
  obtain ⟨hlk, hm', hi, h3, hb0, hPn, hD⟩ := hk
  have hp := hr_mplain hm'
  have hO := hr_Vle hm'
  have hk11 : hr_kd (hr_mO m') < 11 := (hr_kdlt _ hO.2 h3).resolve_right (fun z => hr_K98 (hb0.trans z))
  have hbn : b0 < hr_n := hr_K_dyn (by omega)
  have hcn := hr_kdok _ hO.2 h3 hk11
  have hWb := hr_Wr hbn (hr_cell_o (G := G) (M := M) hb0 hk11)
  obtain ⟨cell, g1, g2, g3⟩ := va_recv hK hP.1 (hr_Cg hk11) hWb
  have hcw := cwV (args := #[Value.ref b]) (s := s) (R := room_1) (own := R_law) (index := idx) (C := (hr_m m').1.cls) (y := (hr_m m').1) (ws := Jvm.Cond.code (hr_m m').1 (hr_m m').2.1 (hr_mV m') (hr_mR m') :: hr_GT) (rm := { frames := hr_mD m', cells := 0, slots := 0, locals := 40 * hr_mD m' }) (mc := 0) (ms := 0) (hr_mP m') hts
    (fun w hw => by
      simp only [wsV, List.mem_append, List.mem_cons, List.not_mem_nil, or_false] at hw
      rcases hw with (rfl | rfl | rfl | rfl) | rfl | hw
      · exact hr_good hlk
      · exact hr_good (hr_minst hm' hi).1
      · exact hr_good (hr_minst hm' hi).2
      · exact hr_good (hr_mini hm' h3)
      · exact hr_good (hr_mcode hm')
      · exact hr_good hw) rfl rfl rfl ⟨rfl, hp.2⟩ ⟨by show hr_mD m' + 1 ≤ 12; omega, by show 8 + (hr_mV m' + 11) + 40 * hr_mD m' ≤ 458; omega⟩
  have run := va_runV (p := p) (l := l) (e := e) (R := room_1) (s := s) (m := m) (args := #[Value.ref b]) (below := below) (meth := meth) (c := c) (H := H) (locs := locs) (cells := cells) (slots := slots) (g := F0 m pc la ((as.map (hr_rv G)).reverse ++ .ref (G.2.2.1 + b0) :: rest)) (As := as.map (hr_rv G)) (rest := rest) (b := G.2.2.1 + b0) ⟨hx, hb, hml, hown, hts⟩ hC hcw ⟨hr_blind G _ M, ⟨cell, g1, g2, by rw [hp.1, ← hcn]; exact g3⟩, fun U hU hW => ⟨by
      show (Value.ref (G.2.2.1 + b0) :: as.map (hr_rv G)).toArray = (Value.ref (hr_rad G b0) :: as.map (hr_rv G)).toArray
      rw [hr_rad_lt G hbn], by rw [hU]; exact hP, va_K.moved hW.alike hK, hr_Z_warm hW (fun q h1 h2 => by rw [hU]; exact hS.2.1 q h1 h2) hZ⟩⟩ rfl (by rw [List.length_map]; omega) hl.1 rfl (lv_room hcat) hd ⟨hR.1, hR.2⟩
  intro T hT X
  obtain ⟨w', st₀, t, T', L', h0, X', hL', e1, e2, ⟨hv, hw, hz, hk⟩, stp⟩ := run T hT X
  cases hv
  rw [h0] at hz hk
  obtain ⟨t2, a1, b1⟩ := kk T'.heap (locs ++ L') la (by rw [e1]; exact hw)
    ⟨Nat.le_trans hS.1 (by rw [e1]; exact hz), fun q h1 h2 => by rw [e1, hk q (Nat.lt_of_lt_of_le h1 hS.1) h2]; exact hS.2.1 q h1 h2, fun q hq => by
      rcases List.mem_append.mp hq with h | h
      · exact hS.2.2 q h
      · exact hL' q h⟩ hl T' rfl X'
  refine ⟨t2, stp t2 ?_, b1⟩
  show Steps p.tables e below (T'.setTop (F0 m (pc + 3) la (hr_rv G w :: rest))) t2
  rw [hwv]
  exact a1
theorem lw_next (A : hr_LA p s m meth c G b L xs) (kk : hr_LW p l e s m below meth c G b cells slots Q (i + 6) 18 [] M) : hr_LW p l e s m below meth c G b cells slots Q i 1481 [] M := by
  obtain ⟨hx, hb, -⟩ := A
  intro H locs la hP hS hl
  refine lv_iinc (v := nI (i + 6)) (lv' := [(3, .int (nI (i + 6))), (0, .ref b), (1, .ref G.2.2.1), (2, .ref (G.2.2.1 + 275))]) hx hb (show decode code 1481 = .ok (.iinc 3 6, 3) by decide +kernel) hl (k := 3) rfl (q_add i 6) (by decide) rfl (fun la' hl' => ?_)
  refine lv_goto (tgt := 18) hx hb (show decode code 1484 = .ok (.goto (-1466), 3) by decide +kernel) (by decide) ?_
  exact kk H locs la' hP hS (lv_sub hl' [1, 2, 3, 0] rfl)
def lw_ck (pc n i1 i2 : Nat) : Bool := decide (decode code pc = .ok (.aload_n 1, 1)) && (lw_ca (pc + 1) 1 n && (decide (decode code (pc + 1 + 5 * n) = .ok (.invokevirtual i1, 3)) && (decide (decode code (pc + 1 + 5 * n + 3) = .ok (.aload_n 2, 1)) && (lw_ca (pc + 1 + 5 * n + 3 + 1) 1 n && decide (decode code (pc + 1 + 5 * n + 3 + 1 + 5 * n) = .ok (.invokevirtual i2, 3))))))
theorem lw_calls (A : hr_LA p s m meth c G b L xs) (hR : cells ≤ 600000 ∧ slots ≤ 7302250) (hi : i + 6 ≤ L) (hL : L ≤ 3072) {n i1 m1 i2 m2 : Nat} (hn : n ≤ 5) (hck : lw_ck pc n i1 i2 = true) (k1 : lw_mok i1 m1 n 0) (k2 : lw_mok i2 m2 n 275) {w : Value} (hwv : hr_rv G w = w) (hwc : w.category ≤ 2) (h1 : hr_Ct l G m1 (.ref 0 :: lw_as xs i 1 n) M (some w, M1)) (h2 : hr_Ct l G m2 (.ref 275 :: lw_as xs i 1 n) M1 (some w, M2))
    (kk : hr_LW p l e s m below meth c G b cells slots Q i (pc + 1 + 5 * n + 3 + 1 + 5 * n + 3) [w, w] M2) : hr_LW p l e s m below meth c G b cells slots Q i pc [] M := by
  have hx := A.1
  have hb := A.2.1
  simp only [lw_ck, Bool.and_eq_true, decide_eq_true_eq] at hck
  obtain ⟨d0, d1, d2, d3, d4, d5⟩ := hck
  have c2 : hr_LW p l e s m below meth c G b cells slots Q i (pc + 1 + 5 * n + 3) [w] M1 := by
    intro H locs la hP hS hl
    refine lv_aload_n hx hb d3 rfl (lv_at hl 2 rfl) ?_
    refine lw_args A hL n (pc + 1 + 5 * n + 3 + 1) 1 _ d4 (by omega) ?_ H locs la hP hS hl
    have := lw_call (l := l) (e := e) (below := below) (Q := Q) (i := i) (rest := [w]) A hR k2 (lw_as_len xs i n 1) hwv h2 d5 (by show w.category + 0 ≤ 8; omega) kk
    rw [lw_as_rv] at this
    exact this
  intro H locs la hP hS hl
  refine lv_aload_n hx hb d0 rfl (lv_at hl 1 rfl) ?_
  refine lw_args A hL n (pc + 1) 1 _ d1 (by omega) ?_ H locs la hP hS hl
  have := lw_call (l := l) (e := e) (below := below) (Q := Q) (i := i) (rest := []) A hR k1 (lw_as_len xs i n 1) hwv h1 d2 (by decide) c2
  rw [lw_as_rv] at this
  exact this
theorem lw_tail (A : hr_LA p s m meth c G b L xs) {w : Int32} (hd : decode code pc = .ok (.if_icmp .eq ((1481 : Int) - (pc : Int)), 3)) (kk : hr_LW p l e s m below meth c G b cells slots Q (i + 6) 18 [] M) : hr_LW p l e s m below meth c G b cells slots Q i pc [.int w, .int w] M := by
  have hx := A.1
  have hb := A.2.1
  intro H locs la hP hS hl
  refine lv_icmp_eq (tgt := 1481) hx hb hd (by omega) (fun _ => ?_) (fun z => absurd rfl z)
  exact lw_next A kk H locs la hP hS hl
theorem lg_cmp_self (w : Int64) : lg_cmp w w = 0 := by
  unfold lg_cmp
  rw [if_neg (fun h => by have := Int64.lt_iff_toInt_lt.mp h; omega), if_pos rfl]
theorem lw_tailL (A : hr_LA p s m meth c G b L xs) {w : Int64} (hd0 : decode code pc = .ok (.lcmp, 1)) (hd : decode code (pc + 1) = .ok (.ifCond .eq ((1481 : Int) - ((pc + 1 : Nat) : Int)), 3)) (kk : hr_LW p l e s m below meth c G b cells slots Q (i + 6) 18 [] M) : hr_LW p l e s m below meth c G b cells slots Q i pc [.long w, .long w] M := by
  have hx := A.1
  have hb := A.2.1
  intro H locs la hP hS hl
  refine W.lcmp hx hb hd0 ?_
  refine lv_if_eq (tgt := 1481) hx hb hd (by omega) (fun _ => ?_) (fun z => absurd (lg_cmp_self w) z)
  exact lw_next A kk H locs la hP hS hl
theorem lw_two (A : hr_LA p s m meth c G b L xs) (hR : cells ≤ 600000 ∧ slots ≤ 7302250) (hi : i + 6 ≤ L) (hL : L ≤ 3072) {n i1 m1 i2 m2 : Nat} (hck : n ≤ 5 ∧ lw_ck pc n i1 i2 = true ∧ decode code (pc + 1 + 5 * n + 3 + 1 + 5 * n + 3) = .ok (.if_icmp .eq ((1481 : Int) - ((pc + 1 + 5 * n + 3 + 1 + 5 * n + 3 : Nat) : Int)), 3)) (k1 : lw_mok i1 m1 n 0) (k2 : lw_mok i2 m2 n 275) {w : Int32} (h1 : hr_Ct l G m1 (.ref 0 :: lw_as xs i 1 n) M (some (.int w), M1)) (h2 : hr_Ct l G m2 (.ref 275 :: lw_as xs i 1 n) M1 (some (.int w), M2))
    (kk : hr_LW p l e s m below meth c G b cells slots Q (i + 6) 18 [] M2) : hr_LW p l e s m below meth c G b cells slots Q i pc [] M :=
  lw_calls A hR hi hL hck.1 hck.2.1 k1 k2 (w := .int w) rfl (by show 1 ≤ 2; omega) h1 h2 (lw_tail A hck.2.2 kk)
theorem lw_twoL (A : hr_LA p s m meth c G b L xs) (hR : cells ≤ 600000 ∧ slots ≤ 7302250) (hi : i + 6 ≤ L) (hL : L ≤ 3072) {n i1 m1 i2 m2 : Nat} (hck : n ≤ 5 ∧ lw_ck pc n i1 i2 = true ∧ decode code (pc + 1 + 5 * n + 3 + 1 + 5 * n + 3) = .ok (.lcmp, 1) ∧ decode code (pc + 1 + 5 * n + 3 + 1 + 5 * n + 3 + 1) = .ok (.ifCond .eq ((1481 : Int) - ((pc + 1 + 5 * n + 3 + 1 + 5 * n + 3 + 1 : Nat) : Int)), 3)) (k1 : lw_mok i1 m1 n 0) (k2 : lw_mok i2 m2 n 275) {w : Int64} (h1 : hr_Ct l G m1 (.ref 0 :: lw_as xs i 1 n) M (some (.long w), M1)) (h2 : hr_Ct l G m2 (.ref 275 :: lw_as xs i 1 n) M1 (some (.long w), M2))
    (kk : hr_LW p l e s m below meth c G b cells slots Q (i + 6) 18 [] M2) : hr_LW p l e s m below meth c G b cells slots Q i pc [] M :=
  lw_calls A hR hi hL hck.1 hck.2.1 k1 k2 (w := .long w) rfl (by show 2 ≤ 2; omega) h1 h2 (lw_tailL A hck.2.2.1 hck.2.2.2 kk)
/-- three arguments, the third one a flag -/
def lw_cf (pc : Nat) : Bool := lw_ca pc 1 3 && (decide (decode code (pc + 15) = .ok (.ifCond .eq 7, 3)) && (decide (decode code (pc + 18) = .ok (.iconst 1, 1)) && (decide (decode code (pc + 19) = .ok (.goto 4, 3)) && decide (decode code (pc + 22) = .ok (.iconst 0, 1)))))
theorem lw_argsF (A : hr_LA p s m meth c G b L xs) (hL : L ≤ 3072) (hi : i + 6 ≤ L) (hc : lw_cf pc = true) (kk : hr_LW p l e s m below meth c G b cells slots Q i (pc + 23) (([.int (xs (i + 1)), .int (xs (i + 2)), .int (lw_fl (xs (i + 3)))] : List Value).reverse ++ st) M) : hr_LW p l e s m below meth c G b cells slots Q i pc st M := by
  have hx := A.1
  have hb := A.2.1
  simp only [lw_cf, Bool.and_eq_true, decide_eq_true_eq] at hc
  obtain ⟨d0, d1, d2, d3, d4⟩ := hc
  refine lw_args A hL 3 pc 1 st d0 (by omega) ?_
  intro H locs la hP hS hl
  show W p l e room_1 s m #[Value.ref b] below meth c H locs cells slots Q (F0 m (pc + 15) la (.int (xs (i + 3)) :: .int (xs (i + 2)) :: .int (xs (i + 1)) :: st))
  have kk : hr_LW p l e s m below meth c G b cells slots Q i (pc + 23) (.int (lw_fl (xs (i + 3))) :: .int (xs (i + 2)) :: .int (xs (i + 1)) :: st) M := kk
  refine lv_if_eq (tgt := pc + 22) hx hb d1 (by omega) (fun z => ?_) (fun z => ?_)
  · refine lv_iconst (v := 0) hx hb d4 (by decide) ?_
    unfold lw_fl at kk
    rw [if_pos z] at kk
    exact kk H locs la hP hS hl
  · refine lv_iconst (v := 1) hx hb d2 (by decide) ?_
    refine lv_goto (tgt := pc + 23) hx hb d3 (by omega) ?_
    unfold lw_fl at kk
    rw [if_neg z] at kk
    exact kk H locs la hP hS hl
def lw_cs (pc i1 i2 : Nat) : Bool := decide (decode code pc = .ok (.aload_n 1, 1)) && (lw_cf (pc + 1) && (decide (decode code (pc + 1 + 23) = .ok (.invokevirtual i1, 3)) && (decide (decode code (pc + 1 + 23 + 3) = .ok (.aload_n 2, 1)) && (lw_cf (pc + 1 + 23 + 3 + 1) && decide (decode code (pc + 1 + 23 + 3 + 1 + 23) = .ok (.invokevirtual i2, 3))))))
theorem lw_sp (A : hr_LA p s m meth c G b L xs) (hR : cells ≤ 600000 ∧ slots ≤ 7302250) (hi : i + 6 ≤ L) (hL : L ≤ 3072) {n i1 m1 i2 m2 : Nat} (hck : n = 3 ∧ lw_cs pc i1 i2 = true ∧ decode code (pc + 1 + 23 + 3 + 1 + 23 + 3) = .ok (.if_icmp .eq ((1481 : Int) - ((pc + 1 + 23 + 3 + 1 + 23 + 3 : Nat) : Int)), 3)) (k1 : lw_mok i1 m1 n 0) (k2 : lw_mok i2 m2 n 275) {w : Int32} (h1 : hr_Ct l G m1 (.ref 0 :: [.int (xs (i + 1)), .int (xs (i + 2)), .int (lw_fl (xs (i + 3)))]) M (some (.int w), M1)) (h2 : hr_Ct l G m2 (.ref 275 :: [.int (xs (i + 1)), .int (xs (i + 2)), .int (lw_fl (xs (i + 3)))]) M1 (some (.int w), M2))
    (kk : hr_LW p l e s m below meth c G b cells slots Q (i + 6) 18 [] M2) : hr_LW p l e s m below meth c G b cells slots Q i pc [] M := by
  have hx := A.1
  have hb := A.2.1
  obtain ⟨rfl, hck, dt⟩ := hck
  simp only [lw_cs, Bool.and_eq_true, decide_eq_true_eq] at hck
  obtain ⟨d0, d1, d2, d3, d4, d5⟩ := hck
  have c2 : hr_LW p l e s m below meth c G b cells slots Q i (pc + 1 + 23 + 3) [.int w] M1 := by
    intro H locs la hP hS hl
    refine lv_aload_n hx hb d3 rfl (lv_at hl 2 rfl) ?_
    refine lw_argsF A hL hi d4 ?_ H locs la hP hS hl
    exact lw_call (l := l) (e := e) (below := below) (Q := Q) (i := i) (rest := [.int w]) A hR k2 rfl rfl h2 d5 (by show 1 + 0 ≤ 8; omega) (lw_tail A dt kk)
  intro H locs la hP hS hl
  refine lv_aload_n hx hb d0 rfl (lv_at hl 1 rfl) ?_
  refine lw_argsF A hL hi d1 ?_ H locs la hP hS hl
  exact lw_call (l := l) (e := e) (below := below) (Q := Q) (i := i) (rest := []) A hR k1 rfl rfl h1 d2 (by decide) c2
end LWR
theorem lw_k (x : Int32) : ∃ k, k < 32 ∧ x &&& nI 31 = nI k := by
  refine ⟨(x &&& nI 31).toBitVec.toNat, ?_, i_nat _⟩
  rw [Int32.toBitVec_and, BitVec.toNat_and]
  exact Nat.lt_of_le_of_lt Nat.and_le_right (by decide)
