/-! ONE STEP of the pure machine is the machine's -/
def hr_s0L : List (List Int32) := [[0, 9, 40, 12, 8], [], [5, 0, 3, 9, 0, 9, 9], [0, 0, 2, 54, 0, 54, 0], [1, 0, 2, 2, 1, 9, 0], [2, 0, 1, 2, 0, 0, 0], [3, 0, 2, 9, 0, 9, 0], [4, 0, 2, 2, 1, 18, 0], [6, 0, 3, 1, 0, 9, 9], [10, 0, 2, 9, 1, 9, 0], [11, 0, 1, 99, 0, 0, 0], [20, 0, 2, 8, 0, 3, 0], [21, 0, 1, 8, 0, 0, 0], [22, 0, 2, 5, 0, 9, 0], [23, 0, 2, 5, 0, 3, 0], [24, 0, 1, 5, 0, 0, 0], [25, 0, 0, 0, 0, 0, 0], [30, 0, 2, 9, 0, 9, 0], [31, 0, 2, 9, 0, 9, 0], [40, 0, 1, 9, 0, 0, 0], [104, 117, 101], [115, 117, 109], [103, 97, 112], [108, 105, 107, 101], [112, 97, 105, 114], [99, 117, 114, 101], [108, 105, 107, 101, 115], [112, 105, 99, 116, 117, 114, 101], [108, 105, 109, 105, 116], [104, 97, 110, 103], [116, 97, 107, 101], [119, 101, 97, 114], [101, 110, 116, 101, 114], [108, 101, 97, 118, 101], [104, 111, 117, 114], [99, 97, 108, 109], [115, 110, 101, 101, 122, 101, 100], [103, 117, 101, 115, 116]]
def hr_s0 (a k : Nat) : Int32 := (hr_s0L.getD (a - 305) []).getD k 0
def hr_MS (M : PM) : Prop := ∀ a, hr_n ≤ a → M.1 a = hr_s0 a
def hr_WP (G : PG) (M : PM) (H : Heap) : Prop := va_P G.1 vwCl (hr_W G M) H ∧ hr_MS M
/-- what is said of the static cells -/
abbrev hr_AA (G : PG) : Nat → Prop := fun q => G.2.2.1 ≤ q
def hr_lfN (s : Nat) : String × String := [("kind", "I"), ("word", "Ljava/lang/String;"), ("numbers", "I"), ("firstMost", "I"), ("secondLeast", "I"), ("secondMost", "I"), ("thirdMost", "I")].getD s ("", "")
def hr_lV (G : PG) (k s : Nat) : Value := if s = 1 then .ref (G.2.2.2 (325 + k)) else .int (hr_s0 (307 + k) s)
def hr_sb : List (List Int32) := hr_s0L.drop 20
def hr_sn : List Nat := hr_sb.map List.length
def hr_Zst (G : PG) (U : State) : Prop :=
  (va_Z "HueRash" "ROLL_LIMITS" "[I" (.ref (G.2.2.2 305)) (hr_AA G) U U.heap ∧ va_T .int (G.2.2.2 305) 5 (fun j => .int (hr_s0 305 j)) (hr_AA G) U U.heap) ∧
  (va_Z "HueRash" "LINES" "[LHueRash$Line;" (.ref (G.2.2.2 306)) (hr_AA G) U U.heap ∧ va_T (.object "HueRash$Line") (G.2.2.2 306) 18 (fun j => .ref (G.2.2.2 (307 + j))) (hr_AA G) U U.heap) ∧
  (∀ k, k < 18 → va_O "HueRash$Line" (G.2.2.2 (307 + k)) (hr_AA G) U U.heap ∧ ∀ s, s < 7 → va_OF "HueRash$Line" (hr_lfN s).1 (hr_lfN s).2 (hr_lV G k s) (G.2.2.2 (307 + k)) (hr_AA G) U U.heap) ∧
  (∃ adV : Nat → Nat, vk_S 18 hr_sn hr_sb (fun i => G.2.2.2 (325 + i)) adV (hr_AA G) U U.heap) ∧
  va_Z "java/lang/String" "COMPACT_STRINGS" "Z" (.int 1) (hr_AA G) U U.heap ∧ va_Zq "jdk/internal/util/Preconditions" "SIOOBE_FORMATTER" "Ljava/util/function/BiFunction;" (hr_AA G) U U.heap
def hr_Z (G : PG) (U : State) : Prop := (∀ q ∈ hr_NW, va_Nw (.methodLinkNest q.1 q.2.1 q.2.2 "HueRash") U) ∧ (∀ q ∈ hr_NF, va_Nw (.fieldLinkNest q.1 q.2.1 "HueRash" q.2.2.1 q.2.2.2 "HueRash") U) ∧ hr_Zst G U
/-- a method's activation: the machine, the code, the words, the classes -/
def hr_A (p : Program) (s : State) (mi : MethodId) (args : Array Value) (c : Code) (cc : ByteArray) (nL o : Nat) (G : PG) : Prop :=
  p.tables.exec = Jvm.exec ∧ c.code = cc ∧ c.maxLocals = nL ∧ (∀ w ∈ hr_GT, w.before args s = true) ∧ s.vm.findClass (hr_cn o) = some mi.cls ∧ va_K G.1 vwCl (hr_tys G) s ∧ hr_Z G s
def hr_PW (p : Program) (l : Launch) (e : Env) (R : Room) (s : State) (mi : MethodId) (args : Array Value) (below : List Frame) (meth : Method) (c : Code) (G : PG) (nL : Nat) (Q : State → Prop) (pc : Nat) (ls : PL) (st : List Value) (M : PM) : Prop :=
  ∀ (H : Heap) (locs : List Loc) (la : Array Slot), hr_WP G M H → va_S (fun q => G.2.2.1 ≤ q) s.heap H locs → hr_LH G la nL ls → W p l e R s mi args below meth c H locs 0 0 Q (F0 mi pc la (st.map (hr_rv G)))
section HRS
variable {p : Program} {l : Launch} {e : Env} {R : Room} {s : State} {mi : MethodId} {args : Array Value} {below : List Frame} {meth : Method} {c : Code} {G : PG} {cc : ByteArray} {nL : Nat} {Q : State → Prop} {o d : Nat} {pc : Nat} {ls : PL} {st : List Value} {M : PM}
variable {g : Option Prop} {pc' : Nat} {ls' : PL} {st' : List Value} {M' : PM}
theorem hr_tg_ok {off : Int} {pc tgt : Nat} (h : hr_tg pc off = tgt) (h0 : 0 ≤ (pc : Int) + off) : (pc : Int) + off = (tgt : Int) := by
  unfold hr_tg at h
  omega
theorem hr_ld1_ok {k n : Nat} (row : ∀ (H : Heap) (locs : List Loc) (la : Array Slot) (x : Int32) (r : List Value), la[k]? = some (.val (.int x)) → W p l e R s mi args below meth c H locs 0 0 Q (F0 mi n la (.int x :: r)) → W p l e R s mi args below meth c H locs 0 0 Q (F0 mi pc la r))
    (h : hr_ld1 ls st M n k = some (g, pc', ls', st', M')) (kk : hr_PW p l e R s mi args below meth c G nL Q pc' ls' st' M') : hr_PW p l e R s mi args below meth c G nL Q pc ls st M := by
  unfold hr_ld1 at h
  split at h
  · next x hx =>
    cases h
    exact fun H locs la hP hS hL => row H locs la x _ (hL.2.2.2 k _ hx) (kk H locs la hP hS hL)
  · cases h
theorem hr_ld2_ok {k n : Nat} (row : ∀ (H : Heap) (locs : List Loc) (la : Array Slot) (x : Int64) (r : List Value), la[k]? = some (.val (.long x)) → W p l e R s mi args below meth c H locs 0 0 Q (F0 mi n la (.long x :: r)) → W p l e R s mi args below meth c H locs 0 0 Q (F0 mi pc la r))
    (h : hr_ld2 ls st M n k = some (g, pc', ls', st', M')) (kk : hr_PW p l e R s mi args below meth c G nL Q pc' ls' st' M') : hr_PW p l e R s mi args below meth c G nL Q pc ls st M := by
  unfold hr_ld2 at h
  split at h
  · next x hx =>
    cases h
    exact fun H locs la hP hS hL => row H locs la x _ (hL.2.2.2 k _ hx) (kk H locs la hP hS hL)
  · cases h
theorem hr_lda_ok {k n : Nat} (row : ∀ (H : Heap) (locs : List Loc) (la : Array Slot) (x : Nat) (r : List Value), la[k]? = some (.val (.ref x)) → W p l e R s mi args below meth c H locs 0 0 Q (F0 mi n la (.ref x :: r)) → W p l e R s mi args below meth c H locs 0 0 Q (F0 mi pc la r))
    (rowN : ∀ (H : Heap) (locs : List Loc) (la : Array Slot) (r : List Value), la[k]? = some (.val .null) → W p l e R s mi args below meth c H locs 0 0 Q (F0 mi n la (.null :: r)) → W p l e R s mi args below meth c H locs 0 0 Q (F0 mi pc la r))
    (h : hr_lda ls st M n k = some (g, pc', ls', st', M')) (kk : hr_PW p l e R s mi args below meth c G nL Q pc' ls' st' M') : hr_PW p l e R s mi args below meth c G nL Q pc ls st M := by
  unfold hr_lda at h
  split at h
  · next x hx =>
    cases h
    exact fun H locs la hP hS hL => row H locs la _ _ (hL.2.2.2 k _ hx) (kk H locs la hP hS hL)
  · next hx =>
    cases h
    exact fun H locs la hP hS hL => rowN H locs la _ (hL.2.2.2 k _ hx) (kk H locs la hP hS hL)
  · cases h
theorem hr_sv1_ok {k n : Nat} (row : ∀ (H : Heap) (locs : List Loc) (la : Array Slot) (x : Int32) (r : List Value) (lv : List (Nat × Value)), lv_has la nL lv → k < nL → (∀ la' : Array Slot, lv_has la' nL ((k, Value.int x) :: lv.filter (fun q => !(q.1 == k) && !(q.1 + 1 == k && q.2.category == 2))) → W p l e R s mi args below meth c H locs 0 0 Q (F0 mi n la' r)) → W p l e R s mi args below meth c H locs 0 0 Q (F0 mi pc la (.int x :: r)))
    (h : hr_sv1 ls st M n k = some (g, pc', ls', st', M')) (kk : hr_PW p l e R s mi args below meth c G nL Q pc' ls' st' M') : hr_PW p l e R s mi args below meth c G nL Q pc ls st M := by
  unfold hr_sv1 at h
  split at h
  · next hk =>
    split at h
    · next x r =>
      cases h
      exact fun H locs la hP hS hL => row H locs la x _ _ hL.has (by rw [← hL.2.1]; exact hk) (fun la' h' => kk H locs la' hP hS (hL.st1 h'))
    · cases h
  · cases h
theorem hr_sv2_ok {k n : Nat} (row : ∀ (H : Heap) (locs : List Loc) (la : Array Slot) (x : Int64) (r : List Value) (lv : List (Nat × Value)), lv_has la nL lv → k + 1 < nL → (∀ la' : Array Slot, lv_has la' nL ((k, Value.long x) :: lv.filter (fun q => !(q.1 == k) && (!(q.1 == k + 1) && !(q.1 + 1 == k && q.2.category == 2)))) → W p l e R s mi args below meth c H locs 0 0 Q (F0 mi n la' r)) → W p l e R s mi args below meth c H locs 0 0 Q (F0 mi pc la (.long x :: r)))
    (h : hr_sv2 ls st M n k = some (g, pc', ls', st', M')) (kk : hr_PW p l e R s mi args below meth c G nL Q pc' ls' st' M') : hr_PW p l e R s mi args below meth c G nL Q pc ls st M := by
  unfold hr_sv2 at h
  split at h
  · next hk =>
    split at h
    · next x r =>
      cases h
      exact fun H locs la hP hS hL => row H locs la x _ _ hL.has (by rw [← hL.2.1]; exact hk) (fun la' h' => kk H locs la' hP hS (hL.st2 h' hk))
    · cases h
  · cases h
theorem hr_sva_ok {k n : Nat} (row : ∀ (H : Heap) (locs : List Loc) (la : Array Slot) (x : Nat) (r : List Value) (lv : List (Nat × Value)), lv_has la nL lv → k < nL → (∀ la' : Array Slot, lv_has la' nL ((k, Value.ref x) :: lv.filter (fun q => !(q.1 == k) && !(q.1 + 1 == k && q.2.category == 2))) → W p l e R s mi args below meth c H locs 0 0 Q (F0 mi n la' r)) → W p l e R s mi args below meth c H locs 0 0 Q (F0 mi pc la (.ref x :: r)))
    (rowN : ∀ (H : Heap) (locs : List Loc) (la : Array Slot) (r : List Value) (lv : List (Nat × Value)), lv_has la nL lv → k < nL → (∀ la' : Array Slot, lv_has la' nL ((k, Value.null) :: lv.filter (fun q => !(q.1 == k) && !(q.1 + 1 == k && q.2.category == 2))) → W p l e R s mi args below meth c H locs 0 0 Q (F0 mi n la' r)) → W p l e R s mi args below meth c H locs 0 0 Q (F0 mi pc la (.null :: r)))
    (h : hr_sva ls st M n k = some (g, pc', ls', st', M')) (kk : hr_PW p l e R s mi args below meth c G nL Q pc' ls' st' M') : hr_PW p l e R s mi args below meth c G nL Q pc ls st M := by
  unfold hr_sva at h
  split at h
  · next hk =>
    split at h
    · next x r =>
      cases h
      exact fun H locs la hP hS hL => row H locs la (hr_rad G x) _ _ hL.has (by rw [← hL.2.1]; exact hk) (fun la' h' => kk H locs la' hP hS (hL.st1 (v := .ref x) h'))
    · next r =>
      cases h
      exact fun H locs la hP hS hL => rowN H locs la _ _ hL.has (by rw [← hL.2.1]; exact hk) (fun la' h' => kk H locs la' hP hS (hL.st1 (v := .null) h'))
    · cases h
  · cases h
theorem hr_b2_ok {f : Int32 → Int32 → Int32} (row : ∀ (H : Heap) (locs : List Loc) (la : Array Slot) (x y : Int32) (r : List Value), W p l e R s mi args below meth c H locs 0 0 Q (F0 mi (pc + 1) la (.int (f x y) :: r)) → W p l e R s mi args below meth c H locs 0 0 Q (F0 mi pc la (.int y :: .int x :: r)))
    (h : hr_b2 pc ls st M f = some (g, pc', ls', st', M')) (kk : hr_PW p l e R s mi args below meth c G nL Q pc' ls' st' M') : hr_PW p l e R s mi args below meth c G nL Q pc ls st M := by
  unfold hr_b2 at h
  split at h
  · next y x r =>
    cases h
    exact fun H locs la hP hS hL => row H locs la x y _ (kk H locs la hP hS hL)
  · cases h
/-- reading a field of one of our objects -/
theorem hr_get_ok (A : hr_A p s mi args c cc nL o G) {idx : Nat} (hd : decode cc pc = .ok (.getfield idx, 3)) (h : hr_get o idx pc ls st M = some (g, pc', ls', st', M')) (hg : ∀ q, g = some q → q)
    (hz : ∀ (a k s' w : Nat) (r : List Value), hr_fl o idx = some (k, s', w) → k = 19 → hr_K a = k → hr_PW p l e R s mi args below meth c G nL Q (pc + 3) ls (hr_fv M a k s' :: r) M → hr_PW p l e R s mi args below meth c G nL Q pc ls (.ref a :: r) M)
    (kk : hr_PW p l e R s mi args below meth c G nL Q pc' ls' st' M') : hr_PW p l e R s mi args below meth c G nL Q pc ls st M := by
  obtain ⟨hx, hb, hml, hts, hown, hK, hZ⟩ := A
  unfold hr_get at h
  split at h
  · next a r =>
    split at h
    · next k s' w hf =>
      cases h
      have hk : hr_K a = k := hg _ rfl
      rcases hr_fl_ok hf with h19 | ⟨h11, hs, hl⟩
      · exact hz a k s' w r hf h19 hk kk
      · intro H locs la hP hS hL
        have ha : a < hr_n := hr_K_dyn (by omega)
        have he := hr_Wg G M ha
        rw [show hr_cell G M a = .inr (k, hr_obj G M a) by unfold hr_cell; rw [if_pos (by omega), hk]] at he
        show W p l e R s mi args below meth c H locs 0 0 Q (F0 mi pc la (.ref (hr_rad G a) :: r.map (hr_rv G)))
        rw [hr_rad_lt G ha]
        refine va_get hx hb (Ts := hr_GT) hts (hr_cls_in h11) hown hK hP.1 a he (hr_Cg h11) s' hs (hts _ hl) (fun x h => h) (v := hr_rv G (hr_fv M a k s')) ?_ hd (kk H locs la hP hS hL)
        unfold hr_obj
        rw [List.getElem?_map, hk, List.getElem?_range (by rw [(hr_fts_ok k h11).1]; exact hs)]
        rfl
    · cases h
  · cases h
end HRS
