/-! THE PURE MACHINE: memory as functions, addresses as places in the row of cells; a method runs as blocks of instructions -/
/-- ints, longs, and the one reference that changes (the reader's tape) -/
abbrev PM : Type := (Nat → Nat → Int32) × (Nat → Nat → Int64) × Nat
abbrev PL : Type := List (Option Value)
abbrev PS : Type := Nat × PL × List Value × PM
def hr_si (M : PM) (a k : Nat) (v : Int32) : PM := (fun x y => if x = a then (if y = k then v else M.1 x y) else M.1 x y, M.2.1, M.2.2)
def hr_sl (M : PM) (a k : Nat) (v : Int64) : PM := (M.1, fun x y => if x = a then (if y = k then v else M.2.1 x y) else M.2.1 x y, M.2.2)
def hr_sr (M : PM) (a : Nat) (f : Nat → Int32) : PM := (fun x => if x = a then f else M.1 x, M.2.1, M.2.2)
def hr_stp (M : PM) (v : Nat) : PM := (M.1, M.2.1, v)
def hr_fv (M : PM) (a k s : Nat) : Value := match (hr_ft k).getD s 9 with
  | 0 => .int (M.1 a s)
  | 1 => .long (M.2.1 a s)
  | 2 => .ref (a + hr_of k s)
  | 3 => .ref M.2.2
  | 4 => .int (M.1 a s)
  | _ => .null
def hr_el (k a j : Nat) : Nat := match k with
  | 15 => a + 2 + 9 * j
  | 16 => a + 19 + 4 * j
  | 17 => a + 1 + 55 * j
  | _ => a + 1 + j
def hr_st1 (ls : PL) (k : Nat) (v : Value) : PL := match k with
  | 0 => ls.set 0 (some v)
  | j + 1 => match ls.getD j none with
    | some (.long _) => (ls.set j none).set (j + 1) (some v)
    | some (.double _) => (ls.set j none).set (j + 1) (some v)
    | _ => ls.set (j + 1) (some v)
def hr_st2 (ls : PL) (k : Nat) (v : Value) : PL := (hr_st1 ls k v).set (k + 1) none
def hr_cat (st : List Value) : Nat := (st.map fun v => v.category).sum
def hr_tg (pc : Nat) (off : Int) : Nat := ((pc : Int) + off).toNat
def hr_sw (pc : Nat) (d : Int) : List Int → Int → Int32 → Nat
  | [], _, _ => hr_tg pc d
  | o :: os, k, x => if x = Int32.ofInt k then hr_tg pc o else hr_sw pc d os (k + 1) x
def hr_lw (pc : Nat) (d : Int) : List (Int × Int) → Int32 → Nat
  | [], _ => hr_tg pc d
  | (k, o) :: os, x => if x = Int32.ofInt k then hr_tg pc o else hr_lw pc d os x
def hr_ld1 (ls : PL) (st : List Value) (M : PM) (pc k : Nat) : Option (Option Prop × PS) := match ls.getD k none with
  | some (.int x) => some (none, pc, ls, .int x :: st, M)
  | _ => none
def hr_ld2 (ls : PL) (st : List Value) (M : PM) (pc k : Nat) : Option (Option Prop × PS) := match ls.getD k none with
  | some (.long x) => some (none, pc, ls, .long x :: st, M)
  | _ => none
def hr_lda (ls : PL) (st : List Value) (M : PM) (pc k : Nat) : Option (Option Prop × PS) := match ls.getD k none with
  | some (.ref x) => some (none, pc, ls, .ref x :: st, M)
  | some .null => some (none, pc, ls, .null :: st, M)
  | _ => none
def hr_sv1 (ls : PL) (st : List Value) (M : PM) (pc k : Nat) : Option (Option Prop × PS) := if k < ls.length then match st with
  | .int x :: r => some (none, pc, hr_st1 ls k (.int x), r, M)
  | _ => none
  else none
def hr_sv2 (ls : PL) (st : List Value) (M : PM) (pc k : Nat) : Option (Option Prop × PS) := if k + 1 < ls.length then match st with
  | .long x :: r => some (none, pc, hr_st2 ls k (.long x), r, M)
  | _ => none
  else none
def hr_sva (ls : PL) (st : List Value) (M : PM) (pc k : Nat) : Option (Option Prop × PS) := if k < ls.length then match st with
  | .ref x :: r => some (none, pc, hr_st1 ls k (.ref x), r, M)
  | .null :: r => some (none, pc, hr_st1 ls k .null, r, M)
  | _ => none
  else none
def hr_b2 (pc : Nat) (ls : PL) (st : List Value) (M : PM) (f : Int32 → Int32 → Int32) : Option (Option Prop × PS) := match st with
  | .int y :: .int x :: r => some (none, pc + 1, ls, .int (f x y) :: r, M)
  | _ => none
def hr_get (o idx pc : Nat) (ls : PL) (st : List Value) (M : PM) : Option (Option Prop × PS) := match st with
  | .ref a :: r => match hr_fl o idx with
    | some (k, s, _) => some (some (hr_K a = k), pc + 3, ls, hr_fv M a k s :: r, M)
    | none => none
  | _ => none
def hr_put (o idx pc : Nat) (ls : PL) (st : List Value) (M : PM) : Option (Option Prop × PS) := match hr_fl o idx with
  | some (k, s, _) => match st with
    | .int v :: .ref a :: r => match (hr_ft k).getD s 9 with
      | 0 => some (some (hr_K a = k ∧ a < hr_n), pc + 3, ls, r, hr_si M a s v)
      | 4 => some (some (hr_K a = k ∧ a < hr_n ∧ (v = 0 ∨ v = 1)), pc + 3, ls, r, hr_si M a s v)
      | _ => none
    | .long v :: .ref a :: r => match (hr_ft k).getD s 9 with
      | 1 => some (some (hr_K a = k ∧ a < hr_n), pc + 3, ls, r, hr_sl M a s v)
      | _ => none
    | .ref v :: .ref a :: r => match (hr_ft k).getD s 9 with
      | 3 => some (some (hr_K a = k ∧ a < hr_n ∧ v < hr_n), pc + 3, ls, r, hr_stp M v)
      | _ => none
    | _ => none
  | none => none
/-- the JDK's own that are taken as one step -/
def hr_bi (o d idx pc : Nat) (ls : PL) (st : List Value) (M : PM) : Option (Option Prop × PS) := if 1 ≤ d then match hr_ml o idx with
  | some (10, _, _) => match st with
    | .int x :: r => if hr_cat r ≤ 8 then some (none, pc + 3, ls, .int (if 0 ≤ x then x else 0 - x) :: r, M) else none
    | _ => none
  | some (11, _, _) => match st with
    | .int y :: .int x :: r => if hr_cat r ≤ 8 then some (none, pc + 3, ls, .int (if x < y then y else x) :: r, M) else none
    | _ => none
  | some (12, _, _) => match st with
    | .int y :: .int x :: r => if hr_cat r ≤ 8 then some (none, pc + 3, ls, .int (if y < x then y else x) :: r, M) else none
    | _ => none
  | some (13, _, _) => match st with
    | .int n :: .int dp :: .ref a :: .int sp :: .ref a0 :: r => if hr_cat r ≤ 8 then some (some (((hr_K a0 = 12 ∧ hr_K a = 12) ∨ (hr_K a0 = 11 ∧ hr_K a = 11 ∧ ∀ i, i < n.toNatClampNeg → fits .byte (.int (M.1 a0 (sp.toNatClampNeg + i))) = true)) ∧ (a < hr_n ∧ a0 < hr_n) ∧ (¬ sp < 0 ∧ ¬ dp < 0 ∧ ¬ n < 0) ∧ sp.toNatClampNeg + n.toNatClampNeg ≤ hr_N a0 ∧ dp.toNatClampNeg + n.toNatClampNeg ≤ hr_N a), pc + 3, ls, r, hr_sr M a (va_cpy (M.1 a0) (M.1 a) sp.toNatClampNeg dp.toNatClampNeg n.toNatClampNeg)) else none
    | _ => none
  | some (14, _, _) => match st with
    | .ref a :: r => if hr_cat r ≤ 8 ∧ 4 ≤ d then some (some (hr_K a = 20), pc + 3, ls, .int (Int32.ofNat (hr_N a)) :: r, M) else none
    | _ => none
  | some (15, _, _) => match st with
    | .int i :: .ref a :: r => if hr_cat r ≤ 8 ∧ 4 ≤ d then some (some (hr_K a = 20 ∧ vp_in i (hr_N a)), pc + 3, ls, .int (M.1 a i.toNatClampNeg) :: r, M) else none
    | _ => none
  | _ => none
  else none
/-- one instruction that isn't a call or a return: what it asks for, and the next state (o: its class, d: its method's depth) -/
def hr_step (o d : Nat) (i : Instr) (pc : Nat) (ls : PL) (st : List Value) (M : PM) : Option (Option Prop × PS) := match i with
  | .aconst_null => some (none, pc + 1, ls, .null :: st, M)
  | .iconst k => some (none, pc + 1, ls, .int (Int32.ofInt k) :: st, M)
  | .bipush k => some (none, pc + 2, ls, .int (Int8.ofInt k).toInt32 :: st, M)
  | .sipush k => some (none, pc + 3, ls, .int (Int16.ofInt k).toInt32 :: st, M)
  | .lconst k => some (none, pc + 1, ls, .long (Int64.ofNat (k : Nat)) :: st, M)
  | .ldc k => match hr_ld o k with
    | some (v, _) => some (none, pc + 2, ls, .int v :: st, M)
    | none => none
  | .ldc_w k => match hr_ld o k with
    | some (v, _) => some (none, pc + 3, ls, .int v :: st, M)
    | none => none
  | .ldc2_w k => match hr_ll o k with
    | some (v, _) => some (none, pc + 3, ls, .long v :: st, M)
    | none => none
  | .iload_n k => hr_ld1 ls st M (pc + 1) k
  | .iload k => hr_ld1 ls st M (pc + 2) k
  | .lload_n k => hr_ld2 ls st M (pc + 1) k
  | .lload k => hr_ld2 ls st M (pc + 2) k
  | .aload_n k => hr_lda ls st M (pc + 1) k
  | .aload k => hr_lda ls st M (pc + 2) k
  | .istore_n k => hr_sv1 ls st M (pc + 1) k
  | .istore k => hr_sv1 ls st M (pc + 2) k
  | .lstore_n k => hr_sv2 ls st M (pc + 1) k
  | .lstore k => hr_sv2 ls st M (pc + 2) k
  | .astore_n k => hr_sva ls st M (pc + 1) k
  | .astore k => hr_sva ls st M (pc + 2) k
  | .iinc k n => if k < ls.length then match ls.getD k none with
    | some (.int x) => some (none, pc + 3, hr_st1 ls k (.int (x + Int32.ofInt n)), st, M)
    | _ => none
    else none
  | .iadd => hr_b2 pc ls st M (fun x y => x + y)
  | .isub => hr_b2 pc ls st M (fun x y => x - y)
  | .imul => hr_b2 pc ls st M (fun x y => x * y)
  | .iand => hr_b2 pc ls st M (fun x y => x &&& y)
  | .ior => hr_b2 pc ls st M (fun x y => x ||| y)
  | .ixor => hr_b2 pc ls st M (fun x y => x ^^^ y)
  | .ishl => hr_b2 pc ls st M (fun x y => x <<< (y &&& 31))
  | .ishr => hr_b2 pc ls st M (fun x y => x >>> (y &&& 31))
  | .iushr => hr_b2 pc ls st M (fun x y => (x.toUInt32 >>> (y.toUInt32 &&& Int32.toUInt32 31)).toInt32)
  | .idiv => match st with
    | .int y :: .int x :: r => some (some (¬ y = 0), pc + 1, ls, .int (x / y) :: r, M)
    | _ => none
  | .irem => match st with
    | .int y :: .int x :: r => some (some (¬ y = 0), pc + 1, ls, .int (x - x / y * y) :: r, M)
    | _ => none
  | .ineg => match st with
    | .int x :: r => some (none, pc + 1, ls, .int (-x) :: r, M)
    | _ => none
  | .i2l => match st with
    | .int x :: r => some (none, pc + 1, ls, .long x.toInt64 :: r, M)
    | _ => none
  | .i2b => match st with
    | .int x :: r => some (none, pc + 1, ls, .int x.toInt8.toInt32 :: r, M)
    | _ => none
  | .ladd => match st with
    | .long y :: .long x :: r => some (none, pc + 1, ls, .long (x + y) :: r, M)
    | _ => none
  | .lor => match st with
    | .long y :: .long x :: r => some (none, pc + 1, ls, .long (x ||| y) :: r, M)
    | _ => none
  | .lcmp => match st with
    | .long y :: .long x :: r => some (none, pc + 1, ls, .int (lg_cmp x y) :: r, M)
    | _ => none
  | .lshl => match st with
    | .int y :: .long x :: r => some (none, pc + 1, ls, .long (x <<< (y.toInt64 &&& 63)) :: r, M)
    | _ => none
  | .dup => match st with
    | .int x :: r => some (none, pc + 1, ls, .int x :: .int x :: r, M)
    | .ref x :: r => some (none, pc + 1, ls, .ref x :: .ref x :: r, M)
    | _ => none
  | .dup2 => match st with
    | .int x :: .ref a :: r => some (none, pc + 1, ls, .int x :: .ref a :: .int x :: .ref a :: r, M)
    | _ => none
  | .goto off => some (none, hr_tg pc off, ls, st, M)
  | .ifnull off => match st with
    | .ref _ :: r => some (none, pc + 3, ls, r, M)
    | .null :: r => some (none, hr_tg pc off, ls, r, M)
    | _ => none
  | .ifnonnull off => match st with
    | .ref _ :: r => some (none, hr_tg pc off, ls, r, M)
    | .null :: r => some (none, pc + 3, ls, r, M)
    | _ => none
  | .ifCond c off => match st with
    | .int x :: r => match c with
      | .eq => some (none, (if x = 0 then hr_tg pc off else pc + 3), ls, r, M)
      | .ne => some (none, (if x = 0 then pc + 3 else hr_tg pc off), ls, r, M)
      | .lt => some (none, (if x < 0 then hr_tg pc off else pc + 3), ls, r, M)
      | .ge => some (none, (if 0 ≤ x then hr_tg pc off else pc + 3), ls, r, M)
      | .gt => some (none, (if 0 < x then hr_tg pc off else pc + 3), ls, r, M)
      | .le => some (none, (if x ≤ 0 then hr_tg pc off else pc + 3), ls, r, M)
    | _ => none
  | .if_icmp c off => match st with
    | .int y :: .int x :: r => match c with
      | .eq => some (none, (if x = y then hr_tg pc off else pc + 3), ls, r, M)
      | .ne => some (none, (if x = y then pc + 3 else hr_tg pc off), ls, r, M)
      | .lt => some (none, (if x < y then hr_tg pc off else pc + 3), ls, r, M)
      | .ge => some (none, (if y ≤ x then hr_tg pc off else pc + 3), ls, r, M)
      | .gt => some (none, (if y < x then hr_tg pc off else pc + 3), ls, r, M)
      | .le => some (none, (if x ≤ y then hr_tg pc off else pc + 3), ls, r, M)
    | _ => none
  | .tableswitch dflt lo _ offs => match st with
    | .int x :: r => some (none, hr_sw pc dflt offs.toList lo x, ls, r, M)
    | _ => none
  | .lookupswitch dflt ps => match st with
    | .int x :: r => some (none, hr_lw pc dflt ps.toList x, ls, r, M)
    | _ => none
  | .getfield idx => hr_get o idx pc ls st M
  | .putfield idx => hr_put o idx pc ls st M
  | .getstatic idx => if o = 5 then match idx with
    | 137 => some (none, pc + 3, ls, .ref 305 :: st, M)
    | 172 => some (none, pc + 3, ls, .ref 306 :: st, M)
    | _ => none
    else none
  | .arraylength => match st with
    | .ref a :: r => some (some (11 ≤ hr_K a ∧ hr_K a ≤ 18), pc + 1, ls, .int (Int32.ofNat (hr_N a)) :: r, M)
    | _ => none
  | .iaload => match st with
    | .int i :: .ref a :: r => some (some (hr_K a = 12 ∧ vp_in i (hr_N a)), pc + 1, ls, .int (M.1 a i.toNatClampNeg) :: r, M)
    | _ => none
  | .baload => match st with
    | .int i :: .ref a :: r => some (some ((hr_K a = 11 ∨ hr_K a = 14) ∧ vp_in i (hr_N a)), pc + 1, ls, .int (M.1 a i.toNatClampNeg) :: r, M)
    | _ => none
  | .laload => match st with
    | .int i :: .ref a :: r => some (some (hr_K a = 13 ∧ vp_in i (hr_N a)), pc + 1, ls, .long (M.2.1 a i.toNatClampNeg) :: r, M)
    | _ => none
  | .aaload => match st with
    | .int i :: .ref a :: r => some (some ((15 ≤ hr_K a ∧ hr_K a ≤ 18) ∧ vp_in i (hr_N a)), pc + 1, ls, .ref (hr_el (hr_K a) a i.toNatClampNeg) :: r, M)
    | _ => none
  | .iastore => match st with
    | .int x :: .int i :: .ref a :: r => some (some ((hr_K a = 12 ∧ a < hr_n) ∧ vp_in i (hr_N a)), pc + 1, ls, r, hr_si M a i.toNatClampNeg x)
    | _ => none
  | .bastore => match st with
    | .int x :: .int i :: .ref a :: r => some (some (((hr_K a = 11 ∨ hr_K a = 14) ∧ a < hr_n) ∧ vp_in i (hr_N a)), pc + 1, ls, r, hr_si M a i.toNatClampNeg (if hr_K a = 11 then vp_nar .byte x else vp_nar .boolean x))
    | _ => none
  | .lastore => match st with
    | .long x :: .int i :: .ref a :: r => some (some ((hr_K a = 13 ∧ a < hr_n) ∧ vp_in i (hr_N a)), pc + 1, ls, r, hr_sl M a i.toNatClampNeg x)
    | _ => none
  | .invokestatic idx => match hr_ml o idx with
    | some (k, _, _) => if k < 14 then hr_bi o d idx pc ls st M else none
    | none => none
  | .invokevirtual idx => match hr_ml o idx with
    | some (k, _, _) => if 14 ≤ k then hr_bi o d idx pc ls st M else none
    | none => none
  | _ => none
/-- the length that an instruction must have -/
def hr_ln (i : Instr) (n : Nat) : Bool := match i with
  | .bipush _ | .ldc _ | .iload _ | .lload _ | .aload _ | .istore _ | .lstore _ | .astore _ => n == 2
  | .sipush _ | .ldc_w _ | .ldc2_w _ | .iinc _ _ | .goto _ | .ifnull _ | .ifnonnull _ | .ifCond _ _ | .if_icmp _ _ | .getfield _ | .putfield _ | .getstatic _ | .invokestatic _ | .invokevirtual _ => n == 3
  | .tableswitch _ _ _ _ | .lookupswitch _ _ => true
  | _ => n == 1
/-- where it jumps is ahead of nothing; its numbers are ints -/
def hr_jok (pc : Nat) (i : Instr) : Bool := match i with
  | .goto off | .ifCond _ off | .if_icmp _ off | .ifnull off | .ifnonnull off => decide (0 ≤ (pc : Int) + off)
  | .tableswitch d lo hi offs => decide (0 ≤ (pc : Int) + d) && (offs.toList.all (fun o => decide (0 ≤ (pc : Int) + o)) && decide (lo + offs.toList.length = hi + 1 ∧ -2147483648 ≤ lo ∧ hi < 2147483647))
  | .lookupswitch d ps => decide (0 ≤ (pc : Int) + d) && (ps.toList.all (fun o => decide (0 ≤ (pc : Int) + o.2) && decide ((Int32.ofInt o.1).toInt = o.1)) && (ps.toList.zip (ps.toList.drop 1)).all (fun (a, next) => a.1 < next.1))
  | _ => true
/-- a block: its instructions one behind another; only the last may jump -/
def hr_run (o d : Nat) : List (Instr × Nat) → Nat → PL → List Value → PM → Option (Prop × PS)
  | [], pc, ls, st, M => some (True, pc, ls, st, M)
  | (i, n) :: is, pc, ls, st, M => match hr_ln i n && hr_jok pc i with
    | false => none
    | true => match hr_step o d i pc ls st M with
      | none => none
      | some (g, pc', ls', st', M') => match is with
        | [] => some (match g with | some p => p ∧ True | none => True, pc', ls', st', M')
        | _ :: _ => if pc' = pc + n then match hr_run o d is pc' ls' st' M' with
          | none => none
          | some (q, s') => some (match g with | some p => p ∧ q | none => q, s')
          else none
def hr_ret (rt : Option FieldType) (i : Instr) (st : List Value) : Option (Prop × Option Value) := match i with
  | .ireturn => match st with
    | [.int v] => match rt with
      | some .int => some (True, some (.int v))
      | some .boolean => some (v = 0 ∨ v = 1, some (.int v))
      | _ => none
    | _ => none
  | .lreturn => match st with
    | [.long v] => match rt with
      | some .long => some (True, some (.long v))
      | _ => none
    | _ => none
  | .areturn => match st with
    | [.ref v] => match rt with
      | some (.object _) => some (True, some (.ref v))
      | _ => none
    | [.null] => match rt with
      | some (.object _) => some (True, some .null)
      | _ => none
    | _ => none
  | .return_ => match st with
    | [] => match rt with
      | none => some (True, none)
      | _ => none
    | _ => none
  | _ => none
def hr_call (o : Nat) (i : Instr) : Option (Nat × Nat) := match i with
  | .invokestatic idx => match hr_ml o idx with
    | some (1, m, _) => some (1, m)
    | some (2, m, _) => some (2, m)
    | _ => none
  | .invokevirtual idx => match hr_ml o idx with
    | some (0, m, _) => some (0, m)
    | _ => none
  | _ => none
/-- the locals with which a method begins -/
def hr_ent1 : List Value → PL
  | [] => []
  | v :: vs => match v with
    | .long x => some (.long x) :: none :: hr_ent1 vs
    | .double x => some (.double x) :: none :: hr_ent1 vs
    | v => some v :: hr_ent1 vs
def hr_ent (n : Nat) (vs : List Value) : PL := hr_ent1 vs ++ List.replicate (n - (hr_ent1 vs).length) none
def hr_kd (o : Nat) : Nat := [0, 1, 2, 19, 3, 4, 5, 6, 7, 8, 9, 10].getD o 98
abbrev hr_mV (m : Nat) : Nat := (hr_m m).2.2.1
abbrev hr_mR (m : Nat) : Option FieldType := (hr_m m).2.2.2.1
abbrev hr_mO (m : Nat) : Nat := (hr_m m).2.2.2.2.1
abbrev hr_mD (m : Nat) : Nat := (hr_m m).2.2.2.2.2.1
abbrev hr_mP (m : Nat) : Nat := (hr_m m).2.2.2.2.2.2.1
abbrev hr_mB (m : Nat) : hr_Bk := (hr_m m).2.2.2.2.2.2.2
/-- what is known of a call without a look at values: how many arguments, how deep, how much below -/
def hr_sta (m m' : Nat) (as rest : List Value) (k : Nat) : Bool := decide (as.length = hr_mP m' + k) && (decide (hr_mD m' < hr_mD m) && (decide (hr_cat rest ≤ 8) && decide ((hr_ent1 as).length ≤ hr_mV m')))
/-- fewer locals are known -/
def hr_le : PL → PL → Prop
  | [], [] => True
  | none :: a, _ :: b => hr_le a b
  | some v :: a, w :: b => some v = w ∧ hr_le a b
  | _, _ => False
/-- a whole run, with fuel: from a block's beginning to the method's end; on the way locals may be forgotten -/
def hr_ex : Nat → Nat → Nat → PL → List Value → PM → Option Value × PM → Prop
  | 0, _, _, _, _, _, _ => False
  | n + 1, m, pc, lsx, st, M, r => ∃ ls : PL, hr_le ls lsx ∧ match (hr_mB m).lookup pc with
    | none => False
    | some [] => False
    | some ((i, len) :: is) => match hr_ln i len with
      | false => False
      | true => match hr_ret (hr_mR m) i st with
        | some (g, v) => g ∧ r = (v, M)
        | none => match hr_call (hr_mO m) i with
          | some (0, m') => match st.drop (hr_mP m') with
            | .ref b :: rest => hr_sta m m' (.ref b :: (st.take (hr_mP m')).reverse) rest 1 = true ∧ hr_K b = hr_kd (hr_mO m') ∧ ∃ v M1, hr_ex n m' 0 (hr_ent (hr_mV m') (.ref b :: (st.take (hr_mP m')).reverse)) [] M (v, M1) ∧ hr_ex n m (pc + 3) ls (v.toList ++ rest) M1 r
            | _ => False
          | some (_ + 1, m') => hr_sta m m' (st.take (hr_mP m')).reverse (st.drop (hr_mP m')) 0 = true ∧ ∃ v M1, hr_ex n m' 0 (hr_ent (hr_mV m') (st.take (hr_mP m')).reverse) [] M (v, M1) ∧ hr_ex n m (pc + 3) ls (v.toList ++ st.drop (hr_mP m')) M1 r
          | none => match hr_run (hr_mO m) (hr_mD m) ((i, len) :: is) pc ls st M with
            | none => False
            | some (p, pc', ls', st', M') => p ∧ hr_ex n m pc' ls' st' M' r
