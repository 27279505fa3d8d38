/-! THE WORLD as it is made (printed by gen50.py) -/
/-- ints at the start -/
def hr_i0 (a : Nat) : Nat → Int32 :=
  bif Nat.ble 305 a then hr_s0 a
  else bif Nat.beq a 265 then upd (upd (upd (upd (fun _ => 0) 0 (-1)) 1 (-1)) 2 (-1)) 3 (-1)
  else bif Nat.beq a 279 then upd (fun _ => 0) 0 (-1)
  else bif Nat.beq a 240 then fun k => bif Nat.beq k 8 then -1 else bif Nat.beq k 13 then -1 else 0
  else bif Nat.beq (hr_K a) 5 then fun k => bif Nat.beq k 1 then 10 else 0
  else bif Nat.beq (hr_K a) 7 then fun k => bif Nat.beq k 3 then -1 else 0
  else fun _ => 0
def hr_M0 : PM := (hr_i0, fun _ _ => 0, 237)
/-- a row of references, as it is filled -/
def hr_qup (G : PG) (k a : Nat) : Nat → Nat → Option Nat
  | 0 => fun _ => none
  | n + 1 => va_up (hr_qup G k a n) n (some (G.2.2.1 + hr_el k a n))
def hr_isq (a : Nat) : Bool := Nat.ble 15 (hr_K a) && Nat.ble (hr_K a) 17
def hr_wc0 (G : PG) (a : Nat) : va_E := bif hr_isq a then .inl (G.2.1 (hr_K a - 11), hr_N a, .inr (.inr (.inr (.inr (hr_qup G (hr_K a) a (hr_N a)))))) else hr_cell G hr_M0 a
def hr_bk (G : PG) (c n : Nat) : va_W := (List.range n).map (fun i => (G.2.2.1 + (c + i), hr_wc0 G (c + i)))
theorem hr_bk_app (G : PG) (c n m : Nat) : hr_bk G c (n + m) = hr_bk G c n ++ hr_bk G (c + n) m := by
  unfold hr_bk
  rw [List.range_add, List.map_append, List.map_map]
  congr 1
  apply List.map_congr_left
  intro i _
  show (G.2.2.1 + (c + (n + i)), hr_wc0 G (c + (n + i))) = (G.2.2.1 + (c + n + i), hr_wc0 G (c + n + i))
  rw [Nat.add_assoc c n i]
section WLD
variable (G : PG)
set_option maxRecDepth 8000
theorem hr_w8o_1 : ([((G.2.2.1 + 1), .inr (7, [.ref ((G.2.2.1 + 1) + 1), .int 0, .int 0, .int (-1), .ref ((G.2.2.1 + 1) + 2), .ref ((G.2.2.1 + 1) + 3), .ref ((G.2.2.1 + 1) + 4)])), ((G.2.2.1 + 1) + 1, .inl (G.2.1 0, 600, .inl fun _ => 0)), ((G.2.2.1 + 1) + 2, .inl (G.2.1 1, 5, .inl fun _ => 0)), ((G.2.2.1 + 1) + 3, .inl (G.2.1 4, 2, .inr (.inr (.inr (.inr (va_up (va_up (fun _ => none) 0 (some ((G.2.2.1 + 1) + 5))) 1 (some ((G.2.2.1 + 1) + 14)))))))), ((G.2.2.1 + 1) + 4, .inl (G.2.1 5, 8, .inr (.inr (.inr (.inr (va_up (va_up (va_up (va_up (va_up (va_up (va_up (va_up (fun _ => none) 0 (some ((G.2.2.1 + 1) + 23))) 1 (some ((G.2.2.1 + 1) + 27))) 2 (some ((G.2.2.1 + 1) + 31))) 3 (some ((G.2.2.1 + 1) + 35))) 4 (some ((G.2.2.1 + 1) + 39))) 5 (some ((G.2.2.1 + 1) + 43))) 6 (some ((G.2.2.1 + 1) + 47))) 7 (some ((G.2.2.1 + 1) + 51))))))))] : va_W) = hr_bk G 1 5 := rfl
theorem hr_w4_6 : hr_oX4 G (G.2.2.1 + 1 + 5) = hr_bk G 6 9 := rfl
theorem hr_w4_15 : hr_oX4 G (G.2.2.1 + 1 + 14) = hr_bk G 15 9 := rfl
theorem hr_w6_24 : hr_oX6 G (G.2.2.1 + 1 + 23) = hr_bk G 24 4 := rfl
theorem hr_w6_28 : hr_oX6 G (G.2.2.1 + 1 + 27) = hr_bk G 28 4 := rfl
theorem hr_w6_32 : hr_oX6 G (G.2.2.1 + 1 + 31) = hr_bk G 32 4 := rfl
theorem hr_w6_36 : hr_oX6 G (G.2.2.1 + 1 + 35) = hr_bk G 36 4 := rfl
theorem hr_w6_40 : hr_oX6 G (G.2.2.1 + 1 + 39) = hr_bk G 40 4 := rfl
theorem hr_w6_44 : hr_oX6 G (G.2.2.1 + 1 + 43) = hr_bk G 44 4 := rfl
theorem hr_w6_48 : hr_oX6 G (G.2.2.1 + 1 + 47) = hr_bk G 48 4 := rfl
theorem hr_w6_52 : hr_oX6 G (G.2.2.1 + 1 + 51) = hr_bk G 52 4 := rfl
theorem hr_w8_1 : hr_oX8 G (G.2.2.1 + 1) = hr_bk G 1 55 := by
  unfold hr_oX8
  rw [hr_w8o_1, hr_w4_6, hr_w4_15, hr_w6_24, hr_w6_28, hr_w6_32, hr_w6_36, hr_w6_40, hr_w6_44, hr_w6_48, hr_w6_52]
  rw [show hr_bk G 1 5 ++ hr_bk G 6 9 = hr_bk G 1 14 from (hr_bk_app G 1 5 9).symm]
  rw [show hr_bk G 1 14 ++ hr_bk G 15 9 = hr_bk G 1 23 from (hr_bk_app G 1 14 9).symm]
  rw [show hr_bk G 1 23 ++ hr_bk G 24 4 = hr_bk G 1 27 from (hr_bk_app G 1 23 4).symm]
  rw [show hr_bk G 1 27 ++ hr_bk G 28 4 = hr_bk G 1 31 from (hr_bk_app G 1 27 4).symm]
  rw [show hr_bk G 1 31 ++ hr_bk G 32 4 = hr_bk G 1 35 from (hr_bk_app G 1 31 4).symm]
  rw [show hr_bk G 1 35 ++ hr_bk G 36 4 = hr_bk G 1 39 from (hr_bk_app G 1 35 4).symm]
  rw [show hr_bk G 1 39 ++ hr_bk G 40 4 = hr_bk G 1 43 from (hr_bk_app G 1 39 4).symm]
  rw [show hr_bk G 1 43 ++ hr_bk G 44 4 = hr_bk G 1 47 from (hr_bk_app G 1 43 4).symm]
  rw [show hr_bk G 1 47 ++ hr_bk G 48 4 = hr_bk G 1 51 from (hr_bk_app G 1 47 4).symm]
  rw [show hr_bk G 1 51 ++ hr_bk G 52 4 = hr_bk G 1 55 from (hr_bk_app G 1 51 4).symm]
theorem hr_w8o_57 : ([((G.2.2.1 + 57), .inr (7, [.ref ((G.2.2.1 + 57) + 1), .int 0, .int 0, .int (-1), .ref ((G.2.2.1 + 57) + 2), .ref ((G.2.2.1 + 57) + 3), .ref ((G.2.2.1 + 57) + 4)])), ((G.2.2.1 + 57) + 1, .inl (G.2.1 0, 600, .inl fun _ => 0)), ((G.2.2.1 + 57) + 2, .inl (G.2.1 1, 5, .inl fun _ => 0)), ((G.2.2.1 + 57) + 3, .inl (G.2.1 4, 2, .inr (.inr (.inr (.inr (va_up (va_up (fun _ => none) 0 (some ((G.2.2.1 + 57) + 5))) 1 (some ((G.2.2.1 + 57) + 14)))))))), ((G.2.2.1 + 57) + 4, .inl (G.2.1 5, 8, .inr (.inr (.inr (.inr (va_up (va_up (va_up (va_up (va_up (va_up (va_up (va_up (fun _ => none) 0 (some ((G.2.2.1 + 57) + 23))) 1 (some ((G.2.2.1 + 57) + 27))) 2 (some ((G.2.2.1 + 57) + 31))) 3 (some ((G.2.2.1 + 57) + 35))) 4 (some ((G.2.2.1 + 57) + 39))) 5 (some ((G.2.2.1 + 57) + 43))) 6 (some ((G.2.2.1 + 57) + 47))) 7 (some ((G.2.2.1 + 57) + 51))))))))] : va_W) = hr_bk G 57 5 := rfl
theorem hr_w4_62 : hr_oX4 G (G.2.2.1 + 57 + 5) = hr_bk G 62 9 := rfl
theorem hr_w4_71 : hr_oX4 G (G.2.2.1 + 57 + 14) = hr_bk G 71 9 := rfl
theorem hr_w6_80 : hr_oX6 G (G.2.2.1 + 57 + 23) = hr_bk G 80 4 := rfl
theorem hr_w6_84 : hr_oX6 G (G.2.2.1 + 57 + 27) = hr_bk G 84 4 := rfl
theorem hr_w6_88 : hr_oX6 G (G.2.2.1 + 57 + 31) = hr_bk G 88 4 := rfl
theorem hr_w6_92 : hr_oX6 G (G.2.2.1 + 57 + 35) = hr_bk G 92 4 := rfl
theorem hr_w6_96 : hr_oX6 G (G.2.2.1 + 57 + 39) = hr_bk G 96 4 := rfl
theorem hr_w6_100 : hr_oX6 G (G.2.2.1 + 57 + 43) = hr_bk G 100 4 := rfl
theorem hr_w6_104 : hr_oX6 G (G.2.2.1 + 57 + 47) = hr_bk G 104 4 := rfl
theorem hr_w6_108 : hr_oX6 G (G.2.2.1 + 57 + 51) = hr_bk G 108 4 := rfl
theorem hr_w8_57 : hr_oX8 G (G.2.2.1 + 57) = hr_bk G 57 55 := by
  unfold hr_oX8
  rw [hr_w8o_57, hr_w4_62, hr_w4_71, hr_w6_80, hr_w6_84, hr_w6_88, hr_w6_92, hr_w6_96, hr_w6_100, hr_w6_104, hr_w6_108]
  rw [show hr_bk G 57 5 ++ hr_bk G 62 9 = hr_bk G 57 14 from (hr_bk_app G 57 5 9).symm]
  rw [show hr_bk G 57 14 ++ hr_bk G 71 9 = hr_bk G 57 23 from (hr_bk_app G 57 14 9).symm]
  rw [show hr_bk G 57 23 ++ hr_bk G 80 4 = hr_bk G 57 27 from (hr_bk_app G 57 23 4).symm]
  rw [show hr_bk G 57 27 ++ hr_bk G 84 4 = hr_bk G 57 31 from (hr_bk_app G 57 27 4).symm]
  rw [show hr_bk G 57 31 ++ hr_bk G 88 4 = hr_bk G 57 35 from (hr_bk_app G 57 31 4).symm]
  rw [show hr_bk G 57 35 ++ hr_bk G 92 4 = hr_bk G 57 39 from (hr_bk_app G 57 35 4).symm]
  rw [show hr_bk G 57 39 ++ hr_bk G 96 4 = hr_bk G 57 43 from (hr_bk_app G 57 39 4).symm]
  rw [show hr_bk G 57 43 ++ hr_bk G 100 4 = hr_bk G 57 47 from (hr_bk_app G 57 43 4).symm]
  rw [show hr_bk G 57 47 ++ hr_bk G 104 4 = hr_bk G 57 51 from (hr_bk_app G 57 47 4).symm]
  rw [show hr_bk G 57 51 ++ hr_bk G 108 4 = hr_bk G 57 55 from (hr_bk_app G 57 51 4).symm]
theorem hr_w8o_112 : ([((G.2.2.1 + 112), .inr (7, [.ref ((G.2.2.1 + 112) + 1), .int 0, .int 0, .int (-1), .ref ((G.2.2.1 + 112) + 2), .ref ((G.2.2.1 + 112) + 3), .ref ((G.2.2.1 + 112) + 4)])), ((G.2.2.1 + 112) + 1, .inl (G.2.1 0, 600, .inl fun _ => 0)), ((G.2.2.1 + 112) + 2, .inl (G.2.1 1, 5, .inl fun _ => 0)), ((G.2.2.1 + 112) + 3, .inl (G.2.1 4, 2, .inr (.inr (.inr (.inr (va_up (va_up (fun _ => none) 0 (some ((G.2.2.1 + 112) + 5))) 1 (some ((G.2.2.1 + 112) + 14)))))))), ((G.2.2.1 + 112) + 4, .inl (G.2.1 5, 8, .inr (.inr (.inr (.inr (va_up (va_up (va_up (va_up (va_up (va_up (va_up (va_up (fun _ => none) 0 (some ((G.2.2.1 + 112) + 23))) 1 (some ((G.2.2.1 + 112) + 27))) 2 (some ((G.2.2.1 + 112) + 31))) 3 (some ((G.2.2.1 + 112) + 35))) 4 (some ((G.2.2.1 + 112) + 39))) 5 (some ((G.2.2.1 + 112) + 43))) 6 (some ((G.2.2.1 + 112) + 47))) 7 (some ((G.2.2.1 + 112) + 51))))))))] : va_W) = hr_bk G 112 5 := rfl
theorem hr_w4_117 : hr_oX4 G (G.2.2.1 + 112 + 5) = hr_bk G 117 9 := rfl
theorem hr_w4_126 : hr_oX4 G (G.2.2.1 + 112 + 14) = hr_bk G 126 9 := rfl
theorem hr_w6_135 : hr_oX6 G (G.2.2.1 + 112 + 23) = hr_bk G 135 4 := rfl
theorem hr_w6_139 : hr_oX6 G (G.2.2.1 + 112 + 27) = hr_bk G 139 4 := rfl
theorem hr_w6_143 : hr_oX6 G (G.2.2.1 + 112 + 31) = hr_bk G 143 4 := rfl
theorem hr_w6_147 : hr_oX6 G (G.2.2.1 + 112 + 35) = hr_bk G 147 4 := rfl
theorem hr_w6_151 : hr_oX6 G (G.2.2.1 + 112 + 39) = hr_bk G 151 4 := rfl
theorem hr_w6_155 : hr_oX6 G (G.2.2.1 + 112 + 43) = hr_bk G 155 4 := rfl
theorem hr_w6_159 : hr_oX6 G (G.2.2.1 + 112 + 47) = hr_bk G 159 4 := rfl
theorem hr_w6_163 : hr_oX6 G (G.2.2.1 + 112 + 51) = hr_bk G 163 4 := rfl
theorem hr_w8_112 : hr_oX8 G (G.2.2.1 + 112) = hr_bk G 112 55 := by
  unfold hr_oX8
  rw [hr_w8o_112, hr_w4_117, hr_w4_126, hr_w6_135, hr_w6_139, hr_w6_143, hr_w6_147, hr_w6_151, hr_w6_155, hr_w6_159, hr_w6_163]
  rw [show hr_bk G 112 5 ++ hr_bk G 117 9 = hr_bk G 112 14 from (hr_bk_app G 112 5 9).symm]
  rw [show hr_bk G 112 14 ++ hr_bk G 126 9 = hr_bk G 112 23 from (hr_bk_app G 112 14 9).symm]
  rw [show hr_bk G 112 23 ++ hr_bk G 135 4 = hr_bk G 112 27 from (hr_bk_app G 112 23 4).symm]
  rw [show hr_bk G 112 27 ++ hr_bk G 139 4 = hr_bk G 112 31 from (hr_bk_app G 112 27 4).symm]
  rw [show hr_bk G 112 31 ++ hr_bk G 143 4 = hr_bk G 112 35 from (hr_bk_app G 112 31 4).symm]
  rw [show hr_bk G 112 35 ++ hr_bk G 147 4 = hr_bk G 112 39 from (hr_bk_app G 112 35 4).symm]
  rw [show hr_bk G 112 39 ++ hr_bk G 151 4 = hr_bk G 112 43 from (hr_bk_app G 112 39 4).symm]
  rw [show hr_bk G 112 43 ++ hr_bk G 155 4 = hr_bk G 112 47 from (hr_bk_app G 112 43 4).symm]
  rw [show hr_bk G 112 47 ++ hr_bk G 159 4 = hr_bk G 112 51 from (hr_bk_app G 112 47 4).symm]
  rw [show hr_bk G 112 51 ++ hr_bk G 163 4 = hr_bk G 112 55 from (hr_bk_app G 112 51 4).symm]
theorem hr_w8o_167 : ([((G.2.2.1 + 167), .inr (7, [.ref ((G.2.2.1 + 167) + 1), .int 0, .int 0, .int (-1), .ref ((G.2.2.1 + 167) + 2), .ref ((G.2.2.1 + 167) + 3), .ref ((G.2.2.1 + 167) + 4)])), ((G.2.2.1 + 167) + 1, .inl (G.2.1 0, 600, .inl fun _ => 0)), ((G.2.2.1 + 167) + 2, .inl (G.2.1 1, 5, .inl fun _ => 0)), ((G.2.2.1 + 167) + 3, .inl (G.2.1 4, 2, .inr (.inr (.inr (.inr (va_up (va_up (fun _ => none) 0 (some ((G.2.2.1 + 167) + 5))) 1 (some ((G.2.2.1 + 167) + 14)))))))), ((G.2.2.1 + 167) + 4, .inl (G.2.1 5, 8, .inr (.inr (.inr (.inr (va_up (va_up (va_up (va_up (va_up (va_up (va_up (va_up (fun _ => none) 0 (some ((G.2.2.1 + 167) + 23))) 1 (some ((G.2.2.1 + 167) + 27))) 2 (some ((G.2.2.1 + 167) + 31))) 3 (some ((G.2.2.1 + 167) + 35))) 4 (some ((G.2.2.1 + 167) + 39))) 5 (some ((G.2.2.1 + 167) + 43))) 6 (some ((G.2.2.1 + 167) + 47))) 7 (some ((G.2.2.1 + 167) + 51))))))))] : va_W) = hr_bk G 167 5 := rfl
theorem hr_w4_172 : hr_oX4 G (G.2.2.1 + 167 + 5) = hr_bk G 172 9 := rfl
theorem hr_w4_181 : hr_oX4 G (G.2.2.1 + 167 + 14) = hr_bk G 181 9 := rfl
theorem hr_w6_190 : hr_oX6 G (G.2.2.1 + 167 + 23) = hr_bk G 190 4 := rfl
theorem hr_w6_194 : hr_oX6 G (G.2.2.1 + 167 + 27) = hr_bk G 194 4 := rfl
theorem hr_w6_198 : hr_oX6 G (G.2.2.1 + 167 + 31) = hr_bk G 198 4 := rfl
theorem hr_w6_202 : hr_oX6 G (G.2.2.1 + 167 + 35) = hr_bk G 202 4 := rfl
theorem hr_w6_206 : hr_oX6 G (G.2.2.1 + 167 + 39) = hr_bk G 206 4 := rfl
theorem hr_w6_210 : hr_oX6 G (G.2.2.1 + 167 + 43) = hr_bk G 210 4 := rfl
theorem hr_w6_214 : hr_oX6 G (G.2.2.1 + 167 + 47) = hr_bk G 214 4 := rfl
theorem hr_w6_218 : hr_oX6 G (G.2.2.1 + 167 + 51) = hr_bk G 218 4 := rfl
theorem hr_w8_167 : hr_oX8 G (G.2.2.1 + 167) = hr_bk G 167 55 := by
  unfold hr_oX8
  rw [hr_w8o_167, hr_w4_172, hr_w4_181, hr_w6_190, hr_w6_194, hr_w6_198, hr_w6_202, hr_w6_206, hr_w6_210, hr_w6_214, hr_w6_218]
  rw [show hr_bk G 167 5 ++ hr_bk G 172 9 = hr_bk G 167 14 from (hr_bk_app G 167 5 9).symm]
  rw [show hr_bk G 167 14 ++ hr_bk G 181 9 = hr_bk G 167 23 from (hr_bk_app G 167 14 9).symm]
  rw [show hr_bk G 167 23 ++ hr_bk G 190 4 = hr_bk G 167 27 from (hr_bk_app G 167 23 4).symm]
  rw [show hr_bk G 167 27 ++ hr_bk G 194 4 = hr_bk G 167 31 from (hr_bk_app G 167 27 4).symm]
  rw [show hr_bk G 167 31 ++ hr_bk G 198 4 = hr_bk G 167 35 from (hr_bk_app G 167 31 4).symm]
  rw [show hr_bk G 167 35 ++ hr_bk G 202 4 = hr_bk G 167 39 from (hr_bk_app G 167 35 4).symm]
  rw [show hr_bk G 167 39 ++ hr_bk G 206 4 = hr_bk G 167 43 from (hr_bk_app G 167 39 4).symm]
  rw [show hr_bk G 167 43 ++ hr_bk G 210 4 = hr_bk G 167 47 from (hr_bk_app G 167 43 4).symm]
  rw [show hr_bk G 167 47 ++ hr_bk G 214 4 = hr_bk G 167 51 from (hr_bk_app G 167 47 4).symm]
  rw [show hr_bk G 167 51 ++ hr_bk G 218 4 = hr_bk G 167 55 from (hr_bk_app G 167 51 4).symm]
theorem hr_w5a : ([((G.2.2.1 + 223), .inr (4, [.ref ((G.2.2.1 + 223) + 1), .ref ((G.2.2.1 + 223) + 10), .int 0, .int 0, .ref ((G.2.2.1 + 223) + 14), .int 0, .int 0, .int 0, .int 0, .int 0, .ref ((G.2.2.1 + 223) + 15), .ref ((G.2.2.1 + 223) + 16), .int 0, .int 0, .int 0]))] : va_W) = hr_bk G 223 1 := rfl
theorem hr_w4_224 : hr_oX4 G (G.2.2.1 + 223 + 1) = hr_bk G 224 9 := rfl
theorem hr_w6_233 : hr_oX6 G (G.2.2.1 + 223 + 10) = hr_bk G 233 4 := rfl
theorem hr_w5b : ([((G.2.2.1 + 223) + 14, .inl (G.2.1 0, 0, .inl fun _ => 0)), ((G.2.2.1 + 223) + 15, .inl (G.2.1 1, 3, .inl fun _ => 0)), ((G.2.2.1 + 223) + 16, .inl (G.2.1 1, 3, .inl fun _ => 0))] : va_W) = hr_bk G 237 3 := rfl
theorem hr_w5_223 : hr_oX5 G (G.2.2.1 + 223) = hr_bk G 223 17 := by
  unfold hr_oX5
  rw [hr_w5a, hr_w4_224, hr_w6_233, hr_w5b]
  rw [show hr_bk G 223 1 ++ hr_bk G 224 9 = hr_bk G 223 10 from (hr_bk_app G 223 1 9).symm]
  rw [show hr_bk G 223 10 ++ hr_bk G 233 4 = hr_bk G 223 14 from (hr_bk_app G 223 10 4).symm]
  rw [show hr_bk G 223 14 ++ hr_bk G 237 3 = hr_bk G 223 17 from (hr_bk_app G 223 14 3).symm]
theorem hr_wX1_240 : hr_oX1 G (G.2.2.1 + 240) = hr_bk G 240 9 := rfl
theorem hr_wX9_249 : hr_oX9 G (G.2.2.1 + 249) = hr_bk G 249 8 := rfl
theorem hr_wX0_257 : hr_oX0 G (G.2.2.1 + 257) = hr_bk G 257 7 := rfl
theorem hr_wX2_264 : hr_oX2 G (G.2.2.1 + 264) = hr_bk G 264 7 := rfl
theorem hr_wX7_271 : hr_oX7 G (G.2.2.1 + 271) = hr_bk G 271 4 := rfl
theorem hr_wM : hr_oX11 G (G.2.2.1 + 275) = hr_bk G 275 30 := rfl
theorem hr_w10_0 : ([(G.2.2.1, .inr (9, [.ref (G.2.2.1 + 1), .ref (G.2.2.1 + 56), .ref (G.2.2.1 + 222), .ref (G.2.2.1 + 223), .ref (G.2.2.1 + 240), .ref (G.2.2.1 + 249), .ref (G.2.2.1 + 257), .ref (G.2.2.1 + 264), .ref (G.2.2.1 + 271)]))] : va_W) = hr_bk G 0 1 := rfl
theorem hr_w10_56 : ([(G.2.2.1 + 56, .inl (G.2.1 6, 3, .inr (.inr (.inr (.inr (va_up (va_up (va_up (fun _ => none) 0 (some (G.2.2.1 + 57))) 1 (some (G.2.2.1 + 112))) 2 (some (G.2.2.1 + 167))))))))] : va_W) = hr_bk G 56 1 := rfl
theorem hr_w10_222 : ([(G.2.2.1 + 222, .inl (G.2.1 3, 3, .inl fun _ => 0))] : va_W) = hr_bk G 222 1 := rfl
theorem hr_cons_eq (x : Nat × va_E) (t : va_W) : x :: t = [x] ++ t := rfl
theorem hr_w10 : hr_oX10 G G.2.2.1 = hr_bk G 0 275 := by
  unfold hr_oX10 hr_sX10_24
  rw [hr_cons_eq (G.2.2.1, .inr (9, [.ref (G.2.2.1 + 1), .ref (G.2.2.1 + 56), .ref (G.2.2.1 + 222), .ref (G.2.2.1 + 223), .ref (G.2.2.1 + 240), .ref (G.2.2.1 + 249), .ref (G.2.2.1 + 257), .ref (G.2.2.1 + 264), .ref (G.2.2.1 + 271)])), hr_cons_eq (G.2.2.1 + 56, .inl (G.2.1 6, 3, .inr (.inr (.inr (.inr (va_up (va_up (va_up (fun _ => none) 0 (some (G.2.2.1 + 57))) 1 (some (G.2.2.1 + 112))) 2 (some (G.2.2.1 + 167)))))))), hr_cons_eq (G.2.2.1 + 222, .inl (G.2.1 3, 3, .inl fun _ => 0))]
  rw [hr_w10_0, hr_w8_1, hr_w10_56, hr_w8_57, hr_w8_112, hr_w8_167, hr_w10_222, hr_w5_223, hr_wX1_240, hr_wX9_249, hr_wX0_257, hr_wX2_264, hr_wX7_271]
  rw [show hr_bk G 264 7 ++ hr_bk G 271 4 = hr_bk G 264 11 from (hr_bk_app G 264 7 4).symm]
  rw [show hr_bk G 257 7 ++ hr_bk G 264 11 = hr_bk G 257 18 from (hr_bk_app G 257 7 11).symm]
  rw [show hr_bk G 249 8 ++ hr_bk G 257 18 = hr_bk G 249 26 from (hr_bk_app G 249 8 18).symm]
  rw [show hr_bk G 240 9 ++ hr_bk G 249 26 = hr_bk G 240 35 from (hr_bk_app G 240 9 26).symm]
  rw [show hr_bk G 223 17 ++ hr_bk G 240 35 = hr_bk G 223 52 from (hr_bk_app G 223 17 35).symm]
  rw [show hr_bk G 222 1 ++ hr_bk G 223 52 = hr_bk G 222 53 from (hr_bk_app G 222 1 52).symm]
  rw [show hr_bk G 167 55 ++ hr_bk G 222 53 = hr_bk G 167 108 from (hr_bk_app G 167 55 53).symm]
  rw [show hr_bk G 112 55 ++ hr_bk G 167 108 = hr_bk G 112 163 from (hr_bk_app G 112 55 108).symm]
  rw [show hr_bk G 57 55 ++ hr_bk G 112 163 = hr_bk G 57 218 from (hr_bk_app G 57 55 163).symm]
  rw [show hr_bk G 56 1 ++ hr_bk G 57 218 = hr_bk G 56 219 from (hr_bk_app G 56 1 218).symm]
  rw [show hr_bk G 1 55 ++ hr_bk G 56 219 = hr_bk G 1 274 from (hr_bk_app G 1 55 219).symm]
  rw [show hr_bk G 0 1 ++ hr_bk G 1 274 = hr_bk G 0 275 from (hr_bk_app G 0 1 274).symm]
theorem hr_wAll : hr_oX10 G G.2.2.1 ++ hr_oX11 G (G.2.2.1 + 275) = hr_bk G 0 305 := by
  rw [hr_w10, hr_wM]
  exact (hr_bk_app G 0 275 30).symm
end WLD
theorem hr_qup_at (G : PG) (k a : Nat) : ∀ n j, j < n → hr_qup G k a n j = some (G.2.2.1 + hr_el k a j) := by
  intro n
  induction n with
  | zero => intro j h; omega
  | succ n ih =>
    intro j h
    show va_up (hr_qup G k a n) n (some (G.2.2.1 + hr_el k a n)) j = _
    unfold va_up
    by_cases e : j = n
    · rw [if_pos e, e]
    · rw [if_neg e, ih j (by omega)]
theorem hr_el_lt : ∀ a, a < 305 → hr_isq a = true → ∀ j, j < hr_N a → hr_el (hr_K a) a j < 305 := by decide +kernel
theorem hr_arr_cg (cA : ClassId) (n : Nat) {f g : Nat → Value} (e : ∀ j, j < n → f j = g j) : arrV cA n f = arrV cA n g := by
  unfold arrV
  have : (Array.ofFn (n := n) fun j => f j.val) = Array.ofFn (n := n) fun j => g j.val := by
    congr 1
    funext j
    exact e j.val j.isLt
  rw [this]
/-- the constructors' cells are the first memory -/
theorem hr_P0 (G : PG) {H : Heap} (h : va_P G.1 vwCl (hr_oX10 G G.2.2.1 ++ hr_oX11 G (G.2.2.1 + 275)) H) : va_P G.1 vwCl (hr_W G hr_M0) H := by
  rw [hr_wAll] at h
  intro k q hk
  have hi := (hr_Wi hk).1
  have hi5 : k < 305 := hi
  rw [hr_Wg G hr_M0 hi] at hk
  cases hk
  have h1 := h k (G.2.2.1 + (0 + k), hr_wc0 G (0 + k)) (by unfold hr_bk; rw [List.getElem?_map, List.getElem?_range hi5]; rfl)
  rw [Nat.zero_add] at h1
  cases hq : hr_isq k with
  | true =>
    have e1 : hr_wc0 G k = .inl (G.2.1 (hr_K k - 11), hr_N k, .inr (.inr (.inr (.inr (hr_qup G (hr_K k) k (hr_N k)))))) := by unfold hr_wc0; rw [hq]; rfl
    have hk2 : 15 ≤ hr_K k ∧ hr_K k ≤ 17 := by
      unfold hr_isq at hq
      rw [Bool.and_eq_true] at hq
      exact ⟨Nat.le_of_ble_eq_true hq.1, Nat.le_of_ble_eq_true hq.2⟩
    have e2 : hr_cell G hr_M0 k = .inl (G.2.1 (hr_K k - 11), hr_N k, .inr (.inr (.inr (.inr (fun j => some (hr_rad G (hr_el (hr_K k) k j))))))) := by
      unfold hr_cell
      rw [if_neg (by omega), if_neg (by omega), if_neg (by omega), if_neg (by omega), if_neg (by omega)]
    rw [e1] at h1
    rw [e2]
    have h2 : H[G.2.2.1 + k]? = some (vp_cell (G.2.1 (hr_K k - 11)) (hr_N k, .inr (.inr (.inr (.inr (hr_qup G (hr_K k) k (hr_N k))))))) := h1
    show H[G.2.2.1 + k]? = some (vp_cell (G.2.1 (hr_K k - 11)) (hr_N k, .inr (.inr (.inr (.inr (fun j => some (hr_rad G (hr_el (hr_K k) k j))))))))
    rw [h2, vp_cell_q, vp_cell_q]
    congr 1
    refine hr_arr_cg _ _ (fun j hj => ?_)
    rw [hr_qup_at G _ _ _ j hj, hr_rad_lt G (show hr_el (hr_K k) k j < hr_n from hr_el_lt k hi5 hq j hj)]
  | false =>
    have e1 : hr_wc0 G k = hr_cell G hr_M0 k := by unfold hr_wc0; rw [hq]; rfl
    rw [← e1]
    exact h1
