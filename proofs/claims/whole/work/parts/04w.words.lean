/-! the words of each method, by their places in the tables; the links of the calls -/
def hr_GT : List Jvm.Cond := lw_tbl.filter goodWord
theorem hr_GT_1 {w : Jvm.Cond} {i : Nat} (h : tables_1[i]? = some w) (hg : goodWord w = true) : w ∈ hr_GT := List.mem_filter.mpr ⟨List.mem_append_right _ (List.mem_of_getElem? h), hg⟩
theorem hr_lookup {β : Type} {i : Nat} {v : β} : ∀ {l : List (Nat × β)}, l.lookup i = some v → (i, v) ∈ l
  | [], h => by cases h
  | (j, w) :: l, h => by
    rw [List.lookup_cons] at h
    by_cases e : i = j
    · subst e
      simp at h
      rw [h]
      exact List.mem_cons_self
    · have e' : (i == j) = false := by simpa using e
      rw [e'] at h
      exact List.mem_cons_of_mem _ (hr_lookup h)
theorem hr_ml_o {o i k m w : Nat} (h : hr_ml o i = some (k, m, w)) : o < 14 ∧ (i, k, m, w) ∈ hr_mlT.getD o [] := by
  have hm := hr_lookup h
  refine ⟨?_, hm⟩
  rcases Nat.lt_or_ge o 14 with q | q
  · exact q
  · rw [List.getD_eq_getElem?_getD, List.getElem?_eq_none (show hr_mlT.length ≤ o from q)] at hm
    cases hm
/-- the links of nest mates, that can't stand among a method's words -/
def hr_NW : List (String × Nat × MethodName) := [(RX0, 73, yX10_holdsBit), (RX1, 51, yX10_holdsBit), (RX1, 92, yX10_leastOf), (RX4, 66, yX10_holdsBit), (RX5, 105, yX10_holdsBit), (RX7, 40, yX10_holdsBit), (RX7, 95, yX10_leastOf), (RX9, 93, yX10_holdsBit)]
def hr_NF : List (String × Nat × String × String) := [(RX5, 137, "ROLL_LIMITS", "[I"), (RX5, 172, "LINES", "[LHueRash$Line;")]
def hr_T (j : Nat) : List Jvm.Cond := match j with
  | 0 => k2_sels lw_privs
  | 1 => tables_1_1
  | 2 => tables_1_2
  | 3 => tables_1_3
  | 4 => tables_1_4
  | 5 => tables_1_5
  | 6 => tables_1_6
  | 7 => tables_1_7
  | 8 => tables_1_8
  | _ => tables_1_9
theorem hr_T_in : ∀ (j : Nat) (w : Jvm.Cond), w ∈ hr_T j → w ∈ lw_tbl := by
  intro j w h
  unfold hr_T at h
  unfold lw_tbl tables_1
  simp only [List.mem_append]
  split at h <;> simp only [h, true_or, or_true]
abbrev hr_P2 : Type := Nat × Nat
def hr_at (q : hr_P2) (w : Jvm.Cond) : Bool := decide ((hr_T q.1)[q.2]? = some w) && goodWord w
theorem hr_at_in {q : hr_P2} {w : Jvm.Cond} (h : hr_at q w = true) : w ∈ hr_GT := by
  simp only [hr_at, Bool.and_eq_true, decide_eq_true_eq] at h
  exact List.mem_filter.mpr ⟨hr_T_in _ _ (List.mem_of_getElem? h.1), h.2⟩
/-- code, initialised, instance or static, selects; 1: static -/
abbrev hr_WI : Type := hr_P2 × hr_P2 × hr_P2 × hr_P2 × Nat
def hr_wq (x : hr_MI) (q : hr_WI) : Bool :=
  hr_at q.1 (.code x.1 x.2.1 x.2.2.1 x.2.2.2.1) && ((decide (x.2.2.2.2.1 = 3) || hr_at q.2.1 (.initialized x.1.cls)) &&
  (match q.2.2.2.2 with
    | 1 => hr_at q.2.2.1 (.static x.1)
    | _ => hr_at q.2.2.1 (.instanceMethod x.1) && hr_at q.2.2.2.1 (.selects x.1.cls x.1 x.1)))
def hr_wp (x : hr_MI) : Bool :=
  decide (x.1.cls = hr_cn x.2.2.2.2.1) && (decide (x.1.cls ≠ "java/lang/invoke/MethodHandle") && (decide (x.1.cls ≠ "java/lang/invoke/VarHandle") && decide ((parseMethodDescriptor x.1.desc).map (fun d => d.parameters.length) = some x.2.2.2.2.2.2.1)))
def wi_X0_repaint : hr_WI := ((5, 15), (1, 8), (5, 13), (5, 14), 0)
theorem wo_X0_repaint : hr_wq mi_X0_repaint wi_X0_repaint = true := by decide +kernel
theorem wp_X0_repaint : hr_wp mi_X0_repaint = true := by decide +kernel
def wi_X0_costOf : hr_WI := ((5, 27), (1, 8), (5, 26), (0, 0), 1)
theorem wo_X0_costOf : hr_wq mi_X0_costOf wi_X0_costOf = true := by decide +kernel
theorem wp_X0_costOf : hr_wp mi_X0_costOf = true := by decide +kernel
def wi_X0_leastCost : hr_WI := ((5, 23), (1, 8), (5, 22), (0, 43), 0)
theorem wo_X0_leastCost : hr_wq mi_X0_leastCost wi_X0_leastCost = true := by decide +kernel
theorem wp_X0_leastCost : hr_wp mi_X0_leastCost = true := by decide +kernel
def wi_X0_hueOfCost : hr_WI := ((5, 33), (1, 8), (5, 32), (0, 44), 0)
theorem wo_X0_hueOfCost : hr_wq mi_X0_hueOfCost wi_X0_hueOfCost = true := by decide +kernel
theorem wp_X0_hueOfCost : hr_wp mi_X0_hueOfCost = true := by decide +kernel
def wi_X0_blend : hr_WI := ((5, 58), (1, 8), (5, 56), (5, 57), 0)
theorem wo_X0_blend : hr_wq mi_X0_blend wi_X0_blend = true := by decide +kernel
theorem wp_X0_blend : hr_wp mi_X0_blend = true := by decide +kernel
def wi_X0_enqueue : hr_WI := ((5, 62), (1, 8), (5, 61), (0, 46), 0)
theorem wo_X0_enqueue : hr_wq mi_X0_enqueue wi_X0_enqueue = true := by decide +kernel
theorem wp_X0_enqueue : hr_wp mi_X0_enqueue = true := by decide +kernel
def wi_X0_pour : hr_WI := ((5, 66), (1, 8), (5, 65), (0, 47), 0)
theorem wo_X0_pour : hr_wq mi_X0_pour wi_X0_pour = true := by decide +kernel
theorem wp_X0_pour : hr_wp mi_X0_pour = true := by decide +kernel
def wi_X1_forget : hr_WI := ((3, 228), (1, 6), (3, 226), (3, 227), 0)
theorem wo_X1_forget : hr_wq mi_X1_forget wi_X1_forget = true := by decide +kernel
theorem wp_X1_forget : hr_wp mi_X1_forget = true := by decide +kernel
def wi_X1_gatherHues : hr_WI := ((5, 46), (1, 6), (5, 44), (5, 45), 0)
theorem wo_X1_gatherHues : hr_wq mi_X1_gatherHues wi_X1_gatherHues = true := by decide +kernel
theorem wp_X1_gatherHues : hr_wp mi_X1_gatherHues = true := by decide +kernel
def wi_X1_gatherPictures : hr_WI := ((4, 168), (1, 6), (4, 166), (4, 167), 0)
theorem wo_X1_gatherPictures : hr_wq mi_X1_gatherPictures wi_X1_gatherPictures = true := by decide +kernel
theorem wp_X1_gatherPictures : hr_wp mi_X1_gatherPictures = true := by decide +kernel
def wi_X1_join : hr_WI := ((4, 172), (1, 6), (4, 171), (0, 33), 0)
theorem wo_X1_join : hr_wq mi_X1_join wi_X1_join = true := by decide +kernel
theorem wp_X1_join : hr_wp mi_X1_join = true := by decide +kernel
def wi_X1_findFoes : hr_WI := ((4, 176), (1, 6), (4, 175), (0, 34), 0)
theorem wo_X1_findFoes : hr_wq mi_X1_findFoes wi_X1_findFoes = true := by decide +kernel
theorem wp_X1_findFoes : hr_wp mi_X1_findFoes = true := by decide +kernel
def wi_X1_everyone : hr_WI := ((4, 189), (1, 6), (4, 188), (0, 36), 0)
theorem wo_X1_everyone : hr_wq mi_X1_everyone wi_X1_everyone = true := by decide +kernel
theorem wp_X1_everyone : hr_wp mi_X1_everyone = true := by decide +kernel
def wi_X1_lineUp : hr_WI := ((4, 226), (1, 6), (4, 224), (4, 225), 0)
theorem wo_X1_lineUp : hr_wq mi_X1_lineUp wi_X1_lineUp = true := by decide +kernel
theorem wp_X1_lineUp : hr_wp mi_X1_lineUp = true := by decide +kernel
def wi_X1_ordersBegunBy : hr_WI := ((4, 230), (1, 6), (4, 229), (0, 40), 0)
theorem wo_X1_ordersBegunBy : hr_wq mi_X1_ordersBegunBy wi_X1_ordersBegunBy = true := by decide +kernel
theorem wp_X1_ordersBegunBy : hr_wp mi_X1_ordersBegunBy = true := by decide +kernel
def wi_X1_findFirstOrder : hr_WI := ((4, 234), (1, 6), (4, 233), (0, 41), 0)
theorem wo_X1_findFirstOrder : hr_wq mi_X1_findFirstOrder wi_X1_findFirstOrder = true := by decide +kernel
theorem wp_X1_findFirstOrder : hr_wp mi_X1_findFirstOrder = true := by decide +kernel
def wi_X1_leastBeginner : hr_WI := ((4, 238), (1, 6), (4, 237), (0, 42), 0)
theorem wo_X1_leastBeginner : hr_wq mi_X1_leastBeginner wi_X1_leastBeginner = true := by decide +kernel
theorem wp_X1_leastBeginner : hr_wp mi_X1_leastBeginner = true := by decide +kernel
def wi_X1_placed : hr_WI := ((5, 7), (1, 6), (5, 5), (5, 6), 0)
theorem wo_X1_placed : hr_wq mi_X1_placed wi_X1_placed = true := by decide +kernel
theorem wp_X1_placed : hr_wp mi_X1_placed = true := by decide +kernel
def wi_X1_findQuiet : hr_WI := ((4, 185), (1, 6), (4, 184), (0, 35), 0)
theorem wo_X1_findQuiet : hr_wq mi_X1_findQuiet wi_X1_findQuiet = true := by decide +kernel
theorem wp_X1_findQuiet : hr_wp mi_X1_findQuiet = true := by decide +kernel
def wi_X1_fewestParts : hr_WI := ((4, 181), (1, 6), (4, 179), (4, 180), 0)
theorem wo_X1_fewestParts : hr_wq mi_X1_fewestParts wi_X1_fewestParts = true := by decide +kernel
theorem wp_X1_fewestParts : hr_wp mi_X1_fewestParts = true := by decide +kernel
def wi_X1_fewestPartsOf : hr_WI := ((4, 197), (1, 6), (4, 196), (0, 37), 0)
theorem wo_X1_fewestPartsOf : hr_wq mi_X1_fewestPartsOf wi_X1_fewestPartsOf = true := by decide +kernel
theorem wp_X1_fewestPartsOf : hr_wp mi_X1_fewestPartsOf = true := by decide +kernel
def wi_X1_greatestQuarrel : hr_WI := ((4, 204), (1, 6), (4, 202), (4, 203), 0)
theorem wo_X1_greatestQuarrel : hr_wq mi_X1_greatestQuarrel wi_X1_greatestQuarrel = true := by decide +kernel
theorem wp_X1_greatestQuarrel : hr_wp mi_X1_greatestQuarrel = true := by decide +kernel
def wi_X1_isQuarrel : hr_WI := ((4, 209), (1, 6), (4, 208), (0, 38), 0)
theorem wo_X1_isQuarrel : hr_wq mi_X1_isQuarrel wi_X1_isQuarrel = true := by decide +kernel
theorem wp_X1_isQuarrel : hr_wp mi_X1_isQuarrel = true := by decide +kernel
def wi_X1_fewestHidden : hr_WI := ((4, 214), (1, 6), (4, 212), (4, 213), 0)
theorem wo_X1_fewestHidden : hr_wq mi_X1_fewestHidden wi_X1_fewestHidden = true := by decide +kernel
theorem wp_X1_fewestHidden : hr_wp mi_X1_fewestHidden = true := by decide +kernel
def wi_X1_couple : hr_WI := ((5, 75), (1, 6), (5, 73), (5, 74), 0)
theorem wo_X1_couple : hr_wq mi_X1_couple wi_X1_couple = true := by decide +kernel
theorem wp_X1_couple : hr_wp mi_X1_couple = true := by decide +kernel
def wi_X1_mostCouplesOf : hr_WI := ((5, 79), (1, 6), (5, 78), (0, 48), 0)
theorem wo_X1_mostCouplesOf : hr_wq mi_X1_mostCouplesOf wi_X1_mostCouplesOf = true := by decide +kernel
theorem wp_X1_mostCouplesOf : hr_wp mi_X1_mostCouplesOf = true := by decide +kernel
def wi_X1_leastAlly : hr_WI := ((5, 86), (1, 6), (5, 85), (0, 49), 0)
theorem wo_X1_leastAlly : hr_wq mi_X1_leastAlly wi_X1_leastAlly = true := by decide +kernel
theorem wp_X1_leastAlly : hr_wp mi_X1_leastAlly = true := by decide +kernel
def wi_X2_forget : hr_WI := ((3, 232), (1, 9), (3, 230), (3, 231), 0)
theorem wo_X2_forget : hr_wq mi_X2_forget wi_X2_forget = true := by decide +kernel
theorem wp_X2_forget : hr_wp mi_X2_forget = true := by decide +kernel
def wi_X2_look : hr_WI := ((5, 125), (1, 9), (5, 123), (5, 124), 0)
theorem wo_X2_look : hr_wq mi_X2_look wi_X2_look = true := by decide +kernel
theorem wp_X2_look : hr_wp mi_X2_look = true := by decide +kernel
def wi_X2_propose : hr_WI := ((5, 129), (1, 9), (5, 128), (0, 50), 0)
theorem wo_X2_propose : hr_wq mi_X2_propose wi_X2_propose = true := by decide +kernel
theorem wp_X2_propose : hr_wp mi_X2_propose = true := by decide +kernel
def wi_X2_fitting : hr_WI := ((5, 147), (1, 9), (5, 145), (5, 146), 0)
theorem wo_X2_fitting : hr_wq mi_X2_fitting wi_X2_fitting = true := by decide +kernel
theorem wp_X2_fitting : hr_wp mi_X2_fitting = true := by decide +kernel
def wi_X2_mostTelling : hr_WI := ((5, 134), (1, 9), (5, 133), (0, 51), 0)
theorem wo_X2_mostTelling : hr_wq mi_X2_mostTelling wi_X2_mostTelling = true := by decide +kernel
theorem wp_X2_mostTelling : hr_wp mi_X2_mostTelling = true := by decide +kernel
def wi_X2_countSums : hr_WI := ((5, 138), (1, 9), (5, 137), (0, 52), 0)
theorem wo_X2_countSums : hr_wq mi_X2_countSums wi_X2_countSums = true := by decide +kernel
theorem wp_X2_countSums : hr_wp mi_X2_countSums = true := by decide +kernel
def wi_X3_sort : hr_WI := ((3, 38), (0, 0), (3, 36), (3, 37), 0)
theorem wo_X3_sort : hr_wq mi_X3_sort wi_X3_sort = true := by decide +kernel
theorem wp_X3_sort : hr_wp mi_X3_sort = true := by decide +kernel
def wi_X3_code : hr_WI := ((3, 159), (0, 0), (3, 157), (3, 158), 0)
theorem wo_X3_code : hr_wq mi_X3_code wi_X3_code = true := by decide +kernel
theorem wp_X3_code : hr_wp mi_X3_code = true := by decide +kernel
def wi_X3_firstCanBe : hr_WI := ((3, 123), (0, 0), (3, 121), (3, 122), 0)
theorem wo_X3_firstCanBe : hr_wq mi_X3_firstCanBe wi_X3_firstCanBe = true := by decide +kernel
theorem wp_X3_firstCanBe : hr_wp mi_X3_firstCanBe = true := by decide +kernel
def wi_X3_secondCanBe : hr_WI := ((3, 127), (0, 0), (3, 125), (3, 126), 0)
theorem wo_X3_secondCanBe : hr_wq mi_X3_secondCanBe wi_X3_secondCanBe = true := by decide +kernel
theorem wp_X3_secondCanBe : hr_wp mi_X3_secondCanBe = true := by decide +kernel
def wi_X3_thirdCanBe : hr_WI := ((3, 131), (0, 0), (3, 129), (3, 130), 0)
theorem wo_X3_thirdCanBe : hr_wq mi_X3_thirdCanBe wi_X3_thirdCanBe = true := by decide +kernel
theorem wp_X3_thirdCanBe : hr_wp mi_X3_thirdCanBe = true := by decide +kernel
def wi_X4_clear : hr_WI := ((2, 239), (1, 3), (2, 237), (2, 238), 0)
theorem wo_X4_clear : hr_wq mi_X4_clear wi_X4_clear = true := by decide +kernel
theorem wp_X4_clear : hr_wp mi_X4_clear = true := by decide +kernel
def wi_X4_addHue : hr_WI := ((3, 139), (1, 3), (3, 137), (3, 138), 0)
theorem wo_X4_addHue : hr_wq mi_X4_addHue wi_X4_addHue = true := by decide +kernel
theorem wp_X4_addHue : hr_wp mi_X4_addHue = true := by decide +kernel
def wi_X4_addRule : hr_WI := ((3, 147), (1, 3), (3, 145), (3, 146), 0)
theorem wo_X4_addRule : hr_wq mi_X4_addRule wi_X4_addRule = true := by decide +kernel
theorem wp_X4_addRule : hr_wp mi_X4_addRule = true := by decide +kernel
def wi_X4_setLikes : hr_WI := ((3, 143), (1, 3), (3, 141), (3, 142), 0)
theorem wo_X4_setLikes : hr_wq mi_X4_setLikes wi_X4_setLikes = true := by decide +kernel
theorem wp_X4_setLikes : hr_wp mi_X4_setLikes = true := by decide +kernel
def wi_X4_copyFrom : hr_WI := ((3, 179), (1, 3), (3, 177), (3, 178), 0)
theorem wo_X4_copyFrom : hr_wq mi_X4_copyFrom wi_X4_copyFrom = true := by decide +kernel
theorem wp_X4_copyFrom : hr_wp mi_X4_copyFrom = true := by decide +kernel
def wi_X4_all : hr_WI := ((3, 171), (1, 3), (3, 169), (3, 170), 0)
theorem wo_X4_all : hr_wq mi_X4_all wi_X4_all = true := by decide +kernel
theorem wp_X4_all : hr_wp mi_X4_all = true := by decide +kernel
def wi_X4_has : hr_WI := ((4, 42), (1, 3), (4, 40), (4, 41), 0)
theorem wo_X4_has : hr_wq mi_X4_has wi_X4_has = true := by decide +kernel
theorem wp_X4_has : hr_wp mi_X4_has = true := by decide +kernel
def wi_X4_hasAll : hr_WI := ((3, 167), (1, 3), (3, 165), (3, 166), 0)
theorem wo_X4_hasAll : hr_wq mi_X4_hasAll wi_X4_hasAll = true := by decide +kernel
theorem wp_X4_hasAll : hr_wp mi_X4_hasAll = true := by decide +kernel
def wi_X4_part : hr_WI := ((4, 46), (1, 3), (4, 44), (4, 45), 0)
theorem wo_X4_part : hr_wq mi_X4_part wi_X4_part = true := by decide +kernel
theorem wp_X4_part : hr_wp mi_X4_part = true := by decide +kernel
def wi_X4_total : hr_WI := ((5, 142), (1, 3), (5, 140), (5, 141), 0)
theorem wo_X4_total : hr_wq mi_X4_total wi_X4_total = true := by decide +kernel
theorem wp_X4_total : hr_wp mi_X4_total = true := by decide +kernel
def wi_X4_strengthOf : hr_WI := ((4, 59), (1, 3), (4, 57), (4, 58), 0)
theorem wo_X4_strengthOf : hr_wq mi_X4_strengthOf wi_X4_strengthOf = true := by decide +kernel
theorem wp_X4_strengthOf : hr_wp mi_X4_strengthOf = true := by decide +kernel
def wi_X4_foesOf : hr_WI := ((5, 19), (1, 3), (5, 17), (5, 18), 0)
theorem wo_X4_foesOf : hr_wq mi_X4_foesOf wi_X4_foesOf = true := by decide +kernel
theorem wp_X4_foesOf : hr_wp mi_X4_foesOf = true := by decide +kernel
def wi_X4_foesOfAny : hr_WI := ((5, 111), (1, 3), (5, 109), (5, 110), 0)
theorem wo_X4_foesOfAny : hr_wq mi_X4_foesOfAny wi_X4_foesOfAny = true := by decide +kernel
theorem wp_X4_foesOfAny : hr_wp mi_X4_foesOfAny = true := by decide +kernel
def wi_X4_answer : hr_WI := ((4, 8), (1, 3), (4, 6), (4, 7), 0)
theorem wo_X4_answer : hr_wq mi_X4_answer wi_X4_answer = true := by decide +kernel
theorem wp_X4_answer : hr_wp mi_X4_answer = true := by decide +kernel
def wi_X4_partOrLikes : hr_WI := ((4, 38), (1, 3), (4, 37), (0, 24), 0)
theorem wo_X4_partOrLikes : hr_wq mi_X4_partOrLikes wi_X4_partOrLikes = true := by decide +kernel
theorem wp_X4_partOrLikes : hr_wp mi_X4_partOrLikes = true := by decide +kernel
def wi_X4_meek : hr_WI := ((4, 12), (1, 3), (4, 11), (0, 20), 0)
theorem wo_X4_meek : hr_wq mi_X4_meek wi_X4_meek = true := by decide +kernel
theorem wp_X4_meek : hr_wp mi_X4_meek = true := by decide +kernel
def wi_X4_fiercest : hr_WI := ((4, 16), (1, 3), (4, 15), (0, 21), 0)
theorem wo_X4_fiercest : hr_wq mi_X4_fiercest wi_X4_fiercest = true := by decide +kernel
theorem wp_X4_fiercest : hr_wp mi_X4_fiercest = true := by decide +kernel
def wi_X4_dotColour : hr_WI := ((4, 26), (1, 3), (4, 25), (0, 22), 0)
theorem wo_X4_dotColour : hr_wq mi_X4_dotColour wi_X4_dotColour = true := by decide +kernel
theorem wp_X4_dotColour : hr_wp mi_X4_dotColour = true := by decide +kernel
def wi_X4_findDot : hr_WI := ((4, 30), (1, 3), (4, 29), (0, 23), 0)
theorem wo_X4_findDot : hr_wq mi_X4_findDot wi_X4_findDot = true := by decide +kernel
theorem wp_X4_findDot : hr_wp mi_X4_findDot = true := by decide +kernel
def wi_X4_foesOfColour : hr_WI := ((4, 34), (1, 3), (4, 32), (4, 33), 0)
theorem wo_X4_foesOfColour : hr_wq mi_X4_foesOfColour wi_X4_foesOfColour = true := by decide +kernel
theorem wp_X4_foesOfColour : hr_wp mi_X4_foesOfColour = true := by decide +kernel
def wi_X4_strengthWith : hr_WI := ((4, 70), (1, 3), (4, 68), (4, 69), 0)
theorem wo_X4_strengthWith : hr_wq mi_X4_strengthWith wi_X4_strengthWith = true := by decide +kernel
theorem wp_X4_strengthWith : hr_wp mi_X4_strengthWith = true := by decide +kernel
def wi_X4_wouldHold : hr_WI := ((3, 194), (1, 3), (3, 192), (3, 193), 0)
theorem wo_X4_wouldHold : hr_wq mi_X4_wouldHold wi_X4_wouldHold = true := by decide +kernel
theorem wp_X4_wouldHold : hr_wp mi_X4_wouldHold = true := by decide +kernel
def wi_X4_gainOf : hr_WI := ((5, 94), (1, 3), (5, 92), (5, 93), 0)
theorem wo_X4_gainOf : hr_wq mi_X4_gainOf wi_X4_gainOf = true := by decide +kernel
theorem wp_X4_gainOf : hr_wp mi_X4_gainOf = true := by decide +kernel
def wi_X4_isRest : hr_WI := ((5, 102), (1, 3), (5, 100), (5, 101), 0)
theorem wo_X4_isRest : hr_wq mi_X4_isRest wi_X4_isRest = true := by decide +kernel
theorem wp_X4_isRest : hr_wp mi_X4_isRest = true := by decide +kernel
def wi_X4_worstOf : hr_WI := ((4, 159), (1, 3), (4, 157), (4, 158), 0)
theorem wo_X4_worstOf : hr_wq mi_X4_worstOf wi_X4_worstOf = true := by decide +kernel
theorem wp_X4_worstOf : hr_wp mi_X4_worstOf = true := by decide +kernel
def wi_X4_strengthsOf : hr_WI := ((4, 164), (1, 3), (4, 162), (4, 163), 0)
theorem wo_X4_strengthsOf : hr_wq mi_X4_strengthsOf wi_X4_strengthsOf = true := by decide +kernel
theorem wp_X4_strengthsOf : hr_wp mi_X4_strengthsOf = true := by decide +kernel
def wi_X4_findStrengths : hr_WI := ((3, 186), (1, 3), (3, 185), (0, 14), 0)
theorem wo_X4_findStrengths : hr_wq mi_X4_findStrengths wi_X4_findStrengths = true := by decide +kernel
theorem wp_X4_findStrengths : hr_wp mi_X4_findStrengths = true := by decide +kernel
def wi_X4_strengthOfHues : hr_WI := ((3, 190), (1, 3), (3, 189), (0, 15), 0)
theorem wo_X4_strengthOfHues : hr_wq mi_X4_strengthOfHues wi_X4_strengthOfHues = true := by decide +kernel
theorem wp_X4_strengthOfHues : hr_wp mi_X4_strengthOfHues = true := by decide +kernel
def wi_X4_findHolders : hr_WI := ((3, 208), (1, 3), (3, 207), (0, 17), 0)
theorem wo_X4_findHolders : hr_wq mi_X4_findHolders wi_X4_findHolders = true := by decide +kernel
theorem wp_X4_findHolders : hr_wp mi_X4_findHolders = true := by decide +kernel
def wi_X4_addHolders : hr_WI := ((3, 212), (1, 3), (3, 211), (0, 18), 0)
theorem wo_X4_addHolders : hr_wq mi_X4_addHolders wi_X4_addHolders = true := by decide +kernel
theorem wp_X4_addHolders : hr_wp mi_X4_addHolders = true := by decide +kernel
def wi_X4_measure : hr_WI := ((3, 198), (1, 3), (3, 197), (0, 16), 0)
theorem wo_X4_measure : hr_wq mi_X4_measure wi_X4_measure = true := by decide +kernel
theorem wp_X4_measure : hr_wp mi_X4_measure = true := by decide +kernel
def wi_X4_measureOf : hr_WI := ((4, 73), (1, 3), (4, 72), (0, 0), 1)
theorem wo_X4_measureOf : hr_wq mi_X4_measureOf wi_X4_measureOf = true := by decide +kernel
theorem wp_X4_measureOf : hr_wp mi_X4_measureOf = true := by decide +kernel
def wi_X4_touches : hr_WI := ((3, 201), (1, 3), (3, 200), (0, 0), 1)
theorem wo_X4_touches : hr_wq mi_X4_touches wi_X4_touches = true := by decide +kernel
theorem wp_X4_touches : hr_wp mi_X4_touches = true := by decide +kernel
def wi_X5_read : hr_WI := ((2, 235), (1, 5), (2, 233), (2, 234), 0)
theorem wo_X5_read : hr_wq mi_X5_read wi_X5_read = true := by decide +kernel
theorem wp_X5_read : hr_wp mi_X5_read = true := by decide +kernel
def wi_X5_note : hr_WI := ((3, 115), (1, 5), (3, 114), (0, 10), 0)
theorem wo_X5_note : hr_wq mi_X5_note wi_X5_note = true := by decide +kernel
theorem wp_X5_note : hr_wp mi_X5_note = true := by decide +kernel
def wi_X5_readLine : hr_WI := ((3, 28), (1, 5), (3, 27), (0, 3), 0)
theorem wo_X5_readLine : hr_wq mi_X5_readLine wi_X5_readLine = true := by decide +kernel
theorem wp_X5_readLine : hr_wp mi_X5_readLine = true := by decide +kernel
def wi_X5_readNumbers : hr_WI := ((3, 101), (1, 5), (3, 100), (0, 7), 0)
theorem wo_X5_readNumbers : hr_wq mi_X5_readNumbers wi_X5_readNumbers = true := by decide +kernel
theorem wp_X5_readNumbers : hr_wp mi_X5_readNumbers = true := by decide +kernel
def wi_X5_readGuestHues : hr_WI := ((3, 94), (1, 5), (3, 93), (0, 6), 0)
theorem wo_X5_readGuestHues : hr_wq mi_X5_readGuestHues wi_X5_readGuestHues = true := by decide +kernel
theorem wp_X5_readGuestHues : hr_wp mi_X5_readGuestHues = true := by decide +kernel
def wi_X5_take : hr_WI := ((3, 105), (1, 5), (3, 104), (0, 8), 0)
theorem wo_X5_take : hr_wq mi_X5_take wi_X5_take = true := by decide +kernel
theorem wp_X5_take : hr_wp mi_X5_take = true := by decide +kernel
def wi_X5_isFull : hr_WI := ((3, 109), (1, 5), (3, 108), (0, 9), 0)
theorem wo_X5_isFull : hr_wq mi_X5_isFull wi_X5_isFull = true := by decide +kernel
theorem wp_X5_isFull : hr_wp mi_X5_isFull = true := by decide +kernel
def wi_X5_badPlace : hr_WI := ((3, 119), (1, 5), (3, 118), (0, 11), 0)
theorem wo_X5_badPlace : hr_wq mi_X5_badPlace wi_X5_badPlace = true := by decide +kernel
theorem wp_X5_badPlace : hr_wp mi_X5_badPlace = true := by decide +kernel
def wi_X5_keepInPalette : hr_WI := ((3, 135), (1, 5), (3, 134), (0, 12), 0)
theorem wo_X5_keepInPalette : hr_wq mi_X5_keepInPalette wi_X5_keepInPalette = true := by decide +kernel
theorem wp_X5_keepInPalette : hr_wp mi_X5_keepInPalette = true := by decide +kernel
def wi_X5_keepInRoll : hr_WI := ((3, 151), (1, 5), (3, 150), (0, 13), 0)
theorem wo_X5_keepInRoll : hr_wq mi_X5_keepInRoll wi_X5_keepInRoll = true := by decide +kernel
theorem wp_X5_keepInRoll : hr_wp mi_X5_keepInRoll = true := by decide +kernel
def wi_X5_lineNamed : hr_WI := ((3, 32), (1, 5), (3, 31), (0, 4), 0)
theorem wo_X5_lineNamed : hr_wq mi_X5_lineNamed wi_X5_lineNamed = true := by decide +kernel
theorem wp_X5_lineNamed : hr_wp mi_X5_lineNamed = true := by decide +kernel
def wi_X5_spells : hr_WI := ((3, 42), (1, 5), (3, 41), (0, 5), 0)
theorem wo_X5_spells : hr_wq mi_X5_spells wi_X5_spells = true := by decide +kernel
theorem wp_X5_spells : hr_wp mi_X5_spells = true := by decide +kernel
def wi_X5_advance : hr_WI := ((3, 7), (1, 5), (3, 6), (0, 0), 0)
theorem wo_X5_advance : hr_wq mi_X5_advance wi_X5_advance = true := by decide +kernel
theorem wp_X5_advance : hr_wp mi_X5_advance = true := by decide +kernel
def wi_X5_readDigits : hr_WI := ((3, 24), (1, 5), (3, 23), (0, 2), 0)
theorem wo_X5_readDigits : hr_wq mi_X5_readDigits wi_X5_readDigits = true := by decide +kernel
theorem wp_X5_readDigits : hr_wp mi_X5_readDigits = true := by decide +kernel
def wi_X5_byteAt : hr_WI := ((3, 11), (1, 5), (3, 10), (0, 1), 0)
theorem wo_X5_byteAt : hr_wq mi_X5_byteAt wi_X5_byteAt = true := by decide +kernel
theorem wp_X5_byteAt : hr_wp mi_X5_byteAt = true := by decide +kernel
def wi_X5_isBlank : hr_WI := ((3, 14), (1, 5), (3, 13), (0, 0), 1)
theorem wo_X5_isBlank : hr_wq mi_X5_isBlank wi_X5_isBlank = true := by decide +kernel
theorem wp_X5_isBlank : hr_wp mi_X5_isBlank = true := by decide +kernel
def wi_X5_isLetter : hr_WI := ((3, 17), (1, 5), (3, 16), (0, 0), 1)
theorem wo_X5_isLetter : hr_wq mi_X5_isLetter wi_X5_isLetter = true := by decide +kernel
theorem wp_X5_isLetter : hr_wp mi_X5_isLetter = true := by decide +kernel
def wi_X5_isDigit : hr_WI := ((3, 20), (1, 5), (3, 19), (0, 0), 1)
theorem wo_X5_isDigit : hr_wq mi_X5_isDigit wi_X5_isDigit = true := by decide +kernel
theorem wp_X5_isDigit : hr_wp mi_X5_isDigit = true := by decide +kernel
def wi_X6_clear : hr_WI := ((3, 3), (1, 4), (3, 1), (3, 2), 0)
theorem wo_X6_clear : hr_wq mi_X6_clear wi_X6_clear = true := by decide +kernel
theorem wp_X6_clear : hr_wp mi_X6_clear = true := by decide +kernel
def wi_X6_has : hr_WI := ((4, 92), (1, 4), (4, 90), (4, 91), 0)
theorem wo_X6_has : hr_wq mi_X6_has wi_X6_has = true := by decide +kernel
theorem wp_X6_has : hr_wp mi_X6_has = true := by decide +kernel
def wi_X6_name : hr_WI := ((3, 155), (1, 4), (3, 153), (3, 154), 0)
theorem wo_X6_name : hr_wq mi_X6_name wi_X6_name = true := by decide +kernel
theorem wp_X6_name : hr_wp mi_X6_name = true := by decide +kernel
def wi_X6_add : hr_WI := ((3, 163), (1, 4), (3, 161), (3, 162), 0)
theorem wo_X6_add : hr_wq mi_X6_add wi_X6_add = true := by decide +kernel
theorem wp_X6_add : hr_wp mi_X6_add = true := by decide +kernel
def wi_X6_copyFrom : hr_WI := ((3, 219), (1, 4), (3, 217), (3, 218), 0)
theorem wo_X6_copyFrom : hr_wq mi_X6_copyFrom wi_X6_copyFrom = true := by decide +kernel
theorem wp_X6_copyFrom : hr_wp mi_X6_copyFrom = true := by decide +kernel
def wi_X7_seat : hr_WI := ((5, 159), (1, 10), (5, 157), (5, 158), 0)
theorem wo_X7_seat : hr_wq mi_X7_seat wi_X7_seat = true := by decide +kernel
theorem wp_X7_seat : hr_wp mi_X7_seat = true := by decide +kernel
def wi_X7_waysBegunBy : hr_WI := ((5, 164), (1, 10), (5, 163), (0, 53), 0)
theorem wo_X7_waysBegunBy : hr_wq mi_X7_waysBegunBy wi_X7_waysBegunBy = true := by decide +kernel
theorem wp_X7_waysBegunBy : hr_wp mi_X7_waysBegunBy = true := by decide +kernel
def wi_X7_waysBehind : hr_WI := ((5, 169), (1, 10), (5, 168), (0, 54), 0)
theorem wo_X7_waysBehind : hr_wq mi_X7_waysBehind wi_X7_waysBehind = true := by decide +kernel
theorem wp_X7_waysBehind : hr_wp mi_X7_waysBehind = true := by decide +kernel
def wi_X7_dressAtFirst : hr_WI := ((5, 174), (1, 10), (5, 173), (0, 55), 0)
theorem wo_X7_dressAtFirst : hr_wq mi_X7_dressAtFirst wi_X7_dressAtFirst = true := by decide +kernel
theorem wp_X7_dressAtFirst : hr_wp mi_X7_dressAtFirst = true := by decide +kernel
def wi_X7_fewestHues : hr_WI := ((5, 182), (1, 10), (5, 180), (5, 181), 0)
theorem wo_X7_fewestHues : hr_wq mi_X7_fewestHues wi_X7_fewestHues = true := by decide +kernel
theorem wp_X7_fewestHues : hr_wp mi_X7_fewestHues = true := by decide +kernel
def wi_X7_canDress : hr_WI := ((5, 187), (1, 10), (5, 186), (0, 0), 1)
theorem wo_X7_canDress : hr_wq mi_X7_canDress wi_X7_canDress = true := by decide +kernel
theorem wp_X7_canDress : hr_wp mi_X7_canDress = true := by decide +kernel
def wi_X7_canDressFrom : hr_WI := ((5, 190), (1, 10), (5, 189), (0, 0), 1)
theorem wo_X7_canDressFrom : hr_wq mi_X7_canDressFrom wi_X7_canDressFrom = true := by decide +kernel
theorem wp_X7_canDressFrom : hr_wp mi_X7_canDressFrom = true := by decide +kernel
def wi_X7_dine : hr_WI := ((5, 198), (1, 10), (5, 196), (5, 197), 0)
theorem wo_X7_dine : hr_wq mi_X7_dine wi_X7_dine = true := by decide +kernel
theorem wp_X7_dine : hr_wp mi_X7_dine = true := by decide +kernel
def wi_X7_hueAt : hr_WI := ((5, 202), (1, 10), (5, 201), (0, 0), 1)
theorem wo_X7_hueAt : hr_wq mi_X7_hueAt wi_X7_hueAt = true := by decide +kernel
theorem wp_X7_hueAt : hr_wp mi_X7_hueAt = true := by decide +kernel
def wi_X7_strengthsRound : hr_WI := ((5, 208), (1, 10), (5, 207), (0, 56), 0)
theorem wo_X7_strengthsRound : hr_wq mi_X7_strengthsRound wi_X7_strengthsRound = true := by decide +kernel
theorem wp_X7_strengthsRound : hr_wp mi_X7_strengthsRound = true := by decide +kernel
def wi_X8_put : hr_WI := ((2, 219), (1, 2), (2, 217), (2, 218), 0)
theorem wo_X8_put : hr_wq mi_X8_put wi_X8_put = true := by decide +kernel
theorem wp_X8_put : hr_wp mi_X8_put = true := by decide +kernel
def wi_X8_slotFor : hr_WI := ((2, 231), (1, 2), (2, 229), (2, 230), 0)
theorem wo_X8_slotFor : hr_wq mi_X8_slotFor wi_X8_slotFor = true := by decide +kernel
theorem wp_X8_slotFor : hr_wp mi_X8_slotFor = true := by decide +kernel
def wi_X8_keep : hr_WI := ((3, 175), (1, 2), (3, 173), (3, 174), 0)
theorem wo_X8_keep : hr_wq mi_X8_keep wi_X8_keep = true := by decide +kernel
theorem wp_X8_keep : hr_wp mi_X8_keep = true := by decide +kernel
def wi_X8_paletteAt : hr_WI := ((4, 4), (1, 2), (4, 2), (4, 3), 0)
theorem wo_X8_paletteAt : hr_wq mi_X8_paletteAt wi_X8_paletteAt = true := by decide +kernel
theorem wp_X8_paletteAt : hr_wp mi_X8_paletteAt = true := by decide +kernel
def wi_X8_rollAt : hr_WI := ((4, 81), (1, 2), (4, 79), (4, 80), 0)
theorem wo_X8_rollAt : hr_wq mi_X8_rollAt wi_X8_rollAt = true := by decide +kernel
theorem wp_X8_rollAt : hr_wp mi_X8_rollAt = true := by decide +kernel
def wi_X8_copyFrom : hr_WI := ((5, 220), (1, 2), (5, 218), (5, 219), 0)
theorem wo_X8_copyFrom : hr_wq mi_X8_copyFrom wi_X8_copyFrom = true := by decide +kernel
theorem wp_X8_copyFrom : hr_wp mi_X8_copyFrom = true := by decide +kernel
def wi_X8_rollIndex : hr_WI := ((3, 215), (1, 2), (3, 214), (0, 0), 1)
theorem wo_X8_rollIndex : hr_wq mi_X8_rollIndex wi_X8_rollIndex = true := by decide +kernel
theorem wp_X8_rollIndex : hr_wp mi_X8_rollIndex = true := by decide +kernel
def wi_X9_go : hr_WI := ((4, 104), (1, 7), (4, 102), (4, 103), 0)
theorem wo_X9_go : hr_wq mi_X9_go wi_X9_go = true := by decide +kernel
theorem wp_X9_go : hr_wp mi_X9_go = true := by decide +kernel
def wi_X9_begin : hr_WI := ((4, 108), (1, 7), (4, 107), (0, 25), 0)
theorem wo_X9_begin : hr_wq mi_X9_begin wi_X9_begin = true := by decide +kernel
theorem wp_X9_begin : hr_wp mi_X9_begin = true := by decide +kernel
def wi_X9_act : hr_WI := ((4, 113), (1, 7), (4, 112), (0, 26), 0)
theorem wo_X9_act : hr_wq mi_X9_act wi_X9_act = true := by decide +kernel
theorem wp_X9_act : hr_wp mi_X9_act = true := by decide +kernel
def wi_X9_move : hr_WI := ((4, 116), (1, 7), (4, 115), (0, 0), 1)
theorem wo_X9_move : hr_wq mi_X9_move wi_X9_move = true := by decide +kernel
theorem wp_X9_move : hr_wp mi_X9_move = true := by decide +kernel
def wi_X9_passHour : hr_WI := ((4, 121), (1, 7), (4, 120), (0, 27), 0)
theorem wo_X9_passHour : hr_wq mi_X9_passHour wi_X9_passHour = true := by decide +kernel
theorem wp_X9_passHour : hr_wp mi_X9_passHour = true := by decide +kernel
def wi_X9_rashOf : hr_WI := ((4, 125), (1, 7), (4, 124), (0, 28), 0)
theorem wo_X9_rashOf : hr_wq mi_X9_rashOf wi_X9_rashOf = true := by decide +kernel
theorem wp_X9_rashOf : hr_wp mi_X9_rashOf = true := by decide +kernel
def wi_X9_gatherThings : hr_WI := ((4, 129), (1, 7), (4, 128), (0, 29), 0)
theorem wo_X9_gatherThings : hr_wq mi_X9_gatherThings wi_X9_gatherThings = true := by decide +kernel
theorem wp_X9_gatherThings : hr_wp mi_X9_gatherThings = true := by decide +kernel
def wi_X9_addThing : hr_WI := ((4, 133), (1, 7), (4, 132), (0, 30), 0)
theorem wo_X9_addThing : hr_wq mi_X9_addThing wi_X9_addThing = true := by decide +kernel
theorem wp_X9_addThing : hr_wp mi_X9_addThing = true := by decide +kernel
def wi_X9_markFading : hr_WI := ((4, 138), (1, 7), (4, 137), (0, 31), 0)
theorem wo_X9_markFading : hr_wq mi_X9_markFading wi_X9_markFading = true := by decide +kernel
theorem wp_X9_markFading : hr_wp mi_X9_markFading = true := by decide +kernel
def wi_X9_answer : hr_WI := ((4, 147), (1, 7), (4, 145), (4, 146), 0)
theorem wo_X9_answer : hr_wq mi_X9_answer wi_X9_answer = true := by decide +kernel
theorem wp_X9_answer : hr_wp mi_X9_answer = true := by decide +kernel
def wi_X9_answerOf : hr_WI := ((4, 151), (1, 7), (4, 150), (0, 32), 0)
theorem wo_X9_answerOf : hr_wq mi_X9_answerOf wi_X9_answerOf = true := by decide +kernel
theorem wp_X9_answerOf : hr_wp mi_X9_answerOf = true := by decide +kernel
def wi_X10_feed : hr_WI := ((2, 215), (1, 1), (2, 213), (2, 214), 0)
theorem wo_X10_feed : hr_wq mi_X10_feed wi_X10_feed = true := by decide +kernel
theorem wp_X10_feed : hr_wp mi_X10_feed = true := by decide +kernel
def wi_X10_end : hr_WI := ((2, 223), (1, 1), (2, 221), (2, 222), 0)
theorem wo_X10_end : hr_wq mi_X10_end wi_X10_end = true := by decide +kernel
theorem wp_X10_end : hr_wp mi_X10_end = true := by decide +kernel
def wi_X10_text : hr_WI := ((2, 227), (1, 1), (2, 225), (2, 226), 0)
theorem wo_X10_text : hr_wq mi_X10_text wi_X10_text = true := by decide +kernel
theorem wp_X10_text : hr_wp mi_X10_text = true := by decide +kernel
def wi_X10_fault : hr_WI := ((3, 236), (1, 1), (3, 234), (3, 235), 0)
theorem wo_X10_fault : hr_wq mi_X10_fault wi_X10_fault = true := by decide +kernel
theorem wp_X10_fault : hr_wp mi_X10_fault = true := by decide +kernel
def wi_X10_palette : hr_WI := ((4, 0), (1, 1), (3, 238), (3, 239), 0)
theorem wo_X10_palette : hr_wq mi_X10_palette wi_X10_palette = true := by decide +kernel
theorem wp_X10_palette : hr_wp mi_X10_palette = true := by decide +kernel
def wi_X10_rule : hr_WI := ((4, 50), (1, 1), (4, 48), (4, 49), 0)
theorem wo_X10_rule : hr_wq mi_X10_rule wi_X10_rule = true := by decide +kernel
theorem wp_X10_rule : hr_wp mi_X10_rule = true := by decide +kernel
def wi_X10_strength : hr_WI := ((4, 54), (1, 1), (4, 52), (4, 53), 0)
theorem wo_X10_strength : hr_wq mi_X10_strength wi_X10_strength = true := by decide +kernel
theorem wp_X10_strength : hr_wp mi_X10_strength = true := by decide +kernel
def wi_X10_minds : hr_WI := ((4, 63), (1, 1), (4, 61), (4, 62), 0)
theorem wo_X10_minds : hr_wq mi_X10_minds wi_X10_minds = true := by decide +kernel
theorem wp_X10_minds : hr_wp mi_X10_minds = true := by decide +kernel
def wi_X10_gallery : hr_WI := ((4, 77), (1, 1), (4, 75), (4, 76), 0)
theorem wo_X10_gallery : hr_wq mi_X10_gallery wi_X10_gallery = true := by decide +kernel
theorem wp_X10_gallery : hr_wp mi_X10_gallery = true := by decide +kernel
def wi_X10_deed : hr_WI := ((4, 85), (1, 1), (4, 83), (4, 84), 0)
theorem wo_X10_deed : hr_wq mi_X10_deed wi_X10_deed = true := by decide +kernel
theorem wp_X10_deed : hr_wp mi_X10_deed = true := by decide +kernel
def wi_X10_stop : hr_WI := ((4, 96), (1, 1), (4, 94), (4, 95), 0)
theorem wo_X10_stop : hr_wq mi_X10_stop wi_X10_stop = true := by decide +kernel
theorem wp_X10_stop : hr_wp mi_X10_stop = true := by decide +kernel
def wi_X10_state : hr_WI := ((4, 143), (1, 1), (4, 141), (4, 142), 0)
theorem wo_X10_state : hr_wq mi_X10_state wi_X10_state = true := by decide +kernel
theorem wp_X10_state : hr_wp mi_X10_state = true := by decide +kernel
def wi_X10_hung : hr_WI := ((4, 155), (1, 1), (4, 153), (4, 154), 0)
theorem wo_X10_hung : hr_wq mi_X10_hung wi_X10_hung = true := by decide +kernel
theorem wp_X10_hung : hr_wp mi_X10_hung = true := by decide +kernel
def wi_X10_rows : hr_WI := ((4, 218), (1, 1), (4, 216), (4, 217), 0)
theorem wo_X10_rows : hr_wq mi_X10_rows wi_X10_rows = true := by decide +kernel
theorem wp_X10_rows : hr_wp mi_X10_rows = true := by decide +kernel
def wi_X10_row : hr_WI := ((5, 3), (1, 1), (5, 1), (5, 2), 0)
theorem wo_X10_row : hr_wq mi_X10_row wi_X10_row = true := by decide +kernel
theorem wp_X10_row : hr_wp mi_X10_row = true := by decide +kernel
def wi_X10_repainted : hr_WI := ((5, 11), (1, 1), (5, 9), (5, 10), 0)
theorem wo_X10_repainted : hr_wq mi_X10_repainted wi_X10_repainted = true := by decide +kernel
theorem wp_X10_repainted : hr_wp mi_X10_repainted = true := by decide +kernel
def wi_X10_loom : hr_WI := ((5, 37), (1, 1), (5, 35), (5, 36), 0)
theorem wo_X10_loom : hr_wq mi_X10_loom wi_X10_loom = true := by decide +kernel
theorem wp_X10_loom : hr_wp mi_X10_loom = true := by decide +kernel
def wi_X10_thread : hr_WI := ((5, 50), (1, 1), (5, 48), (5, 49), 0)
theorem wo_X10_thread : hr_wq mi_X10_thread wi_X10_thread = true := by decide +kernel
theorem wp_X10_thread : hr_wp mi_X10_thread = true := by decide +kernel
def wi_X10_mix : hr_WI := ((5, 54), (1, 1), (5, 52), (5, 53), 0)
theorem wo_X10_mix : hr_wq mi_X10_mix wi_X10_mix = true := by decide +kernel
theorem wp_X10_mix : hr_wp mi_X10_mix = true := by decide +kernel
def wi_X10_flags : hr_WI := ((5, 71), (1, 1), (5, 69), (5, 70), 0)
theorem wo_X10_flags : hr_wq mi_X10_flags wi_X10_flags = true := by decide +kernel
theorem wp_X10_flags : hr_wp mi_X10_flags = true := by decide +kernel
def wi_X10_gain : hr_WI := ((5, 90), (1, 1), (5, 88), (5, 89), 0)
theorem wo_X10_gain : hr_wq mi_X10_gain wi_X10_gain = true := by decide +kernel
theorem wp_X10_gain : hr_wp mi_X10_gain = true := by decide +kernel
def wi_X10_rest : hr_WI := ((5, 98), (1, 1), (5, 96), (5, 97), 0)
theorem wo_X10_rest : hr_wq mi_X10_rest wi_X10_rest = true := by decide +kernel
theorem wp_X10_rest : hr_wp mi_X10_rest = true := by decide +kernel
def wi_X10_spread : hr_WI := ((5, 107), (1, 1), (5, 105), (5, 106), 0)
theorem wo_X10_spread : hr_wq mi_X10_spread wi_X10_spread = true := by decide +kernel
theorem wp_X10_spread : hr_wp mi_X10_spread = true := by decide +kernel
def wi_X10_sneeze : hr_WI := ((5, 117), (1, 1), (5, 115), (5, 116), 0)
theorem wo_X10_sneeze : hr_wq mi_X10_sneeze wi_X10_sneeze = true := by decide +kernel
theorem wp_X10_sneeze : hr_wp mi_X10_sneeze = true := by decide +kernel
def wi_X10_fits : hr_WI := ((5, 121), (1, 1), (5, 119), (5, 120), 0)
theorem wo_X10_fits : hr_wq mi_X10_fits wi_X10_fits = true := by decide +kernel
theorem wp_X10_fits : hr_wp mi_X10_fits = true := by decide +kernel
def wi_X10_guest : hr_WI := ((5, 151), (1, 1), (5, 149), (5, 150), 0)
theorem wo_X10_guest : hr_wq mi_X10_guest wi_X10_guest = true := by decide +kernel
theorem wp_X10_guest : hr_wp mi_X10_guest = true := by decide +kernel
def wi_X10_ways : hr_WI := ((5, 155), (1, 1), (5, 153), (5, 154), 0)
theorem wo_X10_ways : hr_wq mi_X10_ways wi_X10_ways = true := by decide +kernel
theorem wp_X10_ways : hr_wp mi_X10_ways = true := by decide +kernel
def wi_X10_dinner : hr_WI := ((5, 178), (1, 1), (5, 176), (5, 177), 0)
theorem wo_X10_dinner : hr_wq mi_X10_dinner wi_X10_dinner = true := by decide +kernel
theorem wp_X10_dinner : hr_wp mi_X10_dinner = true := by decide +kernel
def wi_X10_drawn : hr_WI := ((5, 194), (1, 1), (5, 192), (5, 193), 0)
theorem wo_X10_drawn : hr_wq mi_X10_drawn wi_X10_drawn = true := by decide +kernel
theorem wp_X10_drawn : hr_wp mi_X10_drawn = true := by decide +kernel
def wi_X10_count : hr_WI := ((5, 212), (1, 1), (5, 210), (5, 211), 0)
theorem wo_X10_count : hr_wq mi_X10_count wi_X10_count = true := by decide +kernel
theorem wp_X10_count : hr_wp mi_X10_count = true := by decide +kernel
def wi_X10_image : hr_WI := ((5, 216), (1, 1), (5, 214), (5, 215), 0)
theorem wo_X10_image : hr_wq mi_X10_image wi_X10_image = true := by decide +kernel
theorem wp_X10_image : hr_wp mi_X10_image = true := by decide +kernel
def wi_X10_again : hr_WI := ((5, 225), (1, 1), (5, 223), (5, 224), 0)
theorem wo_X10_again : hr_wq mi_X10_again wi_X10_again = true := by decide +kernel
theorem wp_X10_again : hr_wp mi_X10_again = true := by decide +kernel
def wi_X10_forgetAnswers : hr_WI := ((3, 224), (1, 1), (3, 223), (0, 19), 0)
theorem wo_X10_forgetAnswers : hr_wq mi_X10_forgetAnswers wi_X10_forgetAnswers = true := by decide +kernel
theorem wp_X10_forgetAnswers : hr_wp mi_X10_forgetAnswers = true := by decide +kernel
def wi_X10_lineUpPictures : hr_WI := ((4, 222), (1, 1), (4, 221), (0, 39), 0)
theorem wo_X10_lineUpPictures : hr_wq mi_X10_lineUpPictures wi_X10_lineUpPictures = true := by decide +kernel
theorem wp_X10_lineUpPictures : hr_wp mi_X10_lineUpPictures = true := by decide +kernel
def wi_X10_lineUpHues : hr_WI := ((5, 41), (1, 1), (5, 40), (0, 45), 0)
theorem wo_X10_lineUpHues : hr_wq mi_X10_lineUpHues wi_X10_lineUpHues = true := by decide +kernel
theorem wp_X10_lineUpHues : hr_wp mi_X10_lineUpHues = true := by decide +kernel
def wi_X10_lineOf : hr_WI := ((4, 88), (1, 1), (4, 87), (0, 0), 1)
theorem wo_X10_lineOf : hr_wq mi_X10_lineOf wi_X10_lineOf = true := by decide +kernel
theorem wp_X10_lineOf : hr_wp mi_X10_lineOf = true := by decide +kernel
def wi_X10_goTogether : hr_WI := ((4, 99), (1, 1), (4, 98), (0, 0), 1)
theorem wo_X10_goTogether : hr_wq mi_X10_goTogether wi_X10_goTogether = true := by decide +kernel
theorem wp_X10_goTogether : hr_wp mi_X10_goTogether = true := by decide +kernel
def wi_X10_isTone : hr_WI := ((4, 66), (1, 1), (4, 65), (0, 0), 1)
theorem wo_X10_isTone : hr_wq mi_X10_isTone wi_X10_isTone = true := by decide +kernel
theorem wp_X10_isTone : hr_wp mi_X10_isTone = true := by decide +kernel
def wi_X10_holdsBit : hr_WI := ((3, 97), (1, 1), (3, 96), (0, 0), 1)
theorem wo_X10_holdsBit : hr_wq mi_X10_holdsBit wi_X10_holdsBit = true := by decide +kernel
theorem wp_X10_holdsBit : hr_wp mi_X10_holdsBit = true := by decide +kernel
def wi_X10_leastOf : hr_WI := ((4, 192), (1, 1), (4, 191), (0, 0), 1)
theorem wo_X10_leastOf : hr_wq mi_X10_leastOf wi_X10_leastOf = true := by decide +kernel
theorem wp_X10_leastOf : hr_wp mi_X10_leastOf = true := by decide +kernel
def wi_X11_in : hr_WI := ((6, 175), (1, 11), (6, 174), (0, 0), 1)
theorem wo_X11_in : hr_wq mi_X11_in wi_X11_in = true := by decide +kernel
theorem wp_X11_in : hr_wp mi_X11_in = true := by decide +kernel
def wi_X11_has : hr_WI := ((7, 50), (1, 11), (7, 49), (0, 0), 1)
theorem wo_X11_has : hr_wq mi_X11_has wi_X11_has = true := by decide +kernel
theorem wp_X11_has : hr_wp mi_X11_has = true := by decide +kernel
def wi_X11_greater : hr_WI := ((7, 9), (1, 11), (7, 8), (0, 0), 1)
theorem wo_X11_greater : hr_wq mi_X11_greater wi_X11_greater = true := by decide +kernel
theorem wp_X11_greater : hr_wp mi_X11_greater = true := by decide +kernel
def wi_X11_lesser : hr_WI := ((8, 68), (1, 11), (8, 67), (0, 0), 1)
theorem wo_X11_lesser : hr_wq mi_X11_lesser wi_X11_lesser = true := by decide +kernel
theorem wp_X11_lesser : hr_wp mi_X11_lesser = true := by decide +kernel
def wi_X11_size : hr_WI := ((7, 101), (1, 11), (7, 100), (0, 0), 1)
theorem wo_X11_size : hr_wq mi_X11_size wi_X11_size = true := by decide +kernel
theorem wp_X11_size : hr_wp mi_X11_size = true := by decide +kernel
def wi_X11_ones : hr_WI := ((8, 15), (1, 11), (8, 14), (0, 0), 1)
theorem wo_X11_ones : hr_wq mi_X11_ones wi_X11_ones = true := by decide +kernel
theorem wp_X11_ones : hr_wp mi_X11_ones = true := by decide +kernel
def wi_X11_copyRow : hr_WI := ((9, 23), (1, 11), (9, 22), (0, 0), 1)
theorem wo_X11_copyRow : hr_wq mi_X11_copyRow wi_X11_copyRow = true := by decide +kernel
theorem wp_X11_copyRow : hr_wp mi_X11_copyRow = true := by decide +kernel
def wi_X11_copyAll : hr_WI := ((9, 20), (1, 11), (9, 19), (0, 158), 0)
theorem wo_X11_copyAll : hr_wq mi_X11_copyAll wi_X11_copyAll = true := by decide +kernel
theorem wp_X11_copyAll : hr_wp mi_X11_copyAll = true := by decide +kernel
def wi_X11_is : hr_WI := ((6, 183), (1, 11), (6, 182), (0, 58), 0)
theorem wo_X11_is : hr_wq mi_X11_is wi_X11_is = true := by decide +kernel
theorem wp_X11_is : hr_wp mi_X11_is = true := by decide +kernel
def wi_X11_feed : hr_WI := ((6, 164), (1, 11), (6, 162), (6, 163), 0)
theorem wo_X11_feed : hr_wq mi_X11_feed wi_X11_feed = true := by decide +kernel
theorem wp_X11_feed : hr_wp mi_X11_feed = true := by decide +kernel
def wi_X11_four : hr_WI := ((6, 168), (1, 11), (6, 167), (0, 57), 0)
theorem wo_X11_four : hr_wq mi_X11_four wi_X11_four = true := by decide +kernel
theorem wp_X11_four : hr_wp mi_X11_four = true := by decide +kernel
def wi_X11_end : hr_WI := ((6, 172), (1, 11), (6, 170), (6, 171), 0)
theorem wo_X11_end : hr_wq mi_X11_end wi_X11_end = true := by decide +kernel
theorem wp_X11_end : hr_wp mi_X11_end = true := by decide +kernel
def wi_X11_see : hr_WI := ((6, 195), (1, 11), (6, 194), (0, 61), 0)
theorem wo_X11_see : hr_wq mi_X11_see wi_X11_see = true := by decide +kernel
theorem wp_X11_see : hr_wp mi_X11_see = true := by decide +kernel
def wi_X11_token : hr_WI := ((6, 191), (1, 11), (6, 190), (0, 60), 0)
theorem wo_X11_token : hr_wq mi_X11_token wi_X11_token = true := by decide +kernel
theorem wp_X11_token : hr_wp mi_X11_token = true := by decide +kernel
def wi_X11_fails : hr_WI := ((6, 218), (1, 11), (6, 217), (0, 65), 0)
theorem wo_X11_fails : hr_wq mi_X11_fails wi_X11_fails = true := by decide +kernel
theorem wp_X11_fails : hr_wp mi_X11_fails = true := by decide +kernel
def wi_X11_later : hr_WI := ((6, 226), (1, 11), (6, 225), (0, 67), 0)
theorem wo_X11_later : hr_wq mi_X11_later wi_X11_later = true := by decide +kernel
theorem wp_X11_later : hr_wp mi_X11_later = true := by decide +kernel
def wi_X11_takeBut : hr_WI := ((6, 238), (1, 11), (6, 237), (0, 70), 0)
theorem wo_X11_takeBut : hr_wq mi_X11_takeBut wi_X11_takeBut = true := by decide +kernel
theorem wp_X11_takeBut : hr_wp mi_X11_takeBut = true := by decide +kernel
def wi_X11_take : hr_WI := ((6, 234), (1, 11), (6, 233), (0, 69), 0)
theorem wo_X11_take : hr_wq mi_X11_take wi_X11_take = true := by decide +kernel
theorem wp_X11_take : hr_wp mi_X11_take = true := by decide +kernel
def wi_X11_full : hr_WI := ((6, 222), (1, 11), (6, 221), (0, 66), 0)
theorem wo_X11_full : hr_wq mi_X11_full wi_X11_full = true := by decide +kernel
theorem wp_X11_full : hr_wp mi_X11_full = true := by decide +kernel
def wi_X11_keep : hr_WI := ((7, 2), (1, 11), (7, 1), (0, 71), 0)
theorem wo_X11_keep : hr_wq mi_X11_keep wi_X11_keep = true := by decide +kernel
theorem wp_X11_keep : hr_wp mi_X11_keep = true := by decide +kernel
def wi_X11_hueLine : hr_WI := ((6, 230), (1, 11), (6, 229), (0, 68), 0)
theorem wo_X11_hueLine : hr_wq mi_X11_hueLine wi_X11_hueLine = true := by decide +kernel
theorem wp_X11_hueLine : hr_wp mi_X11_hueLine = true := by decide +kernel
def wi_X11_likesLine : hr_WI := ((7, 6), (1, 11), (7, 5), (0, 72), 0)
theorem wo_X11_likesLine : hr_wq mi_X11_likesLine wi_X11_likesLine = true := by decide +kernel
theorem wp_X11_likesLine : hr_wp mi_X11_likesLine = true := by decide +kernel
def wi_X11_ruleNumbers : hr_WI := ((7, 13), (1, 11), (7, 12), (0, 73), 0)
theorem wo_X11_ruleNumbers : hr_wq mi_X11_ruleNumbers wi_X11_ruleNumbers = true := by decide +kernel
theorem wp_X11_ruleNumbers : hr_wp mi_X11_ruleNumbers = true := by decide +kernel
def wi_X11_paletteLine : hr_WI := ((6, 207), (1, 11), (6, 206), (0, 64), 0)
theorem wo_X11_paletteLine : hr_wq mi_X11_paletteLine wi_X11_paletteLine = true := by decide +kernel
theorem wp_X11_paletteLine : hr_wp mi_X11_paletteLine = true := by decide +kernel
def wi_X11_galleryLine : hr_WI := ((7, 17), (1, 11), (7, 16), (0, 74), 0)
theorem wo_X11_galleryLine : hr_wq mi_X11_galleryLine wi_X11_galleryLine = true := by decide +kernel
theorem wp_X11_galleryLine : hr_wp mi_X11_galleryLine = true := by decide +kernel
def wi_X11_deedBy : hr_WI := ((7, 26), (1, 11), (7, 25), (0, 0), 1)
theorem wo_X11_deedBy : hr_wq mi_X11_deedBy wi_X11_deedBy = true := by decide +kernel
theorem wp_X11_deedBy : hr_wp mi_X11_deedBy = true := by decide +kernel
def wi_X11_deedNumbers : hr_WI := ((7, 36), (1, 11), (7, 35), (0, 76), 0)
theorem wo_X11_deedNumbers : hr_wq mi_X11_deedNumbers wi_X11_deedNumbers = true := by decide +kernel
theorem wp_X11_deedNumbers : hr_wp mi_X11_deedNumbers = true := by decide +kernel
def wi_X11_dayLine : hr_WI := ((7, 23), (1, 11), (7, 22), (0, 75), 0)
theorem wo_X11_dayLine : hr_wq mi_X11_dayLine wi_X11_dayLine = true := by decide +kernel
theorem wp_X11_dayLine : hr_wp mi_X11_dayLine = true := by decide +kernel
def wi_X11_sightLine : hr_WI := ((7, 40), (1, 11), (7, 39), (0, 77), 0)
theorem wo_X11_sightLine : hr_wq mi_X11_sightLine wi_X11_sightLine = true := by decide +kernel
theorem wp_X11_sightLine : hr_wp mi_X11_sightLine = true := by decide +kernel
def wi_X11_dinnerLine : hr_WI := ((7, 46), (1, 11), (7, 45), (0, 78), 0)
theorem wo_X11_dinnerLine : hr_wq mi_X11_dinnerLine wi_X11_dinnerLine = true := by decide +kernel
theorem wp_X11_dinnerLine : hr_wp mi_X11_dinnerLine = true := by decide +kernel
def wi_X11_lineOf : hr_WI := ((6, 203), (1, 11), (6, 202), (0, 63), 0)
theorem wo_X11_lineOf : hr_wq mi_X11_lineOf wi_X11_lineOf = true := by decide +kernel
theorem wp_X11_lineOf : hr_wp mi_X11_lineOf = true := by decide +kernel
def wi_X11_lines : hr_WI := ((6, 199), (1, 11), (6, 198), (0, 62), 0)
theorem wo_X11_lines : hr_wq mi_X11_lines wi_X11_lines = true := by decide +kernel
theorem wp_X11_lines : hr_wp mi_X11_lines = true := by decide +kernel
def wi_X11_readText : hr_WI := ((6, 187), (1, 11), (6, 186), (0, 59), 0)
theorem wo_X11_readText : hr_wq mi_X11_readText wi_X11_readText = true := by decide +kernel
theorem wp_X11_readText : hr_wp mi_X11_readText = true := by decide +kernel
def wi_X11_store : hr_WI := ((7, 58), (1, 11), (7, 57), (0, 80), 0)
theorem wo_X11_store : hr_wq mi_X11_store wi_X11_store = true := by decide +kernel
theorem wp_X11_store : hr_wp mi_X11_store = true := by decide +kernel
def wi_X11_storeAll : hr_WI := ((7, 54), (1, 11), (7, 53), (0, 79), 0)
theorem wo_X11_storeAll : hr_wq mi_X11_storeAll wi_X11_storeAll = true := by decide +kernel
theorem wp_X11_storeAll : hr_wp mi_X11_storeAll = true := by decide +kernel
def wi_X11_text : hr_WI := ((6, 179), (1, 11), (6, 177), (6, 178), 0)
theorem wo_X11_text : hr_wq mi_X11_text wi_X11_text = true := by decide +kernel
theorem wp_X11_text : hr_wp mi_X11_text = true := by decide +kernel
def wi_X11_fault : hr_WI := ((7, 62), (1, 11), (7, 60), (7, 61), 0)
theorem wo_X11_fault : hr_wq mi_X11_fault wi_X11_fault = true := by decide +kernel
theorem wp_X11_fault : hr_wp mi_X11_fault = true := by decide +kernel
def wi_X11_of : hr_WI := ((7, 74), (1, 11), (7, 73), (0, 82), 0)
theorem wo_X11_of : hr_wq mi_X11_of wi_X11_of = true := by decide +kernel
theorem wp_X11_of : hr_wp mi_X11_of = true := by decide +kernel
def wi_X11_part : hr_WI := ((7, 82), (1, 11), (7, 81), (0, 84), 0)
theorem wo_X11_part : hr_wq mi_X11_part wi_X11_part = true := by decide +kernel
theorem wp_X11_part : hr_wp mi_X11_part = true := by decide +kernel
def wi_X11_ruleOf : hr_WI := ((7, 90), (1, 11), (7, 89), (0, 86), 0)
theorem wo_X11_ruleOf : hr_wq mi_X11_ruleOf wi_X11_ruleOf = true := by decide +kernel
theorem wp_X11_ruleOf : hr_wp mi_X11_ruleOf = true := by decide +kernel
def wi_X11_layHue : hr_WI := ((7, 78), (1, 11), (7, 77), (0, 83), 0)
theorem wo_X11_layHue : hr_wq mi_X11_layHue wi_X11_layHue = true := by decide +kernel
theorem wp_X11_layHue : hr_wp mi_X11_layHue = true := by decide +kernel
def wi_X11_layColour : hr_WI := ((7, 140), (1, 11), (7, 139), (0, 97), 0)
theorem wo_X11_layColour : hr_wq mi_X11_layColour wi_X11_layColour = true := by decide +kernel
theorem wp_X11_layColour : hr_wp mi_X11_layColour = true := by decide +kernel
def wi_X11_allParts : hr_WI := ((7, 98), (1, 11), (7, 97), (0, 88), 0)
theorem wo_X11_allParts : hr_wq mi_X11_allParts wi_X11_allParts = true := by decide +kernel
theorem wp_X11_allParts : hr_wp mi_X11_allParts = true := by decide +kernel
def wi_X11_holds : hr_WI := ((7, 94), (1, 11), (7, 93), (0, 87), 0)
theorem wo_X11_holds : hr_wq mi_X11_holds wi_X11_holds = true := by decide +kernel
theorem wp_X11_holds : hr_wp mi_X11_holds = true := by decide +kernel
def wi_X11_strengthOf : hr_WI := ((7, 86), (1, 11), (7, 85), (0, 85), 0)
theorem wo_X11_strengthOf : hr_wq mi_X11_strengthOf wi_X11_strengthOf = true := by decide +kernel
theorem wp_X11_strengthOf : hr_wp mi_X11_strengthOf = true := by decide +kernel
def wi_X11_hand : hr_WI := ((7, 70), (1, 11), (7, 69), (0, 81), 0)
theorem wo_X11_hand : hr_wq mi_X11_hand wi_X11_hand = true := by decide +kernel
theorem wp_X11_hand : hr_wp mi_X11_hand = true := by decide +kernel
def wi_X11_isHue : hr_WI := ((7, 105), (1, 11), (7, 104), (0, 89), 0)
theorem wo_X11_isHue : hr_wq mi_X11_isHue wi_X11_isHue = true := by decide +kernel
theorem wp_X11_isHue : hr_wp mi_X11_isHue = true := by decide +kernel
def wi_X11_clash : hr_WI := ((7, 117), (1, 11), (7, 116), (0, 92), 0)
theorem wo_X11_clash : hr_wq mi_X11_clash wi_X11_clash = true := by decide +kernel
theorem wp_X11_clash : hr_wp mi_X11_clash = true := by decide +kernel
def wi_X11_mindsColour : hr_WI := ((7, 136), (1, 11), (7, 135), (0, 96), 0)
theorem wo_X11_mindsColour : hr_wq mi_X11_mindsColour wi_X11_mindsColour = true := by decide +kernel
theorem wp_X11_mindsColour : hr_wp mi_X11_mindsColour = true := by decide +kernel
def wi_X11_isBorne : hr_WI := ((7, 132), (1, 11), (7, 131), (0, 95), 0)
theorem wo_X11_isBorne : hr_wq mi_X11_isBorne wi_X11_isBorne = true := by decide +kernel
theorem wp_X11_isBorne : hr_wp mi_X11_isBorne = true := by decide +kernel
def wi_X11_clashes : hr_WI := ((7, 113), (1, 11), (7, 112), (0, 91), 0)
theorem wo_X11_clashes : hr_wq mi_X11_clashes wi_X11_clashes = true := by decide +kernel
theorem wp_X11_clashes : hr_wp mi_X11_clashes = true := by decide +kernel
def wi_X11_meek : hr_WI := ((7, 109), (1, 11), (7, 108), (0, 90), 0)
theorem wo_X11_meek : hr_wq mi_X11_meek wi_X11_meek = true := by decide +kernel
theorem wp_X11_meek : hr_wp mi_X11_meek = true := by decide +kernel
def wi_X11_fierce : hr_WI := ((7, 121), (1, 11), (7, 120), (0, 93), 0)
theorem wo_X11_fierce : hr_wq mi_X11_fierce wi_X11_fierce = true := by decide +kernel
theorem wp_X11_fierce : hr_wp mi_X11_fierce = true := by decide +kernel
def wi_X11_partsOf : hr_WI := ((7, 128), (1, 11), (7, 127), (0, 0), 1)
theorem wo_X11_partsOf : hr_wq mi_X11_partsOf wi_X11_partsOf = true := by decide +kernel
theorem wp_X11_partsOf : hr_wp mi_X11_partsOf = true := by decide +kernel
def wi_X11_dot : hr_WI := ((7, 125), (1, 11), (7, 124), (0, 94), 0)
theorem wo_X11_dot : hr_wq mi_X11_dot wi_X11_dot = true := by decide +kernel
theorem wp_X11_dot : hr_wp mi_X11_dot = true := by decide +kernel
def wi_X11_palette : hr_WI := ((7, 66), (1, 11), (7, 64), (7, 65), 0)
theorem wo_X11_palette : hr_wq mi_X11_palette wi_X11_palette = true := by decide +kernel
theorem wp_X11_palette : hr_wp mi_X11_palette = true := by decide +kernel
def wi_X11_rule : hr_WI := ((7, 144), (1, 11), (7, 142), (7, 143), 0)
theorem wo_X11_rule : hr_wq mi_X11_rule wi_X11_rule = true := by decide +kernel
theorem wp_X11_rule : hr_wp mi_X11_rule = true := by decide +kernel
def wi_X11_strength : hr_WI := ((7, 148), (1, 11), (7, 146), (7, 147), 0)
theorem wo_X11_strength : hr_wq mi_X11_strength wi_X11_strength = true := by decide +kernel
theorem wp_X11_strength : hr_wp mi_X11_strength = true := by decide +kernel
def wi_X11_minds : hr_WI := ((7, 152), (1, 11), (7, 150), (7, 151), 0)
theorem wo_X11_minds : hr_wq mi_X11_minds wi_X11_minds = true := by decide +kernel
theorem wp_X11_minds : hr_wp mi_X11_minds = true := by decide +kernel
def wi_X11_pictures : hr_WI := ((7, 164), (1, 11), (7, 163), (0, 99), 0)
theorem wo_X11_pictures : hr_wq mi_X11_pictures wi_X11_pictures = true := by decide +kernel
theorem wp_X11_pictures : hr_wp mi_X11_pictures = true := by decide +kernel
def wi_X11_limit : hr_WI := ((7, 168), (1, 11), (7, 167), (0, 100), 0)
theorem wo_X11_limit : hr_wq mi_X11_limit wi_X11_limit = true := by decide +kernel
theorem wp_X11_limit : hr_wp mi_X11_limit = true := by decide +kernel
def wi_X11_hueOf : hr_WI := ((7, 172), (1, 11), (7, 171), (0, 101), 0)
theorem wo_X11_hueOf : hr_wq mi_X11_hueOf wi_X11_hueOf = true := by decide +kernel
theorem wp_X11_hueOf : hr_wp mi_X11_hueOf = true := by decide +kernel
def wi_X11_areaOf : hr_WI := ((7, 176), (1, 11), (7, 175), (0, 102), 0)
theorem wo_X11_areaOf : hr_wq mi_X11_areaOf wi_X11_areaOf = true := by decide +kernel
theorem wp_X11_areaOf : hr_wp mi_X11_areaOf = true := by decide +kernel
def wi_X11_hasGallery : hr_WI := ((7, 160), (1, 11), (7, 159), (0, 98), 0)
theorem wo_X11_hasGallery : hr_wq mi_X11_hasGallery wi_X11_hasGallery = true := by decide +kernel
theorem wp_X11_hasGallery : hr_wp mi_X11_hasGallery = true := by decide +kernel
def wi_X11_gallery : hr_WI := ((7, 156), (1, 11), (7, 154), (7, 155), 0)
theorem wo_X11_gallery : hr_wq mi_X11_gallery wi_X11_gallery = true := by decide +kernel
theorem wp_X11_gallery : hr_wp mi_X11_gallery = true := by decide +kernel
def wi_X11_layGallery : hr_WI := ((7, 200), (1, 11), (7, 199), (0, 106), 0)
theorem wo_X11_layGallery : hr_wq mi_X11_layGallery wi_X11_layGallery = true := by decide +kernel
theorem wp_X11_layGallery : hr_wp mi_X11_layGallery = true := by decide +kernel
def wi_X11_deeds : hr_WI := ((7, 188), (1, 11), (7, 187), (0, 104), 0)
theorem wo_X11_deeds : hr_wq mi_X11_deeds wi_X11_deeds = true := by decide +kernel
theorem wp_X11_deeds : hr_wp mi_X11_deeds = true := by decide +kernel
def wi_X11_deedOf : hr_WI := ((7, 192), (1, 11), (7, 191), (0, 105), 0)
theorem wo_X11_deedOf : hr_wq mi_X11_deedOf wi_X11_deedOf = true := by decide +kernel
theorem wp_X11_deedOf : hr_wp mi_X11_deedOf = true := by decide +kernel
def wi_X11_hasDay : hr_WI := ((7, 184), (1, 11), (7, 183), (0, 103), 0)
theorem wo_X11_hasDay : hr_wq mi_X11_hasDay wi_X11_hasDay = true := by decide +kernel
theorem wp_X11_hasDay : hr_wp mi_X11_hasDay = true := by decide +kernel
def wi_X11_deed : hr_WI := ((7, 180), (1, 11), (7, 178), (7, 179), 0)
theorem wo_X11_deed : hr_wq mi_X11_deed wi_X11_deed = true := by decide +kernel
theorem wp_X11_deed : hr_wp mi_X11_deed = true := by decide +kernel
def wi_X11_begin : hr_WI := ((7, 208), (1, 11), (7, 207), (0, 108), 0)
theorem wo_X11_begin : hr_wq mi_X11_begin wi_X11_begin = true := by decide +kernel
theorem wp_X11_begin : hr_wp mi_X11_begin = true := by decide +kernel
def wi_X11_thing : hr_WI := ((7, 224), (1, 11), (7, 223), (0, 112), 0)
theorem wo_X11_thing : hr_wq mi_X11_thing wi_X11_thing = true := by decide +kernel
theorem wp_X11_thing : hr_wp mi_X11_thing = true := by decide +kernel
def wi_X11_rash : hr_WI := ((7, 220), (1, 11), (7, 219), (0, 111), 0)
theorem wo_X11_rash : hr_wq mi_X11_rash wi_X11_rash = true := by decide +kernel
theorem wp_X11_rash : hr_wp mi_X11_rash = true := by decide +kernel
def wi_X11_isClashing : hr_WI := ((7, 228), (1, 11), (7, 227), (0, 113), 0)
theorem wo_X11_isClashing : hr_wq mi_X11_isClashing wi_X11_isClashing = true := by decide +kernel
theorem wp_X11_isClashing : hr_wp mi_X11_isClashing = true := by decide +kernel
def wi_X11_hour : hr_WI := ((7, 216), (1, 11), (7, 215), (0, 110), 0)
theorem wo_X11_hour : hr_wq mi_X11_hour wi_X11_hour = true := by decide +kernel
theorem wp_X11_hour : hr_wp mi_X11_hour = true := by decide +kernel
def wi_X11_does : hr_WI := ((7, 212), (1, 11), (7, 211), (0, 109), 0)
theorem wo_X11_does : hr_wq mi_X11_does wi_X11_does = true := by decide +kernel
theorem wp_X11_does : hr_wp mi_X11_does = true := by decide +kernel
def wi_X11_play : hr_WI := ((7, 204), (1, 11), (7, 203), (0, 107), 0)
theorem wo_X11_play : hr_wq mi_X11_play wi_X11_play = true := by decide +kernel
theorem wp_X11_play : hr_wp mi_X11_play = true := by decide +kernel
def wi_X11_stop : hr_WI := ((7, 196), (1, 11), (7, 194), (7, 195), 0)
theorem wo_X11_stop : hr_wq mi_X11_stop wi_X11_stop = true := by decide +kernel
theorem wp_X11_stop : hr_wp mi_X11_stop = true := by decide +kernel
def wi_X11_state : hr_WI := ((7, 232), (1, 11), (7, 230), (7, 231), 0)
theorem wo_X11_state : hr_wq mi_X11_state wi_X11_state = true := by decide +kernel
theorem wp_X11_state : hr_wp mi_X11_state = true := by decide +kernel
def wi_X11_mind : hr_WI := ((8, 8), (1, 11), (8, 7), (0, 116), 0)
theorem wo_X11_mind : hr_wq mi_X11_mind wi_X11_mind = true := by decide +kernel
theorem wp_X11_mind : hr_wp mi_X11_mind = true := by decide +kernel
def wi_X11_strengthsOf : hr_WI := ((8, 27), (1, 11), (8, 26), (0, 120), 0)
theorem wo_X11_strengthsOf : hr_wq mi_X11_strengthsOf wi_X11_strengthsOf = true := by decide +kernel
theorem wp_X11_strengthsOf : hr_wp mi_X11_strengthsOf = true := by decide +kernel
def wi_X11_isSet : hr_WI := ((8, 4), (1, 11), (8, 3), (0, 115), 0)
theorem wo_X11_isSet : hr_wq mi_X11_isSet wi_X11_isSet = true := by decide +kernel
theorem wp_X11_isSet : hr_wp mi_X11_isSet = true := by decide +kernel
def wi_X11_greatestSet : hr_WI := ((8, 12), (1, 11), (8, 11), (0, 117), 0)
theorem wo_X11_greatestSet : hr_wq mi_X11_greatestSet wi_X11_greatestSet = true := by decide +kernel
theorem wp_X11_greatestSet : hr_wp mi_X11_greatestSet = true := by decide +kernel
def wi_X11_curtains : hr_WI := ((8, 19), (1, 11), (8, 18), (0, 118), 0)
theorem wo_X11_curtains : hr_wq mi_X11_curtains wi_X11_curtains = true := by decide +kernel
theorem wp_X11_curtains : hr_wp mi_X11_curtains = true := by decide +kernel
def wi_X11_fewestRooms : hr_WI := ((8, 0), (1, 11), (7, 239), (0, 114), 0)
theorem wo_X11_fewestRooms : hr_wq mi_X11_fewestRooms wi_X11_fewestRooms = true := by decide +kernel
theorem wp_X11_fewestRooms : hr_wp mi_X11_fewestRooms = true := by decide +kernel
def wi_X11_worst : hr_WI := ((8, 23), (1, 11), (8, 22), (0, 119), 0)
theorem wo_X11_worst : hr_wq mi_X11_worst wi_X11_worst = true := by decide +kernel
theorem wp_X11_worst : hr_wp mi_X11_worst = true := by decide +kernel
def wi_X11_hung : hr_WI := ((7, 236), (1, 11), (7, 234), (7, 235), 0)
theorem wo_X11_hung : hr_wq mi_X11_hung wi_X11_hung = true := by decide +kernel
theorem wp_X11_hung : hr_wp mi_X11_hung = true := by decide +kernel
def wi_X11_follows : hr_WI := ((8, 48), (1, 11), (8, 47), (0, 124), 0)
theorem wo_X11_follows : hr_wq mi_X11_follows wi_X11_follows = true := by decide +kernel
theorem wp_X11_follows : hr_wp mi_X11_follows = true := by decide +kernel
def wi_X11_findBehind : hr_WI := ((8, 44), (1, 11), (8, 43), (0, 123), 0)
theorem wo_X11_findBehind : hr_wq mi_X11_findBehind wi_X11_findBehind = true := by decide +kernel
theorem wp_X11_findBehind : hr_wp mi_X11_findBehind = true := by decide +kernel
def wi_X11_allRows : hr_WI := ((8, 40), (1, 11), (8, 39), (0, 122), 0)
theorem wo_X11_allRows : hr_wq mi_X11_allRows wi_X11_allRows = true := by decide +kernel
theorem wp_X11_allRows : hr_wp mi_X11_allRows = true := by decide +kernel
def wi_X11_rowAt : hr_WI := ((8, 56), (1, 11), (8, 55), (0, 125), 0)
theorem wo_X11_rowAt : hr_wq mi_X11_rowAt wi_X11_rowAt = true := by decide +kernel
theorem wp_X11_rowAt : hr_wp mi_X11_rowAt = true := by decide +kernel
def wi_X11_layPictures : hr_WI := ((8, 36), (1, 11), (8, 35), (0, 121), 0)
theorem wo_X11_layPictures : hr_wq mi_X11_layPictures wi_X11_layPictures = true := by decide +kernel
theorem wp_X11_layPictures : hr_wp mi_X11_layPictures = true := by decide +kernel
def wi_X11_layThreads : hr_WI := ((8, 84), (1, 11), (8, 83), (0, 129), 0)
theorem wo_X11_layThreads : hr_wq mi_X11_layThreads wi_X11_layThreads = true := by decide +kernel
theorem wp_X11_layThreads : hr_wp mi_X11_layThreads = true := by decide +kernel
def wi_X11_rows : hr_WI := ((8, 31), (1, 11), (8, 29), (8, 30), 0)
theorem wo_X11_rows : hr_wq mi_X11_rows wi_X11_rows = true := by decide +kernel
theorem wp_X11_rows : hr_wp mi_X11_rows = true := by decide +kernel
def wi_X11_row : hr_WI := ((8, 52), (1, 11), (8, 50), (8, 51), 0)
theorem wo_X11_row : hr_wq mi_X11_row wi_X11_row = true := by decide +kernel
theorem wp_X11_row : hr_wp mi_X11_row = true := by decide +kernel
def wi_X11_paintCost : hr_WI := ((8, 72), (1, 11), (8, 71), (0, 127), 0)
theorem wo_X11_paintCost : hr_wq mi_X11_paintCost wi_X11_paintCost = true := by decide +kernel
theorem wp_X11_paintCost : hr_wp mi_X11_paintCost = true := by decide +kernel
def wi_X11_findPaint : hr_WI := ((8, 64), (1, 11), (8, 63), (0, 126), 0)
theorem wo_X11_findPaint : hr_wq mi_X11_findPaint wi_X11_findPaint = true := by decide +kernel
theorem wp_X11_findPaint : hr_wp mi_X11_findPaint = true := by decide +kernel
def wi_X11_paintedAt : hr_WI := ((8, 76), (1, 11), (8, 75), (0, 128), 0)
theorem wo_X11_paintedAt : hr_wq mi_X11_paintedAt wi_X11_paintedAt = true := by decide +kernel
theorem wp_X11_paintedAt : hr_wp mi_X11_paintedAt = true := by decide +kernel
def wi_X11_repainted : hr_WI := ((8, 60), (1, 11), (8, 58), (8, 59), 0)
theorem wo_X11_repainted : hr_wq mi_X11_repainted wi_X11_repainted = true := by decide +kernel
theorem wp_X11_repainted : hr_wp mi_X11_repainted = true := by decide +kernel
def wi_X11_loom : hr_WI := ((8, 80), (1, 11), (8, 78), (8, 79), 0)
theorem wo_X11_loom : hr_wq mi_X11_loom wi_X11_loom = true := by decide +kernel
theorem wp_X11_loom : hr_wp mi_X11_loom = true := by decide +kernel
def wi_X11_thread : hr_WI := ((8, 88), (1, 11), (8, 86), (8, 87), 0)
theorem wo_X11_thread : hr_wq mi_X11_thread wi_X11_thread = true := by decide +kernel
theorem wp_X11_thread : hr_wp mi_X11_thread = true := by decide +kernel
def wi_X11_mixed : hr_WI := ((8, 108), (1, 11), (8, 107), (0, 133), 0)
theorem wo_X11_mixed : hr_wq mi_X11_mixed wi_X11_mixed = true := by decide +kernel
theorem wp_X11_mixed : hr_wp mi_X11_mixed = true := by decide +kernel
def wi_X11_findNeeds : hr_WI := ((8, 104), (1, 11), (8, 103), (0, 132), 0)
theorem wo_X11_findNeeds : hr_wq mi_X11_findNeeds wi_X11_findNeeds = true := by decide +kernel
theorem wp_X11_findNeeds : hr_wp mi_X11_findNeeds = true := by decide +kernel
def wi_X11_colourOf : hr_WI := ((8, 96), (1, 11), (8, 95), (0, 130), 0)
theorem wo_X11_colourOf : hr_wq mi_X11_colourOf wi_X11_colourOf = true := by decide +kernel
theorem wp_X11_colourOf : hr_wp mi_X11_colourOf = true := by decide +kernel
def wi_X11_isBorneHue : hr_WI := ((8, 100), (1, 11), (8, 99), (0, 131), 0)
theorem wo_X11_isBorneHue : hr_wq mi_X11_isBorneHue wi_X11_isBorneHue = true := by decide +kernel
theorem wp_X11_isBorneHue : hr_wp mi_X11_isBorneHue = true := by decide +kernel
def wi_X11_mix : hr_WI := ((8, 92), (1, 11), (8, 90), (8, 91), 0)
theorem wo_X11_mix : hr_wq mi_X11_mix wi_X11_mix = true := by decide +kernel
theorem wp_X11_mix : hr_wp mi_X11_mix = true := by decide +kernel
def wi_X11_leastOf : hr_WI := ((8, 119), (1, 11), (8, 118), (0, 0), 1)
theorem wo_X11_leastOf : hr_wq mi_X11_leastOf wi_X11_leastOf = true := by decide +kernel
theorem wp_X11_leastOf : hr_wp mi_X11_leastOf = true := by decide +kernel
def wi_X11_findCouples : hr_WI := ((8, 116), (1, 11), (8, 115), (0, 134), 0)
theorem wo_X11_findCouples : hr_wq mi_X11_findCouples wi_X11_findCouples = true := by decide +kernel
theorem wp_X11_findCouples : hr_wp mi_X11_findCouples = true := by decide +kernel
def wi_X11_allyOf : hr_WI := ((8, 123), (1, 11), (8, 122), (0, 135), 0)
theorem wo_X11_allyOf : hr_wq mi_X11_allyOf wi_X11_allyOf = true := by decide +kernel
theorem wp_X11_allyOf : hr_wp mi_X11_allyOf = true := by decide +kernel
def wi_X11_flags : hr_WI := ((8, 112), (1, 11), (8, 110), (8, 111), 0)
theorem wo_X11_flags : hr_wq mi_X11_flags wi_X11_flags = true := by decide +kernel
theorem wp_X11_flags : hr_wp mi_X11_flags = true := by decide +kernel
def wi_X11_gainOf : hr_WI := ((8, 135), (1, 11), (8, 134), (0, 137), 0)
theorem wo_X11_gainOf : hr_wq mi_X11_gainOf wi_X11_gainOf = true := by decide +kernel
theorem wp_X11_gainOf : hr_wp mi_X11_gainOf = true := by decide +kernel
def wi_X11_isCouple : hr_WI := ((8, 131), (1, 11), (8, 130), (0, 136), 0)
theorem wo_X11_isCouple : hr_wq mi_X11_isCouple wi_X11_isCouple = true := by decide +kernel
theorem wp_X11_isCouple : hr_wp mi_X11_isCouple = true := by decide +kernel
def wi_X11_gain : hr_WI := ((8, 127), (1, 11), (8, 125), (8, 126), 0)
theorem wo_X11_gain : hr_wq mi_X11_gain wi_X11_gain = true := by decide +kernel
theorem wp_X11_gain : hr_wp mi_X11_gain = true := by decide +kernel
def wi_X11_isRest : hr_WI := ((8, 143), (1, 11), (8, 142), (0, 138), 0)
theorem wo_X11_isRest : hr_wq mi_X11_isRest wi_X11_isRest = true := by decide +kernel
theorem wp_X11_isRest : hr_wp mi_X11_isRest = true := by decide +kernel
def wi_X11_rest : hr_WI := ((8, 139), (1, 11), (8, 137), (8, 138), 0)
theorem wo_X11_rest : hr_wq mi_X11_rest wi_X11_rest = true := by decide +kernel
theorem wp_X11_rest : hr_wp mi_X11_rest = true := by decide +kernel
def wi_X11_spread : hr_WI := ((8, 147), (1, 11), (8, 145), (8, 146), 0)
theorem wo_X11_spread : hr_wq mi_X11_spread wi_X11_spread = true := by decide +kernel
theorem wp_X11_spread : hr_wp mi_X11_spread = true := by decide +kernel
def wi_X11_sneezes : hr_WI := ((8, 159), (1, 11), (8, 158), (0, 140), 0)
theorem wo_X11_sneezes : hr_wq mi_X11_sneezes wi_X11_sneezes = true := by decide +kernel
theorem wp_X11_sneezes : hr_wp mi_X11_sneezes = true := by decide +kernel
def wi_X11_sneezeOf : hr_WI := ((8, 163), (1, 11), (8, 162), (0, 141), 0)
theorem wo_X11_sneezeOf : hr_wq mi_X11_sneezeOf wi_X11_sneezeOf = true := by decide +kernel
theorem wp_X11_sneezeOf : hr_wp mi_X11_sneezeOf = true := by decide +kernel
def wi_X11_hasSight : hr_WI := ((8, 155), (1, 11), (8, 154), (0, 139), 0)
theorem wo_X11_hasSight : hr_wq mi_X11_hasSight wi_X11_hasSight = true := by decide +kernel
theorem wp_X11_hasSight : hr_wp mi_X11_hasSight = true := by decide +kernel
def wi_X11_sneeze : hr_WI := ((8, 151), (1, 11), (8, 149), (8, 150), 0)
theorem wo_X11_sneeze : hr_wq mi_X11_sneeze wi_X11_sneeze = true := by decide +kernel
theorem wp_X11_sneeze : hr_wp mi_X11_sneeze = true := by decide +kernel
def wi_X11_laySingle : hr_WI := ((8, 179), (1, 11), (8, 178), (0, 144), 0)
theorem wo_X11_laySingle : hr_wq mi_X11_laySingle wi_X11_laySingle = true := by decide +kernel
theorem wp_X11_laySingle : hr_wp mi_X11_laySingle = true := by decide +kernel
def wi_X11_holdsOf : hr_WI := ((8, 183), (1, 11), (8, 182), (0, 145), 0)
theorem wo_X11_holdsOf : hr_wq mi_X11_holdsOf wi_X11_holdsOf = true := by decide +kernel
theorem wp_X11_holdsOf : hr_wp mi_X11_holdsOf = true := by decide +kernel
def wi_X11_isFitting : hr_WI := ((8, 175), (1, 11), (8, 174), (0, 143), 0)
theorem wo_X11_isFitting : hr_wq mi_X11_isFitting wi_X11_isFitting = true := by decide +kernel
theorem wp_X11_isFitting : hr_wp mi_X11_isFitting = true := by decide +kernel
def wi_X11_layFits : hr_WI := ((8, 171), (1, 11), (8, 170), (0, 142), 0)
theorem wo_X11_layFits : hr_wq mi_X11_layFits wi_X11_layFits = true := by decide +kernel
theorem wp_X11_layFits : hr_wp mi_X11_layFits = true := by decide +kernel
def wi_X11_tells : hr_WI := ((8, 187), (1, 11), (8, 186), (0, 146), 0)
theorem wo_X11_tells : hr_wq mi_X11_tells wi_X11_tells = true := by decide +kernel
theorem wp_X11_tells : hr_wp mi_X11_tells = true := by decide +kernel
def wi_X11_fits : hr_WI := ((8, 167), (1, 11), (8, 165), (8, 166), 0)
theorem wo_X11_fits : hr_wq mi_X11_fits wi_X11_fits = true := by decide +kernel
theorem wp_X11_fits : hr_wp mi_X11_fits = true := by decide +kernel
def wi_X11_guests : hr_WI := ((8, 199), (1, 11), (8, 198), (0, 148), 0)
theorem wo_X11_guests : hr_wq mi_X11_guests wi_X11_guests = true := by decide +kernel
theorem wp_X11_guests : hr_wp mi_X11_guests = true := by decide +kernel
def wi_X11_worn : hr_WI := ((8, 203), (1, 11), (8, 202), (0, 149), 0)
theorem wo_X11_worn : hr_wq mi_X11_worn wi_X11_worn = true := by decide +kernel
theorem wp_X11_worn : hr_wp mi_X11_worn = true := by decide +kernel
def wi_X11_hasDinner : hr_WI := ((8, 195), (1, 11), (8, 194), (0, 147), 0)
theorem wo_X11_hasDinner : hr_wq mi_X11_hasDinner wi_X11_hasDinner = true := by decide +kernel
theorem wp_X11_hasDinner : hr_wp mi_X11_hasDinner = true := by decide +kernel
def wi_X11_guest : hr_WI := ((8, 191), (1, 11), (8, 189), (8, 190), 0)
theorem wo_X11_guest : hr_wq mi_X11_guest wi_X11_guest = true := by decide +kernel
theorem wp_X11_guest : hr_wp mi_X11_guest = true := by decide +kernel
def wi_X11_layDinner : hr_WI := ((8, 211), (1, 11), (8, 210), (0, 150), 0)
theorem wo_X11_layDinner : hr_wq mi_X11_layDinner wi_X11_layDinner = true := by decide +kernel
theorem wp_X11_layDinner : hr_wp mi_X11_layDinner = true := by decide +kernel
def wi_X11_findRest : hr_WI := ((8, 219), (1, 11), (8, 218), (0, 152), 0)
theorem wo_X11_findRest : hr_wq mi_X11_findRest wi_X11_findRest = true := by decide +kernel
theorem wp_X11_findRest : hr_wp mi_X11_findRest = true := by decide +kernel
def wi_X11_allWays : hr_WI := ((8, 215), (1, 11), (8, 214), (0, 151), 0)
theorem wo_X11_allWays : hr_wq mi_X11_allWays wi_X11_allWays = true := by decide +kernel
theorem wp_X11_allWays : hr_wp mi_X11_allWays = true := by decide +kernel
def wi_X11_ways : hr_WI := ((8, 207), (1, 11), (8, 205), (8, 206), 0)
theorem wo_X11_ways : hr_wq mi_X11_ways wi_X11_ways = true := by decide +kernel
theorem wp_X11_ways : hr_wp mi_X11_ways = true := by decide +kernel
def wi_X11_wornAt : hr_WI := ((8, 231), (1, 11), (8, 230), (0, 154), 0)
theorem wo_X11_wornAt : hr_wq mi_X11_wornAt wi_X11_wornAt = true := by decide +kernel
theorem wp_X11_wornAt : hr_wp mi_X11_wornAt = true := by decide +kernel
def wi_X11_few : hr_WI := ((8, 227), (1, 11), (8, 226), (0, 153), 0)
theorem wo_X11_few : hr_wq mi_X11_few wi_X11_few = true := by decide +kernel
theorem wp_X11_few : hr_wp mi_X11_few = true := by decide +kernel
def wi_X11_dinner : hr_WI := ((8, 223), (1, 11), (8, 221), (8, 222), 0)
theorem wo_X11_dinner : hr_wq mi_X11_dinner wi_X11_dinner = true := by decide +kernel
theorem wp_X11_dinner : hr_wp mi_X11_dinner = true := by decide +kernel
def wi_X11_draw : hr_WI := ((9, 7), (1, 11), (9, 6), (0, 157), 0)
theorem wo_X11_draw : hr_wq mi_X11_draw wi_X11_draw = true := by decide +kernel
theorem wp_X11_draw : hr_wp mi_X11_draw = true := by decide +kernel
def wi_X11_picked : hr_WI := ((9, 3), (1, 11), (9, 2), (0, 156), 0)
theorem wo_X11_picked : hr_wq mi_X11_picked wi_X11_picked = true := by decide +kernel
theorem wp_X11_picked : hr_wp mi_X11_picked = true := by decide +kernel
def wi_X11_evening : hr_WI := ((8, 239), (1, 11), (8, 238), (0, 155), 0)
theorem wo_X11_evening : hr_wq mi_X11_evening wi_X11_evening = true := by decide +kernel
theorem wp_X11_evening : hr_wp mi_X11_evening = true := by decide +kernel
def wi_X11_drawn : hr_WI := ((8, 235), (1, 11), (8, 233), (8, 234), 0)
theorem wo_X11_drawn : hr_wq mi_X11_drawn wi_X11_drawn = true := by decide +kernel
theorem wp_X11_drawn : hr_wp mi_X11_drawn = true := by decide +kernel
def wi_X11_count : hr_WI := ((9, 12), (1, 11), (9, 10), (9, 11), 0)
theorem wo_X11_count : hr_wq mi_X11_count wi_X11_count = true := by decide +kernel
theorem wp_X11_count : hr_wp mi_X11_count = true := by decide +kernel
def wi_X11_image : hr_WI := ((9, 16), (1, 11), (9, 14), (9, 15), 0)
theorem wo_X11_image : hr_wq mi_X11_image wi_X11_image = true := by decide +kernel
theorem wp_X11_image : hr_wp mi_X11_image = true := by decide +kernel
def wi_X11_again : hr_WI := ((9, 27), (1, 11), (9, 25), (9, 26), 0)
theorem wo_X11_again : hr_wq mi_X11_again wi_X11_again = true := by decide +kernel
theorem wp_X11_again : hr_wp mi_X11_again = true := by decide +kernel
def wi_J6_bitCount_0f7a4 : hr_WI := ((4, 19), (1, 18), (4, 18), (0, 0), 1)
theorem wo_J6_bitCount_0f7a4 : hr_wq mi_J6_bitCount_0f7a4 wi_J6_bitCount_0f7a4 = true := by decide +kernel
theorem wp_J6_bitCount_0f7a4 : hr_wp mi_J6_bitCount_0f7a4 = true := by decide +kernel
def hr_wI0 : List hr_WI := [wi_X0_repaint, wi_X0_costOf, wi_X0_leastCost, wi_X0_hueOfCost, wi_X0_blend, wi_X0_enqueue, wi_X0_pour, wi_X1_forget, wi_X1_gatherHues, wi_X1_gatherPictures, wi_X1_join, wi_X1_findFoes, wi_X1_everyone, wi_X1_lineUp, wi_X1_ordersBegunBy, wi_X1_findFirstOrder, wi_X1_leastBeginner, wi_X1_placed, wi_X1_findQuiet, wi_X1_fewestParts, wi_X1_fewestPartsOf, wi_X1_greatestQuarrel, wi_X1_isQuarrel, wi_X1_fewestHidden, wi_X1_couple, wi_X1_mostCouplesOf, wi_X1_leastAlly, wi_X2_forget, wi_X2_look, wi_X2_propose]
def hr_wI1 : List hr_WI := [wi_X2_fitting, wi_X2_mostTelling, wi_X2_countSums, wi_X3_sort, wi_X3_code, wi_X3_firstCanBe, wi_X3_secondCanBe, wi_X3_thirdCanBe, wi_X4_clear, wi_X4_addHue, wi_X4_addRule, wi_X4_setLikes, wi_X4_copyFrom, wi_X4_all, wi_X4_has, wi_X4_hasAll, wi_X4_part, wi_X4_total, wi_X4_strengthOf, wi_X4_foesOf, wi_X4_foesOfAny, wi_X4_answer, wi_X4_partOrLikes, wi_X4_meek, wi_X4_fiercest, wi_X4_dotColour, wi_X4_findDot, wi_X4_foesOfColour, wi_X4_strengthWith, wi_X4_wouldHold]
def hr_wI2 : List hr_WI := [wi_X4_gainOf, wi_X4_isRest, wi_X4_worstOf, wi_X4_strengthsOf, wi_X4_findStrengths, wi_X4_strengthOfHues, wi_X4_findHolders, wi_X4_addHolders, wi_X4_measure, wi_X4_measureOf, wi_X4_touches, wi_X5_read, wi_X5_note, wi_X5_readLine, wi_X5_readNumbers, wi_X5_readGuestHues, wi_X5_take, wi_X5_isFull, wi_X5_badPlace, wi_X5_keepInPalette, wi_X5_keepInRoll, wi_X5_lineNamed, wi_X5_spells, wi_X5_advance, wi_X5_readDigits, wi_X5_byteAt, wi_X5_isBlank, wi_X5_isLetter, wi_X5_isDigit, wi_X6_clear]
def hr_wI3 : List hr_WI := [wi_X6_has, wi_X6_name, wi_X6_add, wi_X6_copyFrom, wi_X7_seat, wi_X7_waysBegunBy, wi_X7_waysBehind, wi_X7_dressAtFirst, wi_X7_fewestHues, wi_X7_canDress, wi_X7_canDressFrom, wi_X7_dine, wi_X7_hueAt, wi_X7_strengthsRound, wi_X8_put, wi_X8_slotFor, wi_X8_keep, wi_X8_paletteAt, wi_X8_rollAt, wi_X8_copyFrom, wi_X8_rollIndex, wi_X9_go, wi_X9_begin, wi_X9_act, wi_X9_move, wi_X9_passHour, wi_X9_rashOf, wi_X9_gatherThings, wi_X9_addThing, wi_X9_markFading]
def hr_wI4 : List hr_WI := [wi_X9_answer, wi_X9_answerOf, wi_X10_feed, wi_X10_end, wi_X10_text, wi_X10_fault, wi_X10_palette, wi_X10_rule, wi_X10_strength, wi_X10_minds, wi_X10_gallery, wi_X10_deed, wi_X10_stop, wi_X10_state, wi_X10_hung, wi_X10_rows, wi_X10_row, wi_X10_repainted, wi_X10_loom, wi_X10_thread, wi_X10_mix, wi_X10_flags, wi_X10_gain, wi_X10_rest, wi_X10_spread, wi_X10_sneeze, wi_X10_fits, wi_X10_guest, wi_X10_ways, wi_X10_dinner]
def hr_wI5 : List hr_WI := [wi_X10_drawn, wi_X10_count, wi_X10_image, wi_X10_again, wi_X10_forgetAnswers, wi_X10_lineUpPictures, wi_X10_lineUpHues, wi_X10_lineOf, wi_X10_goTogether, wi_X10_isTone, wi_X10_holdsBit, wi_X10_leastOf, wi_X11_in, wi_X11_has, wi_X11_greater, wi_X11_lesser, wi_X11_size, wi_X11_ones, wi_X11_copyRow, wi_X11_copyAll, wi_X11_is, wi_X11_feed, wi_X11_four, wi_X11_end, wi_X11_see, wi_X11_token, wi_X11_fails, wi_X11_later, wi_X11_takeBut, wi_X11_take]
def hr_wI6 : List hr_WI := [wi_X11_full, wi_X11_keep, wi_X11_hueLine, wi_X11_likesLine, wi_X11_ruleNumbers, wi_X11_paletteLine, wi_X11_galleryLine, wi_X11_deedBy, wi_X11_deedNumbers, wi_X11_dayLine, wi_X11_sightLine, wi_X11_dinnerLine, wi_X11_lineOf, wi_X11_lines, wi_X11_readText, wi_X11_store, wi_X11_storeAll, wi_X11_text, wi_X11_fault, wi_X11_of, wi_X11_part, wi_X11_ruleOf, wi_X11_layHue, wi_X11_layColour, wi_X11_allParts, wi_X11_holds, wi_X11_strengthOf, wi_X11_hand, wi_X11_isHue, wi_X11_clash]
def hr_wI7 : List hr_WI := [wi_X11_mindsColour, wi_X11_isBorne, wi_X11_clashes, wi_X11_meek, wi_X11_fierce, wi_X11_partsOf, wi_X11_dot, wi_X11_palette, wi_X11_rule, wi_X11_strength, wi_X11_minds, wi_X11_pictures, wi_X11_limit, wi_X11_hueOf, wi_X11_areaOf, wi_X11_hasGallery, wi_X11_gallery, wi_X11_layGallery, wi_X11_deeds, wi_X11_deedOf, wi_X11_hasDay, wi_X11_deed, wi_X11_begin, wi_X11_thing, wi_X11_rash, wi_X11_isClashing, wi_X11_hour, wi_X11_does, wi_X11_play, wi_X11_stop]
def hr_wI8 : List hr_WI := [wi_X11_state, wi_X11_mind, wi_X11_strengthsOf, wi_X11_isSet, wi_X11_greatestSet, wi_X11_curtains, wi_X11_fewestRooms, wi_X11_worst, wi_X11_hung, wi_X11_follows, wi_X11_findBehind, wi_X11_allRows, wi_X11_rowAt, wi_X11_layPictures, wi_X11_layThreads, wi_X11_rows, wi_X11_row, wi_X11_paintCost, wi_X11_findPaint, wi_X11_paintedAt, wi_X11_repainted, wi_X11_loom, wi_X11_thread, wi_X11_mixed, wi_X11_findNeeds, wi_X11_colourOf, wi_X11_isBorneHue, wi_X11_mix, wi_X11_leastOf, wi_X11_findCouples]
def hr_wI9 : List hr_WI := [wi_X11_allyOf, wi_X11_flags, wi_X11_gainOf, wi_X11_isCouple, wi_X11_gain, wi_X11_isRest, wi_X11_rest, wi_X11_spread, wi_X11_sneezes, wi_X11_sneezeOf, wi_X11_hasSight, wi_X11_sneeze, wi_X11_laySingle, wi_X11_holdsOf, wi_X11_isFitting, wi_X11_layFits, wi_X11_tells, wi_X11_fits, wi_X11_guests, wi_X11_worn, wi_X11_hasDinner, wi_X11_guest, wi_X11_layDinner, wi_X11_findRest, wi_X11_allWays, wi_X11_ways, wi_X11_wornAt, wi_X11_few, wi_X11_dinner, wi_X11_draw]
def hr_wI10 : List hr_WI := [wi_X11_picked, wi_X11_evening, wi_X11_drawn, wi_X11_count, wi_X11_image, wi_X11_again, wi_J6_bitCount_0f7a4]
def hr_wI : List hr_WI := hr_wI0 ++ (hr_wI1 ++ (hr_wI2 ++ (hr_wI3 ++ (hr_wI4 ++ (hr_wI5 ++ (hr_wI6 ++ (hr_wI7 ++ (hr_wI8 ++ (hr_wI9 ++ (hr_wI10))))))))))
abbrev hr_wz (q : hr_MI × hr_WI) : Prop := hr_wq q.1 q.2 = true ∧ hr_wp q.1 = true
theorem hr_wo0 : ∀ q ∈ hr_mL0.zip hr_wI0, hr_wz q := List.forall_mem_cons.mpr ⟨⟨wo_X0_repaint, wp_X0_repaint⟩, List.forall_mem_cons.mpr ⟨⟨wo_X0_costOf, wp_X0_costOf⟩, List.forall_mem_cons.mpr ⟨⟨wo_X0_leastCost, wp_X0_leastCost⟩, List.forall_mem_cons.mpr ⟨⟨wo_X0_hueOfCost, wp_X0_hueOfCost⟩, List.forall_mem_cons.mpr ⟨⟨wo_X0_blend, wp_X0_blend⟩, List.forall_mem_cons.mpr ⟨⟨wo_X0_enqueue, wp_X0_enqueue⟩, List.forall_mem_cons.mpr ⟨⟨wo_X0_pour, wp_X0_pour⟩, List.forall_mem_cons.mpr ⟨⟨wo_X1_forget, wp_X1_forget⟩, List.forall_mem_cons.mpr ⟨⟨wo_X1_gatherHues, wp_X1_gatherHues⟩, List.forall_mem_cons.mpr ⟨⟨wo_X1_gatherPictures, wp_X1_gatherPictures⟩, List.forall_mem_cons.mpr ⟨⟨wo_X1_join, wp_X1_join⟩, List.forall_mem_cons.mpr ⟨⟨wo_X1_findFoes, wp_X1_findFoes⟩, List.forall_mem_cons.mpr ⟨⟨wo_X1_everyone, wp_X1_everyone⟩, List.forall_mem_cons.mpr ⟨⟨wo_X1_lineUp, wp_X1_lineUp⟩, List.forall_mem_cons.mpr ⟨⟨wo_X1_ordersBegunBy, wp_X1_ordersBegunBy⟩, List.forall_mem_cons.mpr ⟨⟨wo_X1_findFirstOrder, wp_X1_findFirstOrder⟩, List.forall_mem_cons.mpr ⟨⟨wo_X1_leastBeginner, wp_X1_leastBeginner⟩, List.forall_mem_cons.mpr ⟨⟨wo_X1_placed, wp_X1_placed⟩, List.forall_mem_cons.mpr ⟨⟨wo_X1_findQuiet, wp_X1_findQuiet⟩, List.forall_mem_cons.mpr ⟨⟨wo_X1_fewestParts, wp_X1_fewestParts⟩, List.forall_mem_cons.mpr ⟨⟨wo_X1_fewestPartsOf, wp_X1_fewestPartsOf⟩, List.forall_mem_cons.mpr ⟨⟨wo_X1_greatestQuarrel, wp_X1_greatestQuarrel⟩, List.forall_mem_cons.mpr ⟨⟨wo_X1_isQuarrel, wp_X1_isQuarrel⟩, List.forall_mem_cons.mpr ⟨⟨wo_X1_fewestHidden, wp_X1_fewestHidden⟩, List.forall_mem_cons.mpr ⟨⟨wo_X1_couple, wp_X1_couple⟩, List.forall_mem_cons.mpr ⟨⟨wo_X1_mostCouplesOf, wp_X1_mostCouplesOf⟩, List.forall_mem_cons.mpr ⟨⟨wo_X1_leastAlly, wp_X1_leastAlly⟩, List.forall_mem_cons.mpr ⟨⟨wo_X2_forget, wp_X2_forget⟩, List.forall_mem_cons.mpr ⟨⟨wo_X2_look, wp_X2_look⟩, List.forall_mem_cons.mpr ⟨⟨wo_X2_propose, wp_X2_propose⟩, fun _ h => absurd h List.not_mem_nil⟩⟩⟩⟩⟩⟩⟩⟩⟩⟩⟩⟩⟩⟩⟩⟩⟩⟩⟩⟩⟩⟩⟩⟩⟩⟩⟩⟩⟩⟩
theorem hr_wo1 : ∀ q ∈ hr_mL1.zip hr_wI1, hr_wz q := List.forall_mem_cons.mpr ⟨⟨wo_X2_fitting, wp_X2_fitting⟩, List.forall_mem_cons.mpr ⟨⟨wo_X2_mostTelling, wp_X2_mostTelling⟩, List.forall_mem_cons.mpr ⟨⟨wo_X2_countSums, wp_X2_countSums⟩, List.forall_mem_cons.mpr ⟨⟨wo_X3_sort, wp_X3_sort⟩, List.forall_mem_cons.mpr ⟨⟨wo_X3_code, wp_X3_code⟩, List.forall_mem_cons.mpr ⟨⟨wo_X3_firstCanBe, wp_X3_firstCanBe⟩, List.forall_mem_cons.mpr ⟨⟨wo_X3_secondCanBe, wp_X3_secondCanBe⟩, List.forall_mem_cons.mpr ⟨⟨wo_X3_thirdCanBe, wp_X3_thirdCanBe⟩, List.forall_mem_cons.mpr ⟨⟨wo_X4_clear, wp_X4_clear⟩, List.forall_mem_cons.mpr ⟨⟨wo_X4_addHue, wp_X4_addHue⟩, List.forall_mem_cons.mpr ⟨⟨wo_X4_addRule, wp_X4_addRule⟩, List.forall_mem_cons.mpr ⟨⟨wo_X4_setLikes, wp_X4_setLikes⟩, List.forall_mem_cons.mpr ⟨⟨wo_X4_copyFrom, wp_X4_copyFrom⟩, List.forall_mem_cons.mpr ⟨⟨wo_X4_all, wp_X4_all⟩, List.forall_mem_cons.mpr ⟨⟨wo_X4_has, wp_X4_has⟩, List.forall_mem_cons.mpr ⟨⟨wo_X4_hasAll, wp_X4_hasAll⟩, List.forall_mem_cons.mpr ⟨⟨wo_X4_part, wp_X4_part⟩, List.forall_mem_cons.mpr ⟨⟨wo_X4_total, wp_X4_total⟩, List.forall_mem_cons.mpr ⟨⟨wo_X4_strengthOf, wp_X4_strengthOf⟩, List.forall_mem_cons.mpr ⟨⟨wo_X4_foesOf, wp_X4_foesOf⟩, List.forall_mem_cons.mpr ⟨⟨wo_X4_foesOfAny, wp_X4_foesOfAny⟩, List.forall_mem_cons.mpr ⟨⟨wo_X4_answer, wp_X4_answer⟩, List.forall_mem_cons.mpr ⟨⟨wo_X4_partOrLikes, wp_X4_partOrLikes⟩, List.forall_mem_cons.mpr ⟨⟨wo_X4_meek, wp_X4_meek⟩, List.forall_mem_cons.mpr ⟨⟨wo_X4_fiercest, wp_X4_fiercest⟩, List.forall_mem_cons.mpr ⟨⟨wo_X4_dotColour, wp_X4_dotColour⟩, List.forall_mem_cons.mpr ⟨⟨wo_X4_findDot, wp_X4_findDot⟩, List.forall_mem_cons.mpr ⟨⟨wo_X4_foesOfColour, wp_X4_foesOfColour⟩, List.forall_mem_cons.mpr ⟨⟨wo_X4_strengthWith, wp_X4_strengthWith⟩, List.forall_mem_cons.mpr ⟨⟨wo_X4_wouldHold, wp_X4_wouldHold⟩, fun _ h => absurd h List.not_mem_nil⟩⟩⟩⟩⟩⟩⟩⟩⟩⟩⟩⟩⟩⟩⟩⟩⟩⟩⟩⟩⟩⟩⟩⟩⟩⟩⟩⟩⟩⟩
theorem hr_wo2 : ∀ q ∈ hr_mL2.zip hr_wI2, hr_wz q := List.forall_mem_cons.mpr ⟨⟨wo_X4_gainOf, wp_X4_gainOf⟩, List.forall_mem_cons.mpr ⟨⟨wo_X4_isRest, wp_X4_isRest⟩, List.forall_mem_cons.mpr ⟨⟨wo_X4_worstOf, wp_X4_worstOf⟩, List.forall_mem_cons.mpr ⟨⟨wo_X4_strengthsOf, wp_X4_strengthsOf⟩, List.forall_mem_cons.mpr ⟨⟨wo_X4_findStrengths, wp_X4_findStrengths⟩, List.forall_mem_cons.mpr ⟨⟨wo_X4_strengthOfHues, wp_X4_strengthOfHues⟩, List.forall_mem_cons.mpr ⟨⟨wo_X4_findHolders, wp_X4_findHolders⟩, List.forall_mem_cons.mpr ⟨⟨wo_X4_addHolders, wp_X4_addHolders⟩, List.forall_mem_cons.mpr ⟨⟨wo_X4_measure, wp_X4_measure⟩, List.forall_mem_cons.mpr ⟨⟨wo_X4_measureOf, wp_X4_measureOf⟩, List.forall_mem_cons.mpr ⟨⟨wo_X4_touches, wp_X4_touches⟩, List.forall_mem_cons.mpr ⟨⟨wo_X5_read, wp_X5_read⟩, List.forall_mem_cons.mpr ⟨⟨wo_X5_note, wp_X5_note⟩, List.forall_mem_cons.mpr ⟨⟨wo_X5_readLine, wp_X5_readLine⟩, List.forall_mem_cons.mpr ⟨⟨wo_X5_readNumbers, wp_X5_readNumbers⟩, List.forall_mem_cons.mpr ⟨⟨wo_X5_readGuestHues, wp_X5_readGuestHues⟩, List.forall_mem_cons.mpr ⟨⟨wo_X5_take, wp_X5_take⟩, List.forall_mem_cons.mpr ⟨⟨wo_X5_isFull, wp_X5_isFull⟩, List.forall_mem_cons.mpr ⟨⟨wo_X5_badPlace, wp_X5_badPlace⟩, List.forall_mem_cons.mpr ⟨⟨wo_X5_keepInPalette, wp_X5_keepInPalette⟩, List.forall_mem_cons.mpr ⟨⟨wo_X5_keepInRoll, wp_X5_keepInRoll⟩, List.forall_mem_cons.mpr ⟨⟨wo_X5_lineNamed, wp_X5_lineNamed⟩, List.forall_mem_cons.mpr ⟨⟨wo_X5_spells, wp_X5_spells⟩, List.forall_mem_cons.mpr ⟨⟨wo_X5_advance, wp_X5_advance⟩, List.forall_mem_cons.mpr ⟨⟨wo_X5_readDigits, wp_X5_readDigits⟩, List.forall_mem_cons.mpr ⟨⟨wo_X5_byteAt, wp_X5_byteAt⟩, List.forall_mem_cons.mpr ⟨⟨wo_X5_isBlank, wp_X5_isBlank⟩, List.forall_mem_cons.mpr ⟨⟨wo_X5_isLetter, wp_X5_isLetter⟩, List.forall_mem_cons.mpr ⟨⟨wo_X5_isDigit, wp_X5_isDigit⟩, List.forall_mem_cons.mpr ⟨⟨wo_X6_clear, wp_X6_clear⟩, fun _ h => absurd h List.not_mem_nil⟩⟩⟩⟩⟩⟩⟩⟩⟩⟩⟩⟩⟩⟩⟩⟩⟩⟩⟩⟩⟩⟩⟩⟩⟩⟩⟩⟩⟩⟩
theorem hr_wo3 : ∀ q ∈ hr_mL3.zip hr_wI3, hr_wz q := List.forall_mem_cons.mpr ⟨⟨wo_X6_has, wp_X6_has⟩, List.forall_mem_cons.mpr ⟨⟨wo_X6_name, wp_X6_name⟩, List.forall_mem_cons.mpr ⟨⟨wo_X6_add, wp_X6_add⟩, List.forall_mem_cons.mpr ⟨⟨wo_X6_copyFrom, wp_X6_copyFrom⟩, List.forall_mem_cons.mpr ⟨⟨wo_X7_seat, wp_X7_seat⟩, List.forall_mem_cons.mpr ⟨⟨wo_X7_waysBegunBy, wp_X7_waysBegunBy⟩, List.forall_mem_cons.mpr ⟨⟨wo_X7_waysBehind, wp_X7_waysBehind⟩, List.forall_mem_cons.mpr ⟨⟨wo_X7_dressAtFirst, wp_X7_dressAtFirst⟩, List.forall_mem_cons.mpr ⟨⟨wo_X7_fewestHues, wp_X7_fewestHues⟩, List.forall_mem_cons.mpr ⟨⟨wo_X7_canDress, wp_X7_canDress⟩, List.forall_mem_cons.mpr ⟨⟨wo_X7_canDressFrom, wp_X7_canDressFrom⟩, List.forall_mem_cons.mpr ⟨⟨wo_X7_dine, wp_X7_dine⟩, List.forall_mem_cons.mpr ⟨⟨wo_X7_hueAt, wp_X7_hueAt⟩, List.forall_mem_cons.mpr ⟨⟨wo_X7_strengthsRound, wp_X7_strengthsRound⟩, List.forall_mem_cons.mpr ⟨⟨wo_X8_put, wp_X8_put⟩, List.forall_mem_cons.mpr ⟨⟨wo_X8_slotFor, wp_X8_slotFor⟩, List.forall_mem_cons.mpr ⟨⟨wo_X8_keep, wp_X8_keep⟩, List.forall_mem_cons.mpr ⟨⟨wo_X8_paletteAt, wp_X8_paletteAt⟩, List.forall_mem_cons.mpr ⟨⟨wo_X8_rollAt, wp_X8_rollAt⟩, List.forall_mem_cons.mpr ⟨⟨wo_X8_copyFrom, wp_X8_copyFrom⟩, List.forall_mem_cons.mpr ⟨⟨wo_X8_rollIndex, wp_X8_rollIndex⟩, List.forall_mem_cons.mpr ⟨⟨wo_X9_go, wp_X9_go⟩, List.forall_mem_cons.mpr ⟨⟨wo_X9_begin, wp_X9_begin⟩, List.forall_mem_cons.mpr ⟨⟨wo_X9_act, wp_X9_act⟩, List.forall_mem_cons.mpr ⟨⟨wo_X9_move, wp_X9_move⟩, List.forall_mem_cons.mpr ⟨⟨wo_X9_passHour, wp_X9_passHour⟩, List.forall_mem_cons.mpr ⟨⟨wo_X9_rashOf, wp_X9_rashOf⟩, List.forall_mem_cons.mpr ⟨⟨wo_X9_gatherThings, wp_X9_gatherThings⟩, List.forall_mem_cons.mpr ⟨⟨wo_X9_addThing, wp_X9_addThing⟩, List.forall_mem_cons.mpr ⟨⟨wo_X9_markFading, wp_X9_markFading⟩, fun _ h => absurd h List.not_mem_nil⟩⟩⟩⟩⟩⟩⟩⟩⟩⟩⟩⟩⟩⟩⟩⟩⟩⟩⟩⟩⟩⟩⟩⟩⟩⟩⟩⟩⟩⟩
theorem hr_wo4 : ∀ q ∈ hr_mL4.zip hr_wI4, hr_wz q := List.forall_mem_cons.mpr ⟨⟨wo_X9_answer, wp_X9_answer⟩, List.forall_mem_cons.mpr ⟨⟨wo_X9_answerOf, wp_X9_answerOf⟩, List.forall_mem_cons.mpr ⟨⟨wo_X10_feed, wp_X10_feed⟩, List.forall_mem_cons.mpr ⟨⟨wo_X10_end, wp_X10_end⟩, List.forall_mem_cons.mpr ⟨⟨wo_X10_text, wp_X10_text⟩, List.forall_mem_cons.mpr ⟨⟨wo_X10_fault, wp_X10_fault⟩, List.forall_mem_cons.mpr ⟨⟨wo_X10_palette, wp_X10_palette⟩, List.forall_mem_cons.mpr ⟨⟨wo_X10_rule, wp_X10_rule⟩, List.forall_mem_cons.mpr ⟨⟨wo_X10_strength, wp_X10_strength⟩, List.forall_mem_cons.mpr ⟨⟨wo_X10_minds, wp_X10_minds⟩, List.forall_mem_cons.mpr ⟨⟨wo_X10_gallery, wp_X10_gallery⟩, List.forall_mem_cons.mpr ⟨⟨wo_X10_deed, wp_X10_deed⟩, List.forall_mem_cons.mpr ⟨⟨wo_X10_stop, wp_X10_stop⟩, List.forall_mem_cons.mpr ⟨⟨wo_X10_state, wp_X10_state⟩, List.forall_mem_cons.mpr ⟨⟨wo_X10_hung, wp_X10_hung⟩, List.forall_mem_cons.mpr ⟨⟨wo_X10_rows, wp_X10_rows⟩, List.forall_mem_cons.mpr ⟨⟨wo_X10_row, wp_X10_row⟩, List.forall_mem_cons.mpr ⟨⟨wo_X10_repainted, wp_X10_repainted⟩, List.forall_mem_cons.mpr ⟨⟨wo_X10_loom, wp_X10_loom⟩, List.forall_mem_cons.mpr ⟨⟨wo_X10_thread, wp_X10_thread⟩, List.forall_mem_cons.mpr ⟨⟨wo_X10_mix, wp_X10_mix⟩, List.forall_mem_cons.mpr ⟨⟨wo_X10_flags, wp_X10_flags⟩, List.forall_mem_cons.mpr ⟨⟨wo_X10_gain, wp_X10_gain⟩, List.forall_mem_cons.mpr ⟨⟨wo_X10_rest, wp_X10_rest⟩, List.forall_mem_cons.mpr ⟨⟨wo_X10_spread, wp_X10_spread⟩, List.forall_mem_cons.mpr ⟨⟨wo_X10_sneeze, wp_X10_sneeze⟩, List.forall_mem_cons.mpr ⟨⟨wo_X10_fits, wp_X10_fits⟩, List.forall_mem_cons.mpr ⟨⟨wo_X10_guest, wp_X10_guest⟩, List.forall_mem_cons.mpr ⟨⟨wo_X10_ways, wp_X10_ways⟩, List.forall_mem_cons.mpr ⟨⟨wo_X10_dinner, wp_X10_dinner⟩, fun _ h => absurd h List.not_mem_nil⟩⟩⟩⟩⟩⟩⟩⟩⟩⟩⟩⟩⟩⟩⟩⟩⟩⟩⟩⟩⟩⟩⟩⟩⟩⟩⟩⟩⟩⟩
theorem hr_wo5 : ∀ q ∈ hr_mL5.zip hr_wI5, hr_wz q := List.forall_mem_cons.mpr ⟨⟨wo_X10_drawn, wp_X10_drawn⟩, List.forall_mem_cons.mpr ⟨⟨wo_X10_count, wp_X10_count⟩, List.forall_mem_cons.mpr ⟨⟨wo_X10_image, wp_X10_image⟩, List.forall_mem_cons.mpr ⟨⟨wo_X10_again, wp_X10_again⟩, List.forall_mem_cons.mpr ⟨⟨wo_X10_forgetAnswers, wp_X10_forgetAnswers⟩, List.forall_mem_cons.mpr ⟨⟨wo_X10_lineUpPictures, wp_X10_lineUpPictures⟩, List.forall_mem_cons.mpr ⟨⟨wo_X10_lineUpHues, wp_X10_lineUpHues⟩, List.forall_mem_cons.mpr ⟨⟨wo_X10_lineOf, wp_X10_lineOf⟩, List.forall_mem_cons.mpr ⟨⟨wo_X10_goTogether, wp_X10_goTogether⟩, List.forall_mem_cons.mpr ⟨⟨wo_X10_isTone, wp_X10_isTone⟩, List.forall_mem_cons.mpr ⟨⟨wo_X10_holdsBit, wp_X10_holdsBit⟩, List.forall_mem_cons.mpr ⟨⟨wo_X10_leastOf, wp_X10_leastOf⟩, List.forall_mem_cons.mpr ⟨⟨wo_X11_in, wp_X11_in⟩, List.forall_mem_cons.mpr ⟨⟨wo_X11_has, wp_X11_has⟩, List.forall_mem_cons.mpr ⟨⟨wo_X11_greater, wp_X11_greater⟩, List.forall_mem_cons.mpr ⟨⟨wo_X11_lesser, wp_X11_lesser⟩, List.forall_mem_cons.mpr ⟨⟨wo_X11_size, wp_X11_size⟩, List.forall_mem_cons.mpr ⟨⟨wo_X11_ones, wp_X11_ones⟩, List.forall_mem_cons.mpr ⟨⟨wo_X11_copyRow, wp_X11_copyRow⟩, List.forall_mem_cons.mpr ⟨⟨wo_X11_copyAll, wp_X11_copyAll⟩, List.forall_mem_cons.mpr ⟨⟨wo_X11_is, wp_X11_is⟩, List.forall_mem_cons.mpr ⟨⟨wo_X11_feed, wp_X11_feed⟩, List.forall_mem_cons.mpr ⟨⟨wo_X11_four, wp_X11_four⟩, List.forall_mem_cons.mpr ⟨⟨wo_X11_end, wp_X11_end⟩, List.forall_mem_cons.mpr ⟨⟨wo_X11_see, wp_X11_see⟩, List.forall_mem_cons.mpr ⟨⟨wo_X11_token, wp_X11_token⟩, List.forall_mem_cons.mpr ⟨⟨wo_X11_fails, wp_X11_fails⟩, List.forall_mem_cons.mpr ⟨⟨wo_X11_later, wp_X11_later⟩, List.forall_mem_cons.mpr ⟨⟨wo_X11_takeBut, wp_X11_takeBut⟩, List.forall_mem_cons.mpr ⟨⟨wo_X11_take, wp_X11_take⟩, fun _ h => absurd h List.not_mem_nil⟩⟩⟩⟩⟩⟩⟩⟩⟩⟩⟩⟩⟩⟩⟩⟩⟩⟩⟩⟩⟩⟩⟩⟩⟩⟩⟩⟩⟩⟩
theorem hr_wo6 : ∀ q ∈ hr_mL6.zip hr_wI6, hr_wz q := List.forall_mem_cons.mpr ⟨⟨wo_X11_full, wp_X11_full⟩, List.forall_mem_cons.mpr ⟨⟨wo_X11_keep, wp_X11_keep⟩, List.forall_mem_cons.mpr ⟨⟨wo_X11_hueLine, wp_X11_hueLine⟩, List.forall_mem_cons.mpr ⟨⟨wo_X11_likesLine, wp_X11_likesLine⟩, List.forall_mem_cons.mpr ⟨⟨wo_X11_ruleNumbers, wp_X11_ruleNumbers⟩, List.forall_mem_cons.mpr ⟨⟨wo_X11_paletteLine, wp_X11_paletteLine⟩, List.forall_mem_cons.mpr ⟨⟨wo_X11_galleryLine, wp_X11_galleryLine⟩, List.forall_mem_cons.mpr ⟨⟨wo_X11_deedBy, wp_X11_deedBy⟩, List.forall_mem_cons.mpr ⟨⟨wo_X11_deedNumbers, wp_X11_deedNumbers⟩, List.forall_mem_cons.mpr ⟨⟨wo_X11_dayLine, wp_X11_dayLine⟩, List.forall_mem_cons.mpr ⟨⟨wo_X11_sightLine, wp_X11_sightLine⟩, List.forall_mem_cons.mpr ⟨⟨wo_X11_dinnerLine, wp_X11_dinnerLine⟩, List.forall_mem_cons.mpr ⟨⟨wo_X11_lineOf, wp_X11_lineOf⟩, List.forall_mem_cons.mpr ⟨⟨wo_X11_lines, wp_X11_lines⟩, List.forall_mem_cons.mpr ⟨⟨wo_X11_readText, wp_X11_readText⟩, List.forall_mem_cons.mpr ⟨⟨wo_X11_store, wp_X11_store⟩, List.forall_mem_cons.mpr ⟨⟨wo_X11_storeAll, wp_X11_storeAll⟩, List.forall_mem_cons.mpr ⟨⟨wo_X11_text, wp_X11_text⟩, List.forall_mem_cons.mpr ⟨⟨wo_X11_fault, wp_X11_fault⟩, List.forall_mem_cons.mpr ⟨⟨wo_X11_of, wp_X11_of⟩, List.forall_mem_cons.mpr ⟨⟨wo_X11_part, wp_X11_part⟩, List.forall_mem_cons.mpr ⟨⟨wo_X11_ruleOf, wp_X11_ruleOf⟩, List.forall_mem_cons.mpr ⟨⟨wo_X11_layHue, wp_X11_layHue⟩, List.forall_mem_cons.mpr ⟨⟨wo_X11_layColour, wp_X11_layColour⟩, List.forall_mem_cons.mpr ⟨⟨wo_X11_allParts, wp_X11_allParts⟩, List.forall_mem_cons.mpr ⟨⟨wo_X11_holds, wp_X11_holds⟩, List.forall_mem_cons.mpr ⟨⟨wo_X11_strengthOf, wp_X11_strengthOf⟩, List.forall_mem_cons.mpr ⟨⟨wo_X11_hand, wp_X11_hand⟩, List.forall_mem_cons.mpr ⟨⟨wo_X11_isHue, wp_X11_isHue⟩, List.forall_mem_cons.mpr ⟨⟨wo_X11_clash, wp_X11_clash⟩, fun _ h => absurd h List.not_mem_nil⟩⟩⟩⟩⟩⟩⟩⟩⟩⟩⟩⟩⟩⟩⟩⟩⟩⟩⟩⟩⟩⟩⟩⟩⟩⟩⟩⟩⟩⟩
theorem hr_wo7 : ∀ q ∈ hr_mL7.zip hr_wI7, hr_wz q := List.forall_mem_cons.mpr ⟨⟨wo_X11_mindsColour, wp_X11_mindsColour⟩, List.forall_mem_cons.mpr ⟨⟨wo_X11_isBorne, wp_X11_isBorne⟩, List.forall_mem_cons.mpr ⟨⟨wo_X11_clashes, wp_X11_clashes⟩, List.forall_mem_cons.mpr ⟨⟨wo_X11_meek, wp_X11_meek⟩, List.forall_mem_cons.mpr ⟨⟨wo_X11_fierce, wp_X11_fierce⟩, List.forall_mem_cons.mpr ⟨⟨wo_X11_partsOf, wp_X11_partsOf⟩, List.forall_mem_cons.mpr ⟨⟨wo_X11_dot, wp_X11_dot⟩, List.forall_mem_cons.mpr ⟨⟨wo_X11_palette, wp_X11_palette⟩, List.forall_mem_cons.mpr ⟨⟨wo_X11_rule, wp_X11_rule⟩, List.forall_mem_cons.mpr ⟨⟨wo_X11_strength, wp_X11_strength⟩, List.forall_mem_cons.mpr ⟨⟨wo_X11_minds, wp_X11_minds⟩, List.forall_mem_cons.mpr ⟨⟨wo_X11_pictures, wp_X11_pictures⟩, List.forall_mem_cons.mpr ⟨⟨wo_X11_limit, wp_X11_limit⟩, List.forall_mem_cons.mpr ⟨⟨wo_X11_hueOf, wp_X11_hueOf⟩, List.forall_mem_cons.mpr ⟨⟨wo_X11_areaOf, wp_X11_areaOf⟩, List.forall_mem_cons.mpr ⟨⟨wo_X11_hasGallery, wp_X11_hasGallery⟩, List.forall_mem_cons.mpr ⟨⟨wo_X11_gallery, wp_X11_gallery⟩, List.forall_mem_cons.mpr ⟨⟨wo_X11_layGallery, wp_X11_layGallery⟩, List.forall_mem_cons.mpr ⟨⟨wo_X11_deeds, wp_X11_deeds⟩, List.forall_mem_cons.mpr ⟨⟨wo_X11_deedOf, wp_X11_deedOf⟩, List.forall_mem_cons.mpr ⟨⟨wo_X11_hasDay, wp_X11_hasDay⟩, List.forall_mem_cons.mpr ⟨⟨wo_X11_deed, wp_X11_deed⟩, List.forall_mem_cons.mpr ⟨⟨wo_X11_begin, wp_X11_begin⟩, List.forall_mem_cons.mpr ⟨⟨wo_X11_thing, wp_X11_thing⟩, List.forall_mem_cons.mpr ⟨⟨wo_X11_rash, wp_X11_rash⟩, List.forall_mem_cons.mpr ⟨⟨wo_X11_isClashing, wp_X11_isClashing⟩, List.forall_mem_cons.mpr ⟨⟨wo_X11_hour, wp_X11_hour⟩, List.forall_mem_cons.mpr ⟨⟨wo_X11_does, wp_X11_does⟩, List.forall_mem_cons.mpr ⟨⟨wo_X11_play, wp_X11_play⟩, List.forall_mem_cons.mpr ⟨⟨wo_X11_stop, wp_X11_stop⟩, fun _ h => absurd h List.not_mem_nil⟩⟩⟩⟩⟩⟩⟩⟩⟩⟩⟩⟩⟩⟩⟩⟩⟩⟩⟩⟩⟩⟩⟩⟩⟩⟩⟩⟩⟩⟩
theorem hr_wo8 : ∀ q ∈ hr_mL8.zip hr_wI8, hr_wz q := List.forall_mem_cons.mpr ⟨⟨wo_X11_state, wp_X11_state⟩, List.forall_mem_cons.mpr ⟨⟨wo_X11_mind, wp_X11_mind⟩, List.forall_mem_cons.mpr ⟨⟨wo_X11_strengthsOf, wp_X11_strengthsOf⟩, List.forall_mem_cons.mpr ⟨⟨wo_X11_isSet, wp_X11_isSet⟩, List.forall_mem_cons.mpr ⟨⟨wo_X11_greatestSet, wp_X11_greatestSet⟩, List.forall_mem_cons.mpr ⟨⟨wo_X11_curtains, wp_X11_curtains⟩, List.forall_mem_cons.mpr ⟨⟨wo_X11_fewestRooms, wp_X11_fewestRooms⟩, List.forall_mem_cons.mpr ⟨⟨wo_X11_worst, wp_X11_worst⟩, List.forall_mem_cons.mpr ⟨⟨wo_X11_hung, wp_X11_hung⟩, List.forall_mem_cons.mpr ⟨⟨wo_X11_follows, wp_X11_follows⟩, List.forall_mem_cons.mpr ⟨⟨wo_X11_findBehind, wp_X11_findBehind⟩, List.forall_mem_cons.mpr ⟨⟨wo_X11_allRows, wp_X11_allRows⟩, List.forall_mem_cons.mpr ⟨⟨wo_X11_rowAt, wp_X11_rowAt⟩, List.forall_mem_cons.mpr ⟨⟨wo_X11_layPictures, wp_X11_layPictures⟩, List.forall_mem_cons.mpr ⟨⟨wo_X11_layThreads, wp_X11_layThreads⟩, List.forall_mem_cons.mpr ⟨⟨wo_X11_rows, wp_X11_rows⟩, List.forall_mem_cons.mpr ⟨⟨wo_X11_row, wp_X11_row⟩, List.forall_mem_cons.mpr ⟨⟨wo_X11_paintCost, wp_X11_paintCost⟩, List.forall_mem_cons.mpr ⟨⟨wo_X11_findPaint, wp_X11_findPaint⟩, List.forall_mem_cons.mpr ⟨⟨wo_X11_paintedAt, wp_X11_paintedAt⟩, List.forall_mem_cons.mpr ⟨⟨wo_X11_repainted, wp_X11_repainted⟩, List.forall_mem_cons.mpr ⟨⟨wo_X11_loom, wp_X11_loom⟩, List.forall_mem_cons.mpr ⟨⟨wo_X11_thread, wp_X11_thread⟩, List.forall_mem_cons.mpr ⟨⟨wo_X11_mixed, wp_X11_mixed⟩, List.forall_mem_cons.mpr ⟨⟨wo_X11_findNeeds, wp_X11_findNeeds⟩, List.forall_mem_cons.mpr ⟨⟨wo_X11_colourOf, wp_X11_colourOf⟩, List.forall_mem_cons.mpr ⟨⟨wo_X11_isBorneHue, wp_X11_isBorneHue⟩, List.forall_mem_cons.mpr ⟨⟨wo_X11_mix, wp_X11_mix⟩, List.forall_mem_cons.mpr ⟨⟨wo_X11_leastOf, wp_X11_leastOf⟩, List.forall_mem_cons.mpr ⟨⟨wo_X11_findCouples, wp_X11_findCouples⟩, fun _ h => absurd h List.not_mem_nil⟩⟩⟩⟩⟩⟩⟩⟩⟩⟩⟩⟩⟩⟩⟩⟩⟩⟩⟩⟩⟩⟩⟩⟩⟩⟩⟩⟩⟩⟩
theorem hr_wo9 : ∀ q ∈ hr_mL9.zip hr_wI9, hr_wz q := List.forall_mem_cons.mpr ⟨⟨wo_X11_allyOf, wp_X11_allyOf⟩, List.forall_mem_cons.mpr ⟨⟨wo_X11_flags, wp_X11_flags⟩, List.forall_mem_cons.mpr ⟨⟨wo_X11_gainOf, wp_X11_gainOf⟩, List.forall_mem_cons.mpr ⟨⟨wo_X11_isCouple, wp_X11_isCouple⟩, List.forall_mem_cons.mpr ⟨⟨wo_X11_gain, wp_X11_gain⟩, List.forall_mem_cons.mpr ⟨⟨wo_X11_isRest, wp_X11_isRest⟩, List.forall_mem_cons.mpr ⟨⟨wo_X11_rest, wp_X11_rest⟩, List.forall_mem_cons.mpr ⟨⟨wo_X11_spread, wp_X11_spread⟩, List.forall_mem_cons.mpr ⟨⟨wo_X11_sneezes, wp_X11_sneezes⟩, List.forall_mem_cons.mpr ⟨⟨wo_X11_sneezeOf, wp_X11_sneezeOf⟩, List.forall_mem_cons.mpr ⟨⟨wo_X11_hasSight, wp_X11_hasSight⟩, List.forall_mem_cons.mpr ⟨⟨wo_X11_sneeze, wp_X11_sneeze⟩, List.forall_mem_cons.mpr ⟨⟨wo_X11_laySingle, wp_X11_laySingle⟩, List.forall_mem_cons.mpr ⟨⟨wo_X11_holdsOf, wp_X11_holdsOf⟩, List.forall_mem_cons.mpr ⟨⟨wo_X11_isFitting, wp_X11_isFitting⟩, List.forall_mem_cons.mpr ⟨⟨wo_X11_layFits, wp_X11_layFits⟩, List.forall_mem_cons.mpr ⟨⟨wo_X11_tells, wp_X11_tells⟩, List.forall_mem_cons.mpr ⟨⟨wo_X11_fits, wp_X11_fits⟩, List.forall_mem_cons.mpr ⟨⟨wo_X11_guests, wp_X11_guests⟩, List.forall_mem_cons.mpr ⟨⟨wo_X11_worn, wp_X11_worn⟩, List.forall_mem_cons.mpr ⟨⟨wo_X11_hasDinner, wp_X11_hasDinner⟩, List.forall_mem_cons.mpr ⟨⟨wo_X11_guest, wp_X11_guest⟩, List.forall_mem_cons.mpr ⟨⟨wo_X11_layDinner, wp_X11_layDinner⟩, List.forall_mem_cons.mpr ⟨⟨wo_X11_findRest, wp_X11_findRest⟩, List.forall_mem_cons.mpr ⟨⟨wo_X11_allWays, wp_X11_allWays⟩, List.forall_mem_cons.mpr ⟨⟨wo_X11_ways, wp_X11_ways⟩, List.forall_mem_cons.mpr ⟨⟨wo_X11_wornAt, wp_X11_wornAt⟩, List.forall_mem_cons.mpr ⟨⟨wo_X11_few, wp_X11_few⟩, List.forall_mem_cons.mpr ⟨⟨wo_X11_dinner, wp_X11_dinner⟩, List.forall_mem_cons.mpr ⟨⟨wo_X11_draw, wp_X11_draw⟩, fun _ h => absurd h List.not_mem_nil⟩⟩⟩⟩⟩⟩⟩⟩⟩⟩⟩⟩⟩⟩⟩⟩⟩⟩⟩⟩⟩⟩⟩⟩⟩⟩⟩⟩⟩⟩
theorem hr_wo10 : ∀ q ∈ hr_mL10.zip hr_wI10, hr_wz q := List.forall_mem_cons.mpr ⟨⟨wo_X11_picked, wp_X11_picked⟩, List.forall_mem_cons.mpr ⟨⟨wo_X11_evening, wp_X11_evening⟩, List.forall_mem_cons.mpr ⟨⟨wo_X11_drawn, wp_X11_drawn⟩, List.forall_mem_cons.mpr ⟨⟨wo_X11_count, wp_X11_count⟩, List.forall_mem_cons.mpr ⟨⟨wo_X11_image, wp_X11_image⟩, List.forall_mem_cons.mpr ⟨⟨wo_X11_again, wp_X11_again⟩, List.forall_mem_cons.mpr ⟨⟨wo_J6_bitCount_0f7a4, wp_J6_bitCount_0f7a4⟩, fun _ h => absurd h List.not_mem_nil⟩⟩⟩⟩⟩⟩⟩
theorem hr_zipapp {α β : Type} {P : α × β → Prop} {a a' : List α} {b b' : List β} (hl : a.length = b.length) (h : ∀ q ∈ a.zip b, P q) (h' : ∀ q ∈ a'.zip b', P q) : ∀ q ∈ (a ++ a').zip (b ++ b'), P q := by
  intro q hq
  rw [List.zip_append hl] at hq
  exact (List.mem_append.mp hq).elim (h q) (h' q)
theorem hr_wok : ∀ q ∈ hr_mL.zip hr_wI, hr_wz q := hr_zipapp rfl hr_wo0 (hr_zipapp rfl hr_wo1 (hr_zipapp rfl hr_wo2 (hr_zipapp rfl hr_wo3 (hr_zipapp rfl hr_wo4 (hr_zipapp rfl hr_wo5 (hr_zipapp rfl hr_wo6 (hr_zipapp rfl hr_wo7 (hr_zipapp rfl hr_wo8 (hr_zipapp rfl hr_wo9 (hr_wo10))))))))))
theorem hr_wlen : hr_wI.length = hr_mL.length := by decide +kernel
def hr_clq (o : Nat) (q : Nat × Nat × Nat × hr_P2) : Bool := match q.2.1 with
  | 0 => hr_at q.2.2.2 (.methodLink (hr_cn o) q.1 (hr_m q.2.2.1).1) && (decide (q.2.2.1 < hr_mL.length) && decide ((hr_wI.getD q.2.2.1 ((0, 0), (0, 0), (0, 0), (0, 0), 9)).2.2.2.2 = 0))
  | 1 => hr_at q.2.2.2 (.methodLink (hr_cn o) q.1 (hr_m q.2.2.1).1) && (decide (q.2.2.1 < hr_mL.length) && decide ((hr_wI.getD q.2.2.1 ((0, 0), (0, 0), (0, 0), (0, 0), 9)).2.2.2.2 = 1))
  | 2 => decide (hr_NW[q.2.2.2.2]? = some (hr_cn o, q.1, (hr_m q.2.2.1).1)) && (decide (q.2.2.1 < hr_mL.length) && decide ((hr_wI.getD q.2.2.1 ((0, 0), (0, 0), (0, 0), (0, 0), 9)).2.2.2.2 = 1))
  | _ => true
def hr_cl0 : List (Nat × Nat × Nat × hr_P2) := [(42, 0, 49, (5, 16)), (46, 0, 2, (5, 20)), (50, 1, 1, (5, 25)), (54, 0, 3, (5, 30)), (61, 0, 46, (5, 28)), (73, 2, 160, (0, 0)), (89, 0, 5, (5, 59)), (93, 0, 6, (5, 63)), (97, 0, 57, (5, 67))]
theorem hr_clo0 : hr_cl0.all (hr_clq 0) = true := by decide +kernel
def hr_cl1 : List (Nat × Nat × Nat × hr_P2) := [(51, 2, 160, (0, 1)), (55, 0, 10, (4, 169)), (59, 0, 11, (4, 173)), (69, 0, 48, (4, 177)), (73, 0, 12, (4, 186)), (77, 0, 14, (4, 227)), (83, 0, 15, (4, 231)), (89, 0, 16, (4, 235)), (92, 2, 161, (0, 2)), (96, 0, 18, (4, 182)), (99, 0, 20, (4, 194)), (107, 1, 306, (4, 205)), (112, 0, 22, (4, 206)), (116, 0, 25, (5, 76)), (122, 0, 26, (5, 83))]
theorem hr_clo1 : hr_cl1.all (hr_clq 1) = true := by decide +kernel
def hr_cl2 : List (Nat × Nat × Nat × hr_P2) := [(30, 0, 29, (5, 126)), (34, 0, 31, (5, 131)), (53, 0, 59, (5, 130)), (59, 0, 32, (5, 135)), (66, 0, 47, (5, 139))]
theorem hr_clo2 : hr_cl2.all (hr_clq 2) = true := by decide +kernel
def hr_cl3 : List (Nat × Nat × Nat × hr_P2) := []
theorem hr_clo3 : hr_cl3.all (hr_clq 3) = true := by decide +kernel
def hr_cl4 : List (Nat × Nat × Nat × hr_P2) := [(52, 0, 64, (3, 183)), (55, 0, 66, (3, 205)), (58, 0, 43, (3, 168)), (62, 0, 46, (4, 43)), (66, 2, 160, (0, 3)), (70, 0, 53, (4, 9)), (73, 0, 54, (4, 13)), (76, 0, 55, (4, 23)), (79, 0, 52, (4, 35)), (83, 0, 44, (4, 39)), (87, 1, 306, (4, 17)), (92, 0, 56, (4, 27)), (95, 0, 57, (4, 31)), (99, 1, 69, (4, 71)), (103, 0, 68, (3, 195)), (106, 1, 70, (3, 199)), (110, 0, 48, (4, 160)), (113, 0, 60, (5, 103)), (124, 0, 65, (3, 187)), (127, 0, 59, (3, 191)), (130, 0, 67, (3, 209))]
theorem hr_clo4 : hr_cl4.all (hr_clq 4) = true := by decide +kernel
def hr_cl5 : List (Nat × Nat × Nat × hr_P2) := [(52, 0, 38, (2, 236)), (55, 0, 89, (3, 0)), (56, 0, 83, (3, 4)), (62, 0, 73, (3, 25)), (69, 0, 45, (3, 164)), (72, 0, 72, (3, 112)), (76, 0, 81, (3, 29)), (83, 0, 75, (3, 91)), (89, 0, 74, (3, 98)), (92, 0, 76, (3, 102)), (105, 2, 160, (0, 4)), (109, 0, 77, (3, 106)), (113, 0, 78, (3, 116)), (117, 0, 33, (3, 35)), (121, 0, 79, (3, 132)), (125, 0, 80, (3, 148)), (140, 0, 35, (3, 120)), (143, 0, 36, (3, 124)), (146, 0, 37, (3, 128)), (149, 0, 39, (3, 136)), (153, 0, 41, (3, 140)), (156, 0, 40, (3, 144)), (162, 0, 91, (3, 152)), (166, 0, 34, (3, 156)), (169, 0, 92, (3, 160)), (180, 0, 82, (3, 39)), (188, 0, 85, (3, 8)), (196, 1, 86, (3, 12)), (199, 1, 87, (3, 15)), (202, 1, 88, (3, 18)), (205, 0, 84, (3, 21))]
theorem hr_clo5 : hr_cl5.all (hr_clq 5) = true := by decide +kernel
def hr_cl6 : List (Nat × Nat × Nat × hr_P2) := []
theorem hr_clo6 : hr_cl6.all (hr_clq 6) = true := by decide +kernel
def hr_cl7 : List (Nat × Nat × Nat × hr_P2) := [(40, 2, 160, (0, 5)), (44, 0, 95, (5, 161)), (48, 0, 97, (5, 171)), (52, 0, 48, (5, 165)), (56, 0, 96, (5, 166)), (60, 0, 49, (5, 170)), (64, 0, 43, (5, 183)), (68, 1, 306, (5, 184)), (73, 1, 99, (5, 185)), (77, 1, 100, (5, 188)), (88, 1, 102, (5, 200)), (91, 0, 103, (5, 205)), (95, 2, 161, (0, 6))]
theorem hr_clo7 : hr_cl7.all (hr_clq 7) = true := by decide +kernel
def hr_cl8 : List (Nat × Nat × Nat × hr_P2) := [(40, 0, 42, (3, 176)), (44, 1, 110, (3, 213)), (48, 0, 93, (3, 216))]
theorem hr_clo8 : hr_cl8.all (hr_clq 8) = true := by decide +kernel
def hr_cl9 : List (Nat × Nat × Nat × hr_P2) := [(33, 0, 112, (4, 105)), (43, 0, 113, (4, 110)), (59, 0, 90, (4, 109)), (72, 1, 114, (4, 114)), (76, 0, 44, (4, 117)), (79, 0, 115, (4, 118)), (86, 0, 116, (4, 122)), (93, 2, 160, (0, 7)), (97, 0, 117, (4, 126)), (104, 0, 48, (4, 134)), (108, 0, 119, (4, 135)), (112, 0, 118, (4, 130)), (116, 0, 121, (4, 148))]
theorem hr_clo9 : hr_cl9.all (hr_clq 9) = true := by decide +kernel
def hr_cl10 : List (Nat × Nat × Nat × hr_P2) := [(70, 0, 104, (2, 216)), (74, 0, 105, (2, 228)), (88, 0, 71, (2, 232)), (102, 0, 106, (3, 172)), (106, 0, 154, (3, 221)), (109, 0, 107, (4, 1)), (113, 0, 51, (4, 5)), (126, 0, 44, (4, 55)), (130, 0, 48, (4, 56)), (133, 1, 159, (4, 64)), (136, 0, 58, (4, 67)), (140, 0, 108, (4, 78)), (158, 1, 157, (4, 86)), (162, 1, 158, (4, 97)), (166, 0, 111, (4, 101)), (170, 0, 120, (4, 144)), (173, 0, 62, (4, 156)), (177, 0, 63, (4, 161)), (180, 0, 9, (4, 165)), (184, 0, 19, (4, 178)), (188, 0, 21, (4, 201)), (191, 0, 23, (4, 211)), (194, 0, 155, (4, 219)), (203, 0, 17, (5, 4)), (206, 0, 0, (5, 12)), (213, 0, 156, (5, 38)), (216, 0, 4, (5, 55)), (232, 0, 43, (5, 42)), (235, 0, 8, (5, 43)), (239, 0, 24, (5, 72)), (248, 0, 60, (5, 91)), (255, 0, 61, (5, 99)), (258, 0, 50, (5, 108)), (261, 1, 306, (5, 113)), (266, 0, 28, (5, 122)), (270, 0, 30, (5, 144)), (279, 0, 90, (4, 89)), (280, 0, 94, (5, 156)), (287, 0, 98, (5, 179)), (293, 0, 101, (5, 195)), (304, 0, 109, (5, 217)), (308, 0, 7, (3, 225)), (311, 0, 27, (3, 229)), (315, 0, 13, (4, 223)), (324, 0, 45, (4, 100)), (327, 1, 160, (4, 193))]
theorem hr_clo10 : hr_cl10.all (hr_clq 10) = true := by decide +kernel
def hr_cl11 : List (Nat × Nat × Nat × hr_P2) := [(104, 1, 163, (7, 48)), (108, 1, 168, (9, 21)), (112, 1, 162, (6, 173)), (116, 0, 172, (6, 165)), (126, 0, 174, (6, 192)), (152, 0, 176, (6, 215)), (156, 0, 177, (6, 223)), (164, 0, 175, (6, 188)), (167, 0, 178, (6, 235)), (171, 0, 179, (6, 231)), (174, 0, 181, (6, 239)), (181, 1, 164, (7, 7)), (199, 0, 180, (6, 219)), (203, 0, 182, (6, 227)), (206, 0, 183, (7, 3)), (209, 0, 184, (7, 10)), (229, 1, 187, (7, 24)), (233, 0, 188, (7, 33)), (242, 0, 185, (6, 204)), (246, 0, 186, (7, 14)), (249, 0, 189, (7, 20)), (252, 0, 190, (7, 37)), (255, 0, 191, (7, 43)), (258, 0, 192, (6, 200)), (262, 0, 193, (6, 196)), (265, 0, 195, (7, 55)), (269, 0, 170, (6, 180)), (272, 0, 194, (6, 184)), (275, 0, 196, (7, 51)), (281, 0, 199, (7, 71)), (285, 0, 200, (7, 79)), (288, 0, 204, (7, 95)), (291, 1, 166, (7, 99)), (293, 0, 201, (7, 87)), (296, 0, 205, (7, 91)), (302, 0, 202, (7, 75)), (305, 0, 206, (7, 83)), (308, 0, 203, (7, 137)), (311, 0, 210, (7, 133)), (314, 0, 209, (7, 114)), (317, 0, 212, (7, 110)), (320, 1, 215, (7, 126)), (323, 0, 211, (7, 129)), (326, 0, 207, (7, 67)), (329, 0, 208, (7, 102)), (332, 0, 213, (7, 106)), (335, 0, 214, (7, 118)), (338, 0, 216, (7, 122)), (344, 0, 225, (7, 157)), (347, 0, 221, (7, 161)), (350, 0, 222, (7, 165)), (353, 0, 223, (7, 169)), (356, 0, 224, (7, 173)), (362, 0, 230, (7, 181)), (365, 0, 228, (7, 185)), (368, 0, 229, (7, 189)), (383, 0, 233, (7, 221)), (386, 0, 234, (7, 217)), (389, 0, 235, (7, 225)), (392, 0, 236, (7, 213)), (395, 0, 232, (7, 205)), (398, 0, 237, (7, 209)), (401, 0, 227, (7, 197)), (404, 0, 238, (7, 201)), (407, 0, 241, (8, 5)), (410, 1, 167, (8, 13)), (413, 0, 243, (8, 1)), (417, 0, 242, (8, 24)), (420, 0, 246, (7, 237)), (423, 0, 244, (8, 9)), (426, 0, 245, (8, 16)), (429, 0, 247, (8, 20)), (435, 0, 249, (8, 45)), (438, 0, 250, (8, 41)), (443, 0, 253, (8, 33)), (446, 0, 251, (8, 37)), (450, 0, 252, (8, 53)), (454, 1, 165, (8, 66)), (457, 0, 257, (8, 69)), (460, 0, 258, (8, 61)), (463, 0, 259, (8, 73)), (466, 0, 254, (8, 81)), (469, 0, 263, (8, 105)), (472, 0, 265, (8, 93)), (475, 0, 266, (8, 97)), (478, 0, 264, (8, 101)), (481, 1, 268, (8, 117)), (484, 0, 269, (8, 113)), (487, 0, 270, (8, 120)), (490, 0, 273, (8, 128)), (493, 0, 272, (8, 132)), (497, 0, 275, (8, 140)), (503, 0, 280, (8, 152)), (506, 0, 278, (8, 156)), (509, 0, 279, (8, 160)), (521, 0, 282, (8, 176)), (524, 0, 283, (8, 180)), (527, 0, 284, (8, 172)), (530, 0, 285, (8, 168)), (533, 0, 286, (8, 184)), (539, 0, 290, (8, 192)), (542, 0, 288, (8, 196)), (545, 0, 289, (8, 200)), (548, 0, 293, (8, 216)), (551, 0, 292, (8, 208)), (554, 0, 294, (8, 212)), (558, 0, 297, (8, 224)), (561, 0, 296, (8, 228)), (568, 0, 299, (9, 4)), (571, 0, 300, (9, 0)), (574, 0, 301, (8, 236)), (577, 0, 169, (9, 17))]
theorem hr_clo11 : hr_cl11.all (hr_clq 11) = true := by decide +kernel
def hr_cl12 : List (Nat × Nat × Nat × hr_P2) := []
theorem hr_clo12 : hr_cl12.all (hr_clq 12) = true := by decide +kernel
def hr_cl13 : List (Nat × Nat × Nat × hr_P2) := []
theorem hr_clo13 : hr_cl13.all (hr_clq 13) = true := by decide +kernel
def hr_clT (o : Nat) : List (Nat × Nat × Nat × hr_P2) := match o with
  | 0 => hr_cl0
  | 1 => hr_cl1
  | 2 => hr_cl2
  | 3 => hr_cl3
  | 4 => hr_cl4
  | 5 => hr_cl5
  | 6 => hr_cl6
  | 7 => hr_cl7
  | 8 => hr_cl8
  | 9 => hr_cl9
  | 10 => hr_cl10
  | 11 => hr_cl11
  | 12 => hr_cl12
  | 13 => hr_cl13
  | _ => []
theorem hr_clok : ∀ o, (hr_clT o).all (hr_clq o) = true := by
  intro o
  unfold hr_clT
  split
  · exact hr_clo0
  · exact hr_clo1
  · exact hr_clo2
  · exact hr_clo3
  · exact hr_clo4
  · exact hr_clo5
  · exact hr_clo6
  · exact hr_clo7
  · exact hr_clo8
  · exact hr_clo9
  · exact hr_clo10
  · exact hr_clo11
  · exact hr_clo12
  · exact hr_clo13
  · rfl
theorem hr_clsub : (List.range 14).all (fun o => (hr_mlT.getD o []).all (fun q => decide (10 ≤ q.2.1) || (hr_clT o).any (fun z => decide (z.1 = q.1 ∧ z.2.1 = q.2.1 ∧ z.2.2.1 = q.2.2.1)))) = true := by decide +kernel
theorem hr_ml_cl {o i k m w : Nat} (h : hr_ml o i = some (k, m, w)) (hk : k < 10) : ∃ z : hr_P2, hr_clq o (i, k, m, z) = true := by
  obtain ⟨ho, hm⟩ := hr_ml_o h
  have h1 := List.all_eq_true.mp (List.all_eq_true.mp hr_clsub o (List.mem_range.mpr ho)) _ hm
  simp only [Bool.or_eq_true, decide_eq_true_eq, List.any_eq_true] at h1
  rcases h1 with h1 | ⟨⟨z1, z2, z3, z4⟩, h2, h3, h4, h5⟩
  · omega
  · simp only at h3 h4 h5
    subst h3 h4 h5
    exact ⟨z4, List.all_eq_true.mp (hr_clok o) _ h2⟩
