/-! kinds, lengths and places of the cells, by number; of the parts of what there is several of -/
theorem K_0 : hr_K 0 = 9 := by decide +kernel
theorem L_0 : 0 < hr_n := Nat.le_of_ble_eq_true rfl
theorem K_1 : hr_K 1 = 7 := by decide +kernel
theorem L_1 : 1 < hr_n := Nat.le_of_ble_eq_true rfl
theorem K_2 : hr_K 2 = 11 := by decide +kernel
theorem N_2 : hr_N 2 = 600 := by decide +kernel
theorem L_2 : 2 < hr_n := Nat.le_of_ble_eq_true rfl
theorem K_3 : hr_K 3 = 12 := by decide +kernel
theorem N_3 : hr_N 3 = 5 := by decide +kernel
theorem L_3 : 3 < hr_n := Nat.le_of_ble_eq_true rfl
theorem K_4 : hr_K 4 = 15 := by decide +kernel
theorem N_4 : hr_N 4 = 2 := by decide +kernel
theorem L_4 : 4 < hr_n := Nat.le_of_ble_eq_true rfl
theorem K_5 : hr_K 5 = 16 := by decide +kernel
theorem N_5 : hr_N 5 = 8 := by decide +kernel
theorem L_5 : 5 < hr_n := Nat.le_of_ble_eq_true rfl
theorem K_6 : hr_K 6 = 3 := by decide +kernel
theorem L_6 : 6 < hr_n := Nat.le_of_ble_eq_true rfl
theorem K_7 : hr_K 7 = 12 := by decide +kernel
theorem N_7 : hr_N 7 = 30 := by decide +kernel
theorem L_7 : 7 < hr_n := Nat.le_of_ble_eq_true rfl
theorem K_8 : hr_K 8 = 12 := by decide +kernel
theorem N_8 : hr_N 8 = 18 := by decide +kernel
theorem L_8 : 8 < hr_n := Nat.le_of_ble_eq_true rfl
theorem K_9 : hr_K 9 = 12 := by decide +kernel
theorem N_9 : hr_N 9 = 20 := by decide +kernel
theorem L_9 : 9 < hr_n := Nat.le_of_ble_eq_true rfl
theorem K_10 : hr_K 10 = 12 := by decide +kernel
theorem N_10 : hr_N 10 = 100 := by decide +kernel
theorem L_10 : 10 < hr_n := Nat.le_of_ble_eq_true rfl
theorem K_11 : hr_K 11 = 12 := by decide +kernel
theorem N_11 : hr_N 11 = 10 := by decide +kernel
theorem L_11 : 11 < hr_n := Nat.le_of_ble_eq_true rfl
theorem K_12 : hr_K 12 = 12 := by decide +kernel
theorem N_12 : hr_N 12 = 30 := by decide +kernel
theorem L_12 : 12 < hr_n := Nat.le_of_ble_eq_true rfl
theorem K_13 : hr_K 13 = 12 := by decide +kernel
theorem N_13 : hr_N 13 = 28 := by decide +kernel
theorem L_13 : 13 < hr_n := Nat.le_of_ble_eq_true rfl
theorem K_14 : hr_K 14 = 12 := by decide +kernel
theorem N_14 : hr_N 14 = 30 := by decide +kernel
theorem L_14 : 14 < hr_n := Nat.le_of_ble_eq_true rfl
theorem K_15 : hr_K 15 = 3 := by decide +kernel
theorem L_15 : 15 < hr_n := Nat.le_of_ble_eq_true rfl
theorem K_16 : hr_K 16 = 12 := by decide +kernel
theorem N_16 : hr_N 16 = 30 := by decide +kernel
theorem L_16 : 16 < hr_n := Nat.le_of_ble_eq_true rfl
theorem K_17 : hr_K 17 = 12 := by decide +kernel
theorem N_17 : hr_N 17 = 18 := by decide +kernel
theorem L_17 : 17 < hr_n := Nat.le_of_ble_eq_true rfl
theorem K_18 : hr_K 18 = 12 := by decide +kernel
theorem N_18 : hr_N 18 = 20 := by decide +kernel
theorem L_18 : 18 < hr_n := Nat.le_of_ble_eq_true rfl
theorem K_19 : hr_K 19 = 12 := by decide +kernel
theorem N_19 : hr_N 19 = 100 := by decide +kernel
theorem L_19 : 19 < hr_n := Nat.le_of_ble_eq_true rfl
theorem K_20 : hr_K 20 = 12 := by decide +kernel
theorem N_20 : hr_N 20 = 10 := by decide +kernel
theorem L_20 : 20 < hr_n := Nat.le_of_ble_eq_true rfl
theorem K_21 : hr_K 21 = 12 := by decide +kernel
theorem N_21 : hr_N 21 = 30 := by decide +kernel
theorem L_21 : 21 < hr_n := Nat.le_of_ble_eq_true rfl
theorem K_22 : hr_K 22 = 12 := by decide +kernel
theorem N_22 : hr_N 22 = 28 := by decide +kernel
theorem L_22 : 22 < hr_n := Nat.le_of_ble_eq_true rfl
theorem K_23 : hr_K 23 = 12 := by decide +kernel
theorem N_23 : hr_N 23 = 30 := by decide +kernel
theorem L_23 : 23 < hr_n := Nat.le_of_ble_eq_true rfl
theorem K_24 : hr_K 24 = 5 := by decide +kernel
theorem L_24 : 24 < hr_n := Nat.le_of_ble_eq_true rfl
theorem K_25 : hr_K 25 = 12 := by decide +kernel
theorem N_25 : hr_N 25 = 40 := by decide +kernel
theorem L_25 : 25 < hr_n := Nat.le_of_ble_eq_true rfl
theorem K_26 : hr_K 26 = 12 := by decide +kernel
theorem N_26 : hr_N 26 = 40 := by decide +kernel
theorem L_26 : 26 < hr_n := Nat.le_of_ble_eq_true rfl
theorem K_27 : hr_K 27 = 12 := by decide +kernel
theorem N_27 : hr_N 27 = 40 := by decide +kernel
theorem L_27 : 27 < hr_n := Nat.le_of_ble_eq_true rfl
theorem K_28 : hr_K 28 = 5 := by decide +kernel
theorem L_28 : 28 < hr_n := Nat.le_of_ble_eq_true rfl
theorem K_29 : hr_K 29 = 12 := by decide +kernel
theorem N_29 : hr_N 29 = 40 := by decide +kernel
theorem L_29 : 29 < hr_n := Nat.le_of_ble_eq_true rfl
theorem K_30 : hr_K 30 = 12 := by decide +kernel
theorem N_30 : hr_N 30 = 40 := by decide +kernel
theorem L_30 : 30 < hr_n := Nat.le_of_ble_eq_true rfl
theorem K_31 : hr_K 31 = 12 := by decide +kernel
theorem N_31 : hr_N 31 = 40 := by decide +kernel
theorem L_31 : 31 < hr_n := Nat.le_of_ble_eq_true rfl
theorem K_32 : hr_K 32 = 5 := by decide +kernel
theorem L_32 : 32 < hr_n := Nat.le_of_ble_eq_true rfl
theorem K_33 : hr_K 33 = 12 := by decide +kernel
theorem N_33 : hr_N 33 = 40 := by decide +kernel
theorem L_33 : 33 < hr_n := Nat.le_of_ble_eq_true rfl
theorem K_34 : hr_K 34 = 12 := by decide +kernel
theorem N_34 : hr_N 34 = 40 := by decide +kernel
theorem L_34 : 34 < hr_n := Nat.le_of_ble_eq_true rfl
theorem K_35 : hr_K 35 = 12 := by decide +kernel
theorem N_35 : hr_N 35 = 40 := by decide +kernel
theorem L_35 : 35 < hr_n := Nat.le_of_ble_eq_true rfl
theorem K_36 : hr_K 36 = 5 := by decide +kernel
theorem L_36 : 36 < hr_n := Nat.le_of_ble_eq_true rfl
theorem K_37 : hr_K 37 = 12 := by decide +kernel
theorem N_37 : hr_N 37 = 40 := by decide +kernel
theorem L_37 : 37 < hr_n := Nat.le_of_ble_eq_true rfl
theorem K_38 : hr_K 38 = 12 := by decide +kernel
theorem N_38 : hr_N 38 = 40 := by decide +kernel
theorem L_38 : 38 < hr_n := Nat.le_of_ble_eq_true rfl
theorem K_39 : hr_K 39 = 12 := by decide +kernel
theorem N_39 : hr_N 39 = 40 := by decide +kernel
theorem L_39 : 39 < hr_n := Nat.le_of_ble_eq_true rfl
theorem K_40 : hr_K 40 = 5 := by decide +kernel
theorem L_40 : 40 < hr_n := Nat.le_of_ble_eq_true rfl
theorem K_41 : hr_K 41 = 12 := by decide +kernel
theorem N_41 : hr_N 41 = 40 := by decide +kernel
theorem L_41 : 41 < hr_n := Nat.le_of_ble_eq_true rfl
theorem K_42 : hr_K 42 = 12 := by decide +kernel
theorem N_42 : hr_N 42 = 40 := by decide +kernel
theorem L_42 : 42 < hr_n := Nat.le_of_ble_eq_true rfl
theorem K_43 : hr_K 43 = 12 := by decide +kernel
theorem N_43 : hr_N 43 = 40 := by decide +kernel
theorem L_43 : 43 < hr_n := Nat.le_of_ble_eq_true rfl
theorem K_44 : hr_K 44 = 5 := by decide +kernel
theorem L_44 : 44 < hr_n := Nat.le_of_ble_eq_true rfl
theorem K_45 : hr_K 45 = 12 := by decide +kernel
theorem N_45 : hr_N 45 = 40 := by decide +kernel
theorem L_45 : 45 < hr_n := Nat.le_of_ble_eq_true rfl
theorem K_46 : hr_K 46 = 12 := by decide +kernel
theorem N_46 : hr_N 46 = 40 := by decide +kernel
theorem L_46 : 46 < hr_n := Nat.le_of_ble_eq_true rfl
theorem K_47 : hr_K 47 = 12 := by decide +kernel
theorem N_47 : hr_N 47 = 40 := by decide +kernel
theorem L_47 : 47 < hr_n := Nat.le_of_ble_eq_true rfl
theorem K_48 : hr_K 48 = 5 := by decide +kernel
theorem L_48 : 48 < hr_n := Nat.le_of_ble_eq_true rfl
theorem K_49 : hr_K 49 = 12 := by decide +kernel
theorem N_49 : hr_N 49 = 40 := by decide +kernel
theorem L_49 : 49 < hr_n := Nat.le_of_ble_eq_true rfl
theorem K_50 : hr_K 50 = 12 := by decide +kernel
theorem N_50 : hr_N 50 = 40 := by decide +kernel
theorem L_50 : 50 < hr_n := Nat.le_of_ble_eq_true rfl
theorem K_51 : hr_K 51 = 12 := by decide +kernel
theorem N_51 : hr_N 51 = 40 := by decide +kernel
theorem L_51 : 51 < hr_n := Nat.le_of_ble_eq_true rfl
theorem K_52 : hr_K 52 = 5 := by decide +kernel
theorem L_52 : 52 < hr_n := Nat.le_of_ble_eq_true rfl
theorem K_53 : hr_K 53 = 12 := by decide +kernel
theorem N_53 : hr_N 53 = 40 := by decide +kernel
theorem L_53 : 53 < hr_n := Nat.le_of_ble_eq_true rfl
theorem K_54 : hr_K 54 = 12 := by decide +kernel
theorem N_54 : hr_N 54 = 40 := by decide +kernel
theorem L_54 : 54 < hr_n := Nat.le_of_ble_eq_true rfl
theorem K_55 : hr_K 55 = 12 := by decide +kernel
theorem N_55 : hr_N 55 = 40 := by decide +kernel
theorem L_55 : 55 < hr_n := Nat.le_of_ble_eq_true rfl
theorem K_56 : hr_K 56 = 17 := by decide +kernel
theorem N_56 : hr_N 56 = 3 := by decide +kernel
theorem L_56 : 56 < hr_n := Nat.le_of_ble_eq_true rfl
theorem K_57 : hr_K 57 = 7 := by decide +kernel
theorem L_57 : 57 < hr_n := Nat.le_of_ble_eq_true rfl
theorem K_58 : hr_K 58 = 11 := by decide +kernel
theorem N_58 : hr_N 58 = 600 := by decide +kernel
theorem L_58 : 58 < hr_n := Nat.le_of_ble_eq_true rfl
theorem K_59 : hr_K 59 = 12 := by decide +kernel
theorem N_59 : hr_N 59 = 5 := by decide +kernel
theorem L_59 : 59 < hr_n := Nat.le_of_ble_eq_true rfl
theorem K_60 : hr_K 60 = 15 := by decide +kernel
theorem N_60 : hr_N 60 = 2 := by decide +kernel
theorem L_60 : 60 < hr_n := Nat.le_of_ble_eq_true rfl
theorem K_61 : hr_K 61 = 16 := by decide +kernel
theorem N_61 : hr_N 61 = 8 := by decide +kernel
theorem L_61 : 61 < hr_n := Nat.le_of_ble_eq_true rfl
theorem K_62 : hr_K 62 = 3 := by decide +kernel
theorem L_62 : 62 < hr_n := Nat.le_of_ble_eq_true rfl
theorem K_63 : hr_K 63 = 12 := by decide +kernel
theorem N_63 : hr_N 63 = 30 := by decide +kernel
theorem L_63 : 63 < hr_n := Nat.le_of_ble_eq_true rfl
theorem K_64 : hr_K 64 = 12 := by decide +kernel
theorem N_64 : hr_N 64 = 18 := by decide +kernel
theorem L_64 : 64 < hr_n := Nat.le_of_ble_eq_true rfl
theorem K_65 : hr_K 65 = 12 := by decide +kernel
theorem N_65 : hr_N 65 = 20 := by decide +kernel
theorem L_65 : 65 < hr_n := Nat.le_of_ble_eq_true rfl
theorem K_66 : hr_K 66 = 12 := by decide +kernel
theorem N_66 : hr_N 66 = 100 := by decide +kernel
theorem L_66 : 66 < hr_n := Nat.le_of_ble_eq_true rfl
theorem K_67 : hr_K 67 = 12 := by decide +kernel
theorem N_67 : hr_N 67 = 10 := by decide +kernel
theorem L_67 : 67 < hr_n := Nat.le_of_ble_eq_true rfl
theorem K_68 : hr_K 68 = 12 := by decide +kernel
theorem N_68 : hr_N 68 = 30 := by decide +kernel
theorem L_68 : 68 < hr_n := Nat.le_of_ble_eq_true rfl
theorem K_69 : hr_K 69 = 12 := by decide +kernel
theorem N_69 : hr_N 69 = 28 := by decide +kernel
theorem L_69 : 69 < hr_n := Nat.le_of_ble_eq_true rfl
theorem K_70 : hr_K 70 = 12 := by decide +kernel
theorem N_70 : hr_N 70 = 30 := by decide +kernel
theorem L_70 : 70 < hr_n := Nat.le_of_ble_eq_true rfl
theorem K_71 : hr_K 71 = 3 := by decide +kernel
theorem L_71 : 71 < hr_n := Nat.le_of_ble_eq_true rfl
theorem K_72 : hr_K 72 = 12 := by decide +kernel
theorem N_72 : hr_N 72 = 30 := by decide +kernel
theorem L_72 : 72 < hr_n := Nat.le_of_ble_eq_true rfl
theorem K_73 : hr_K 73 = 12 := by decide +kernel
theorem N_73 : hr_N 73 = 18 := by decide +kernel
theorem L_73 : 73 < hr_n := Nat.le_of_ble_eq_true rfl
theorem K_74 : hr_K 74 = 12 := by decide +kernel
theorem N_74 : hr_N 74 = 20 := by decide +kernel
theorem L_74 : 74 < hr_n := Nat.le_of_ble_eq_true rfl
theorem K_75 : hr_K 75 = 12 := by decide +kernel
theorem N_75 : hr_N 75 = 100 := by decide +kernel
theorem L_75 : 75 < hr_n := Nat.le_of_ble_eq_true rfl
theorem K_76 : hr_K 76 = 12 := by decide +kernel
theorem N_76 : hr_N 76 = 10 := by decide +kernel
theorem L_76 : 76 < hr_n := Nat.le_of_ble_eq_true rfl
theorem K_77 : hr_K 77 = 12 := by decide +kernel
theorem N_77 : hr_N 77 = 30 := by decide +kernel
theorem L_77 : 77 < hr_n := Nat.le_of_ble_eq_true rfl
theorem K_78 : hr_K 78 = 12 := by decide +kernel
theorem N_78 : hr_N 78 = 28 := by decide +kernel
theorem L_78 : 78 < hr_n := Nat.le_of_ble_eq_true rfl
theorem K_79 : hr_K 79 = 12 := by decide +kernel
theorem N_79 : hr_N 79 = 30 := by decide +kernel
theorem L_79 : 79 < hr_n := Nat.le_of_ble_eq_true rfl
theorem K_80 : hr_K 80 = 5 := by decide +kernel
theorem L_80 : 80 < hr_n := Nat.le_of_ble_eq_true rfl
theorem K_81 : hr_K 81 = 12 := by decide +kernel
theorem N_81 : hr_N 81 = 40 := by decide +kernel
theorem L_81 : 81 < hr_n := Nat.le_of_ble_eq_true rfl
theorem K_82 : hr_K 82 = 12 := by decide +kernel
theorem N_82 : hr_N 82 = 40 := by decide +kernel
theorem L_82 : 82 < hr_n := Nat.le_of_ble_eq_true rfl
theorem K_83 : hr_K 83 = 12 := by decide +kernel
theorem N_83 : hr_N 83 = 40 := by decide +kernel
theorem L_83 : 83 < hr_n := Nat.le_of_ble_eq_true rfl
theorem K_84 : hr_K 84 = 5 := by decide +kernel
theorem L_84 : 84 < hr_n := Nat.le_of_ble_eq_true rfl
theorem K_85 : hr_K 85 = 12 := by decide +kernel
theorem N_85 : hr_N 85 = 40 := by decide +kernel
theorem L_85 : 85 < hr_n := Nat.le_of_ble_eq_true rfl
theorem K_86 : hr_K 86 = 12 := by decide +kernel
theorem N_86 : hr_N 86 = 40 := by decide +kernel
theorem L_86 : 86 < hr_n := Nat.le_of_ble_eq_true rfl
theorem K_87 : hr_K 87 = 12 := by decide +kernel
theorem N_87 : hr_N 87 = 40 := by decide +kernel
theorem L_87 : 87 < hr_n := Nat.le_of_ble_eq_true rfl
theorem K_88 : hr_K 88 = 5 := by decide +kernel
theorem L_88 : 88 < hr_n := Nat.le_of_ble_eq_true rfl
theorem K_89 : hr_K 89 = 12 := by decide +kernel
theorem N_89 : hr_N 89 = 40 := by decide +kernel
theorem L_89 : 89 < hr_n := Nat.le_of_ble_eq_true rfl
theorem K_90 : hr_K 90 = 12 := by decide +kernel
theorem N_90 : hr_N 90 = 40 := by decide +kernel
theorem L_90 : 90 < hr_n := Nat.le_of_ble_eq_true rfl
theorem K_91 : hr_K 91 = 12 := by decide +kernel
theorem N_91 : hr_N 91 = 40 := by decide +kernel
theorem L_91 : 91 < hr_n := Nat.le_of_ble_eq_true rfl
theorem K_92 : hr_K 92 = 5 := by decide +kernel
theorem L_92 : 92 < hr_n := Nat.le_of_ble_eq_true rfl
theorem K_93 : hr_K 93 = 12 := by decide +kernel
theorem N_93 : hr_N 93 = 40 := by decide +kernel
theorem L_93 : 93 < hr_n := Nat.le_of_ble_eq_true rfl
theorem K_94 : hr_K 94 = 12 := by decide +kernel
theorem N_94 : hr_N 94 = 40 := by decide +kernel
theorem L_94 : 94 < hr_n := Nat.le_of_ble_eq_true rfl
theorem K_95 : hr_K 95 = 12 := by decide +kernel
theorem N_95 : hr_N 95 = 40 := by decide +kernel
theorem L_95 : 95 < hr_n := Nat.le_of_ble_eq_true rfl
theorem K_96 : hr_K 96 = 5 := by decide +kernel
theorem L_96 : 96 < hr_n := Nat.le_of_ble_eq_true rfl
theorem K_97 : hr_K 97 = 12 := by decide +kernel
theorem N_97 : hr_N 97 = 40 := by decide +kernel
theorem L_97 : 97 < hr_n := Nat.le_of_ble_eq_true rfl
theorem K_98 : hr_K 98 = 12 := by decide +kernel
theorem N_98 : hr_N 98 = 40 := by decide +kernel
theorem L_98 : 98 < hr_n := Nat.le_of_ble_eq_true rfl
theorem K_99 : hr_K 99 = 12 := by decide +kernel
theorem N_99 : hr_N 99 = 40 := by decide +kernel
theorem L_99 : 99 < hr_n := Nat.le_of_ble_eq_true rfl
theorem K_100 : hr_K 100 = 5 := by decide +kernel
theorem L_100 : 100 < hr_n := Nat.le_of_ble_eq_true rfl
theorem K_101 : hr_K 101 = 12 := by decide +kernel
theorem N_101 : hr_N 101 = 40 := by decide +kernel
theorem L_101 : 101 < hr_n := Nat.le_of_ble_eq_true rfl
theorem K_102 : hr_K 102 = 12 := by decide +kernel
theorem N_102 : hr_N 102 = 40 := by decide +kernel
theorem L_102 : 102 < hr_n := Nat.le_of_ble_eq_true rfl
theorem K_103 : hr_K 103 = 12 := by decide +kernel
theorem N_103 : hr_N 103 = 40 := by decide +kernel
theorem L_103 : 103 < hr_n := Nat.le_of_ble_eq_true rfl
theorem K_104 : hr_K 104 = 5 := by decide +kernel
theorem L_104 : 104 < hr_n := Nat.le_of_ble_eq_true rfl
theorem K_105 : hr_K 105 = 12 := by decide +kernel
theorem N_105 : hr_N 105 = 40 := by decide +kernel
theorem L_105 : 105 < hr_n := Nat.le_of_ble_eq_true rfl
theorem K_106 : hr_K 106 = 12 := by decide +kernel
theorem N_106 : hr_N 106 = 40 := by decide +kernel
theorem L_106 : 106 < hr_n := Nat.le_of_ble_eq_true rfl
theorem K_107 : hr_K 107 = 12 := by decide +kernel
theorem N_107 : hr_N 107 = 40 := by decide +kernel
theorem L_107 : 107 < hr_n := Nat.le_of_ble_eq_true rfl
theorem K_108 : hr_K 108 = 5 := by decide +kernel
theorem L_108 : 108 < hr_n := Nat.le_of_ble_eq_true rfl
theorem K_109 : hr_K 109 = 12 := by decide +kernel
theorem N_109 : hr_N 109 = 40 := by decide +kernel
theorem L_109 : 109 < hr_n := Nat.le_of_ble_eq_true rfl
theorem K_110 : hr_K 110 = 12 := by decide +kernel
theorem N_110 : hr_N 110 = 40 := by decide +kernel
theorem L_110 : 110 < hr_n := Nat.le_of_ble_eq_true rfl
theorem K_111 : hr_K 111 = 12 := by decide +kernel
theorem N_111 : hr_N 111 = 40 := by decide +kernel
theorem L_111 : 111 < hr_n := Nat.le_of_ble_eq_true rfl
theorem K_112 : hr_K 112 = 7 := by decide +kernel
theorem L_112 : 112 < hr_n := Nat.le_of_ble_eq_true rfl
theorem K_113 : hr_K 113 = 11 := by decide +kernel
theorem N_113 : hr_N 113 = 600 := by decide +kernel
theorem L_113 : 113 < hr_n := Nat.le_of_ble_eq_true rfl
theorem K_114 : hr_K 114 = 12 := by decide +kernel
theorem N_114 : hr_N 114 = 5 := by decide +kernel
theorem L_114 : 114 < hr_n := Nat.le_of_ble_eq_true rfl
theorem K_115 : hr_K 115 = 15 := by decide +kernel
theorem N_115 : hr_N 115 = 2 := by decide +kernel
theorem L_115 : 115 < hr_n := Nat.le_of_ble_eq_true rfl
theorem K_116 : hr_K 116 = 16 := by decide +kernel
theorem N_116 : hr_N 116 = 8 := by decide +kernel
theorem L_116 : 116 < hr_n := Nat.le_of_ble_eq_true rfl
theorem K_117 : hr_K 117 = 3 := by decide +kernel
theorem L_117 : 117 < hr_n := Nat.le_of_ble_eq_true rfl
theorem K_118 : hr_K 118 = 12 := by decide +kernel
theorem N_118 : hr_N 118 = 30 := by decide +kernel
theorem L_118 : 118 < hr_n := Nat.le_of_ble_eq_true rfl
theorem K_119 : hr_K 119 = 12 := by decide +kernel
theorem N_119 : hr_N 119 = 18 := by decide +kernel
theorem L_119 : 119 < hr_n := Nat.le_of_ble_eq_true rfl
theorem K_120 : hr_K 120 = 12 := by decide +kernel
theorem N_120 : hr_N 120 = 20 := by decide +kernel
theorem L_120 : 120 < hr_n := Nat.le_of_ble_eq_true rfl
theorem K_121 : hr_K 121 = 12 := by decide +kernel
theorem N_121 : hr_N 121 = 100 := by decide +kernel
theorem L_121 : 121 < hr_n := Nat.le_of_ble_eq_true rfl
theorem K_122 : hr_K 122 = 12 := by decide +kernel
theorem N_122 : hr_N 122 = 10 := by decide +kernel
theorem L_122 : 122 < hr_n := Nat.le_of_ble_eq_true rfl
theorem K_123 : hr_K 123 = 12 := by decide +kernel
theorem N_123 : hr_N 123 = 30 := by decide +kernel
theorem L_123 : 123 < hr_n := Nat.le_of_ble_eq_true rfl
theorem K_124 : hr_K 124 = 12 := by decide +kernel
theorem N_124 : hr_N 124 = 28 := by decide +kernel
theorem L_124 : 124 < hr_n := Nat.le_of_ble_eq_true rfl
theorem K_125 : hr_K 125 = 12 := by decide +kernel
theorem N_125 : hr_N 125 = 30 := by decide +kernel
theorem L_125 : 125 < hr_n := Nat.le_of_ble_eq_true rfl
theorem K_126 : hr_K 126 = 3 := by decide +kernel
theorem L_126 : 126 < hr_n := Nat.le_of_ble_eq_true rfl
theorem K_127 : hr_K 127 = 12 := by decide +kernel
theorem N_127 : hr_N 127 = 30 := by decide +kernel
theorem L_127 : 127 < hr_n := Nat.le_of_ble_eq_true rfl
theorem K_128 : hr_K 128 = 12 := by decide +kernel
theorem N_128 : hr_N 128 = 18 := by decide +kernel
theorem L_128 : 128 < hr_n := Nat.le_of_ble_eq_true rfl
theorem K_129 : hr_K 129 = 12 := by decide +kernel
theorem N_129 : hr_N 129 = 20 := by decide +kernel
theorem L_129 : 129 < hr_n := Nat.le_of_ble_eq_true rfl
theorem K_130 : hr_K 130 = 12 := by decide +kernel
theorem N_130 : hr_N 130 = 100 := by decide +kernel
theorem L_130 : 130 < hr_n := Nat.le_of_ble_eq_true rfl
theorem K_131 : hr_K 131 = 12 := by decide +kernel
theorem N_131 : hr_N 131 = 10 := by decide +kernel
theorem L_131 : 131 < hr_n := Nat.le_of_ble_eq_true rfl
theorem K_132 : hr_K 132 = 12 := by decide +kernel
theorem N_132 : hr_N 132 = 30 := by decide +kernel
theorem L_132 : 132 < hr_n := Nat.le_of_ble_eq_true rfl
theorem K_133 : hr_K 133 = 12 := by decide +kernel
theorem N_133 : hr_N 133 = 28 := by decide +kernel
theorem L_133 : 133 < hr_n := Nat.le_of_ble_eq_true rfl
theorem K_134 : hr_K 134 = 12 := by decide +kernel
theorem N_134 : hr_N 134 = 30 := by decide +kernel
theorem L_134 : 134 < hr_n := Nat.le_of_ble_eq_true rfl
theorem K_135 : hr_K 135 = 5 := by decide +kernel
theorem L_135 : 135 < hr_n := Nat.le_of_ble_eq_true rfl
theorem K_136 : hr_K 136 = 12 := by decide +kernel
theorem N_136 : hr_N 136 = 40 := by decide +kernel
theorem L_136 : 136 < hr_n := Nat.le_of_ble_eq_true rfl
theorem K_137 : hr_K 137 = 12 := by decide +kernel
theorem N_137 : hr_N 137 = 40 := by decide +kernel
theorem L_137 : 137 < hr_n := Nat.le_of_ble_eq_true rfl
theorem K_138 : hr_K 138 = 12 := by decide +kernel
theorem N_138 : hr_N 138 = 40 := by decide +kernel
theorem L_138 : 138 < hr_n := Nat.le_of_ble_eq_true rfl
theorem K_139 : hr_K 139 = 5 := by decide +kernel
theorem L_139 : 139 < hr_n := Nat.le_of_ble_eq_true rfl
theorem K_140 : hr_K 140 = 12 := by decide +kernel
theorem N_140 : hr_N 140 = 40 := by decide +kernel
theorem L_140 : 140 < hr_n := Nat.le_of_ble_eq_true rfl
theorem K_141 : hr_K 141 = 12 := by decide +kernel
theorem N_141 : hr_N 141 = 40 := by decide +kernel
theorem L_141 : 141 < hr_n := Nat.le_of_ble_eq_true rfl
theorem K_142 : hr_K 142 = 12 := by decide +kernel
theorem N_142 : hr_N 142 = 40 := by decide +kernel
theorem L_142 : 142 < hr_n := Nat.le_of_ble_eq_true rfl
theorem K_143 : hr_K 143 = 5 := by decide +kernel
theorem L_143 : 143 < hr_n := Nat.le_of_ble_eq_true rfl
theorem K_144 : hr_K 144 = 12 := by decide +kernel
theorem N_144 : hr_N 144 = 40 := by decide +kernel
theorem L_144 : 144 < hr_n := Nat.le_of_ble_eq_true rfl
theorem K_145 : hr_K 145 = 12 := by decide +kernel
theorem N_145 : hr_N 145 = 40 := by decide +kernel
theorem L_145 : 145 < hr_n := Nat.le_of_ble_eq_true rfl
theorem K_146 : hr_K 146 = 12 := by decide +kernel
theorem N_146 : hr_N 146 = 40 := by decide +kernel
theorem L_146 : 146 < hr_n := Nat.le_of_ble_eq_true rfl
theorem K_147 : hr_K 147 = 5 := by decide +kernel
theorem L_147 : 147 < hr_n := Nat.le_of_ble_eq_true rfl
theorem K_148 : hr_K 148 = 12 := by decide +kernel
theorem N_148 : hr_N 148 = 40 := by decide +kernel
theorem L_148 : 148 < hr_n := Nat.le_of_ble_eq_true rfl
theorem K_149 : hr_K 149 = 12 := by decide +kernel
theorem N_149 : hr_N 149 = 40 := by decide +kernel
theorem L_149 : 149 < hr_n := Nat.le_of_ble_eq_true rfl
theorem K_150 : hr_K 150 = 12 := by decide +kernel
theorem N_150 : hr_N 150 = 40 := by decide +kernel
theorem L_150 : 150 < hr_n := Nat.le_of_ble_eq_true rfl
theorem K_151 : hr_K 151 = 5 := by decide +kernel
theorem L_151 : 151 < hr_n := Nat.le_of_ble_eq_true rfl
theorem K_152 : hr_K 152 = 12 := by decide +kernel
theorem N_152 : hr_N 152 = 40 := by decide +kernel
theorem L_152 : 152 < hr_n := Nat.le_of_ble_eq_true rfl
theorem K_153 : hr_K 153 = 12 := by decide +kernel
theorem N_153 : hr_N 153 = 40 := by decide +kernel
theorem L_153 : 153 < hr_n := Nat.le_of_ble_eq_true rfl
theorem K_154 : hr_K 154 = 12 := by decide +kernel
theorem N_154 : hr_N 154 = 40 := by decide +kernel
theorem L_154 : 154 < hr_n := Nat.le_of_ble_eq_true rfl
theorem K_155 : hr_K 155 = 5 := by decide +kernel
theorem L_155 : 155 < hr_n := Nat.le_of_ble_eq_true rfl
theorem K_156 : hr_K 156 = 12 := by decide +kernel
theorem N_156 : hr_N 156 = 40 := by decide +kernel
theorem L_156 : 156 < hr_n := Nat.le_of_ble_eq_true rfl
theorem K_157 : hr_K 157 = 12 := by decide +kernel
theorem N_157 : hr_N 157 = 40 := by decide +kernel
theorem L_157 : 157 < hr_n := Nat.le_of_ble_eq_true rfl
theorem K_158 : hr_K 158 = 12 := by decide +kernel
theorem N_158 : hr_N 158 = 40 := by decide +kernel
theorem L_158 : 158 < hr_n := Nat.le_of_ble_eq_true rfl
theorem K_159 : hr_K 159 = 5 := by decide +kernel
theorem L_159 : 159 < hr_n := Nat.le_of_ble_eq_true rfl
theorem K_160 : hr_K 160 = 12 := by decide +kernel
theorem N_160 : hr_N 160 = 40 := by decide +kernel
theorem L_160 : 160 < hr_n := Nat.le_of_ble_eq_true rfl
theorem K_161 : hr_K 161 = 12 := by decide +kernel
theorem N_161 : hr_N 161 = 40 := by decide +kernel
theorem L_161 : 161 < hr_n := Nat.le_of_ble_eq_true rfl
theorem K_162 : hr_K 162 = 12 := by decide +kernel
theorem N_162 : hr_N 162 = 40 := by decide +kernel
theorem L_162 : 162 < hr_n := Nat.le_of_ble_eq_true rfl
theorem K_163 : hr_K 163 = 5 := by decide +kernel
theorem L_163 : 163 < hr_n := Nat.le_of_ble_eq_true rfl
theorem K_164 : hr_K 164 = 12 := by decide +kernel
theorem N_164 : hr_N 164 = 40 := by decide +kernel
theorem L_164 : 164 < hr_n := Nat.le_of_ble_eq_true rfl
theorem K_165 : hr_K 165 = 12 := by decide +kernel
theorem N_165 : hr_N 165 = 40 := by decide +kernel
theorem L_165 : 165 < hr_n := Nat.le_of_ble_eq_true rfl
theorem K_166 : hr_K 166 = 12 := by decide +kernel
theorem N_166 : hr_N 166 = 40 := by decide +kernel
theorem L_166 : 166 < hr_n := Nat.le_of_ble_eq_true rfl
theorem K_167 : hr_K 167 = 7 := by decide +kernel
theorem L_167 : 167 < hr_n := Nat.le_of_ble_eq_true rfl
theorem K_168 : hr_K 168 = 11 := by decide +kernel
theorem N_168 : hr_N 168 = 600 := by decide +kernel
theorem L_168 : 168 < hr_n := Nat.le_of_ble_eq_true rfl
theorem K_169 : hr_K 169 = 12 := by decide +kernel
theorem N_169 : hr_N 169 = 5 := by decide +kernel
theorem L_169 : 169 < hr_n := Nat.le_of_ble_eq_true rfl
theorem K_170 : hr_K 170 = 15 := by decide +kernel
theorem N_170 : hr_N 170 = 2 := by decide +kernel
theorem L_170 : 170 < hr_n := Nat.le_of_ble_eq_true rfl
theorem K_171 : hr_K 171 = 16 := by decide +kernel
theorem N_171 : hr_N 171 = 8 := by decide +kernel
theorem L_171 : 171 < hr_n := Nat.le_of_ble_eq_true rfl
theorem K_172 : hr_K 172 = 3 := by decide +kernel
theorem L_172 : 172 < hr_n := Nat.le_of_ble_eq_true rfl
theorem K_173 : hr_K 173 = 12 := by decide +kernel
theorem N_173 : hr_N 173 = 30 := by decide +kernel
theorem L_173 : 173 < hr_n := Nat.le_of_ble_eq_true rfl
theorem K_174 : hr_K 174 = 12 := by decide +kernel
theorem N_174 : hr_N 174 = 18 := by decide +kernel
theorem L_174 : 174 < hr_n := Nat.le_of_ble_eq_true rfl
theorem K_175 : hr_K 175 = 12 := by decide +kernel
theorem N_175 : hr_N 175 = 20 := by decide +kernel
theorem L_175 : 175 < hr_n := Nat.le_of_ble_eq_true rfl
theorem K_176 : hr_K 176 = 12 := by decide +kernel
theorem N_176 : hr_N 176 = 100 := by decide +kernel
theorem L_176 : 176 < hr_n := Nat.le_of_ble_eq_true rfl
theorem K_177 : hr_K 177 = 12 := by decide +kernel
theorem N_177 : hr_N 177 = 10 := by decide +kernel
theorem L_177 : 177 < hr_n := Nat.le_of_ble_eq_true rfl
theorem K_178 : hr_K 178 = 12 := by decide +kernel
theorem N_178 : hr_N 178 = 30 := by decide +kernel
theorem L_178 : 178 < hr_n := Nat.le_of_ble_eq_true rfl
theorem K_179 : hr_K 179 = 12 := by decide +kernel
theorem N_179 : hr_N 179 = 28 := by decide +kernel
theorem L_179 : 179 < hr_n := Nat.le_of_ble_eq_true rfl
theorem K_180 : hr_K 180 = 12 := by decide +kernel
theorem N_180 : hr_N 180 = 30 := by decide +kernel
theorem L_180 : 180 < hr_n := Nat.le_of_ble_eq_true rfl
theorem K_181 : hr_K 181 = 3 := by decide +kernel
theorem L_181 : 181 < hr_n := Nat.le_of_ble_eq_true rfl
theorem K_182 : hr_K 182 = 12 := by decide +kernel
theorem N_182 : hr_N 182 = 30 := by decide +kernel
theorem L_182 : 182 < hr_n := Nat.le_of_ble_eq_true rfl
theorem K_183 : hr_K 183 = 12 := by decide +kernel
theorem N_183 : hr_N 183 = 18 := by decide +kernel
theorem L_183 : 183 < hr_n := Nat.le_of_ble_eq_true rfl
theorem K_184 : hr_K 184 = 12 := by decide +kernel
theorem N_184 : hr_N 184 = 20 := by decide +kernel
theorem L_184 : 184 < hr_n := Nat.le_of_ble_eq_true rfl
theorem K_185 : hr_K 185 = 12 := by decide +kernel
theorem N_185 : hr_N 185 = 100 := by decide +kernel
theorem L_185 : 185 < hr_n := Nat.le_of_ble_eq_true rfl
theorem K_186 : hr_K 186 = 12 := by decide +kernel
theorem N_186 : hr_N 186 = 10 := by decide +kernel
theorem L_186 : 186 < hr_n := Nat.le_of_ble_eq_true rfl
theorem K_187 : hr_K 187 = 12 := by decide +kernel
theorem N_187 : hr_N 187 = 30 := by decide +kernel
theorem L_187 : 187 < hr_n := Nat.le_of_ble_eq_true rfl
theorem K_188 : hr_K 188 = 12 := by decide +kernel
theorem N_188 : hr_N 188 = 28 := by decide +kernel
theorem L_188 : 188 < hr_n := Nat.le_of_ble_eq_true rfl
theorem K_189 : hr_K 189 = 12 := by decide +kernel
theorem N_189 : hr_N 189 = 30 := by decide +kernel
theorem L_189 : 189 < hr_n := Nat.le_of_ble_eq_true rfl
theorem K_190 : hr_K 190 = 5 := by decide +kernel
theorem L_190 : 190 < hr_n := Nat.le_of_ble_eq_true rfl
theorem K_191 : hr_K 191 = 12 := by decide +kernel
theorem N_191 : hr_N 191 = 40 := by decide +kernel
theorem L_191 : 191 < hr_n := Nat.le_of_ble_eq_true rfl
theorem K_192 : hr_K 192 = 12 := by decide +kernel
theorem N_192 : hr_N 192 = 40 := by decide +kernel
theorem L_192 : 192 < hr_n := Nat.le_of_ble_eq_true rfl
theorem K_193 : hr_K 193 = 12 := by decide +kernel
theorem N_193 : hr_N 193 = 40 := by decide +kernel
theorem L_193 : 193 < hr_n := Nat.le_of_ble_eq_true rfl
theorem K_194 : hr_K 194 = 5 := by decide +kernel
theorem L_194 : 194 < hr_n := Nat.le_of_ble_eq_true rfl
theorem K_195 : hr_K 195 = 12 := by decide +kernel
theorem N_195 : hr_N 195 = 40 := by decide +kernel
theorem L_195 : 195 < hr_n := Nat.le_of_ble_eq_true rfl
theorem K_196 : hr_K 196 = 12 := by decide +kernel
theorem N_196 : hr_N 196 = 40 := by decide +kernel
theorem L_196 : 196 < hr_n := Nat.le_of_ble_eq_true rfl
theorem K_197 : hr_K 197 = 12 := by decide +kernel
theorem N_197 : hr_N 197 = 40 := by decide +kernel
theorem L_197 : 197 < hr_n := Nat.le_of_ble_eq_true rfl
theorem K_198 : hr_K 198 = 5 := by decide +kernel
theorem L_198 : 198 < hr_n := Nat.le_of_ble_eq_true rfl
theorem K_199 : hr_K 199 = 12 := by decide +kernel
theorem N_199 : hr_N 199 = 40 := by decide +kernel
theorem L_199 : 199 < hr_n := Nat.le_of_ble_eq_true rfl
theorem K_200 : hr_K 200 = 12 := by decide +kernel
theorem N_200 : hr_N 200 = 40 := by decide +kernel
theorem L_200 : 200 < hr_n := Nat.le_of_ble_eq_true rfl
theorem K_201 : hr_K 201 = 12 := by decide +kernel
theorem N_201 : hr_N 201 = 40 := by decide +kernel
theorem L_201 : 201 < hr_n := Nat.le_of_ble_eq_true rfl
theorem K_202 : hr_K 202 = 5 := by decide +kernel
theorem L_202 : 202 < hr_n := Nat.le_of_ble_eq_true rfl
theorem K_203 : hr_K 203 = 12 := by decide +kernel
theorem N_203 : hr_N 203 = 40 := by decide +kernel
theorem L_203 : 203 < hr_n := Nat.le_of_ble_eq_true rfl
theorem K_204 : hr_K 204 = 12 := by decide +kernel
theorem N_204 : hr_N 204 = 40 := by decide +kernel
theorem L_204 : 204 < hr_n := Nat.le_of_ble_eq_true rfl
theorem K_205 : hr_K 205 = 12 := by decide +kernel
theorem N_205 : hr_N 205 = 40 := by decide +kernel
theorem L_205 : 205 < hr_n := Nat.le_of_ble_eq_true rfl
theorem K_206 : hr_K 206 = 5 := by decide +kernel
theorem L_206 : 206 < hr_n := Nat.le_of_ble_eq_true rfl
theorem K_207 : hr_K 207 = 12 := by decide +kernel
theorem N_207 : hr_N 207 = 40 := by decide +kernel
theorem L_207 : 207 < hr_n := Nat.le_of_ble_eq_true rfl
theorem K_208 : hr_K 208 = 12 := by decide +kernel
theorem N_208 : hr_N 208 = 40 := by decide +kernel
theorem L_208 : 208 < hr_n := Nat.le_of_ble_eq_true rfl
theorem K_209 : hr_K 209 = 12 := by decide +kernel
theorem N_209 : hr_N 209 = 40 := by decide +kernel
theorem L_209 : 209 < hr_n := Nat.le_of_ble_eq_true rfl
theorem K_210 : hr_K 210 = 5 := by decide +kernel
theorem L_210 : 210 < hr_n := Nat.le_of_ble_eq_true rfl
theorem K_211 : hr_K 211 = 12 := by decide +kernel
theorem N_211 : hr_N 211 = 40 := by decide +kernel
theorem L_211 : 211 < hr_n := Nat.le_of_ble_eq_true rfl
theorem K_212 : hr_K 212 = 12 := by decide +kernel
theorem N_212 : hr_N 212 = 40 := by decide +kernel
theorem L_212 : 212 < hr_n := Nat.le_of_ble_eq_true rfl
theorem K_213 : hr_K 213 = 12 := by decide +kernel
theorem N_213 : hr_N 213 = 40 := by decide +kernel
theorem L_213 : 213 < hr_n := Nat.le_of_ble_eq_true rfl
theorem K_214 : hr_K 214 = 5 := by decide +kernel
theorem L_214 : 214 < hr_n := Nat.le_of_ble_eq_true rfl
theorem K_215 : hr_K 215 = 12 := by decide +kernel
theorem N_215 : hr_N 215 = 40 := by decide +kernel
theorem L_215 : 215 < hr_n := Nat.le_of_ble_eq_true rfl
theorem K_216 : hr_K 216 = 12 := by decide +kernel
theorem N_216 : hr_N 216 = 40 := by decide +kernel
theorem L_216 : 216 < hr_n := Nat.le_of_ble_eq_true rfl
theorem K_217 : hr_K 217 = 12 := by decide +kernel
theorem N_217 : hr_N 217 = 40 := by decide +kernel
theorem L_217 : 217 < hr_n := Nat.le_of_ble_eq_true rfl
theorem K_218 : hr_K 218 = 5 := by decide +kernel
theorem L_218 : 218 < hr_n := Nat.le_of_ble_eq_true rfl
theorem K_219 : hr_K 219 = 12 := by decide +kernel
theorem N_219 : hr_N 219 = 40 := by decide +kernel
theorem L_219 : 219 < hr_n := Nat.le_of_ble_eq_true rfl
theorem K_220 : hr_K 220 = 12 := by decide +kernel
theorem N_220 : hr_N 220 = 40 := by decide +kernel
theorem L_220 : 220 < hr_n := Nat.le_of_ble_eq_true rfl
theorem K_221 : hr_K 221 = 12 := by decide +kernel
theorem N_221 : hr_N 221 = 40 := by decide +kernel
theorem L_221 : 221 < hr_n := Nat.le_of_ble_eq_true rfl
theorem K_222 : hr_K 222 = 14 := by decide +kernel
theorem N_222 : hr_N 222 = 3 := by decide +kernel
theorem L_222 : 222 < hr_n := Nat.le_of_ble_eq_true rfl
theorem K_223 : hr_K 223 = 4 := by decide +kernel
theorem L_223 : 223 < hr_n := Nat.le_of_ble_eq_true rfl
theorem K_224 : hr_K 224 = 3 := by decide +kernel
theorem L_224 : 224 < hr_n := Nat.le_of_ble_eq_true rfl
theorem K_225 : hr_K 225 = 12 := by decide +kernel
theorem N_225 : hr_N 225 = 30 := by decide +kernel
theorem L_225 : 225 < hr_n := Nat.le_of_ble_eq_true rfl
theorem K_226 : hr_K 226 = 12 := by decide +kernel
theorem N_226 : hr_N 226 = 18 := by decide +kernel
theorem L_226 : 226 < hr_n := Nat.le_of_ble_eq_true rfl
theorem K_227 : hr_K 227 = 12 := by decide +kernel
theorem N_227 : hr_N 227 = 20 := by decide +kernel
theorem L_227 : 227 < hr_n := Nat.le_of_ble_eq_true rfl
theorem K_228 : hr_K 228 = 12 := by decide +kernel
theorem N_228 : hr_N 228 = 100 := by decide +kernel
theorem L_228 : 228 < hr_n := Nat.le_of_ble_eq_true rfl
theorem K_229 : hr_K 229 = 12 := by decide +kernel
theorem N_229 : hr_N 229 = 10 := by decide +kernel
theorem L_229 : 229 < hr_n := Nat.le_of_ble_eq_true rfl
theorem K_230 : hr_K 230 = 12 := by decide +kernel
theorem N_230 : hr_N 230 = 30 := by decide +kernel
theorem L_230 : 230 < hr_n := Nat.le_of_ble_eq_true rfl
theorem K_231 : hr_K 231 = 12 := by decide +kernel
theorem N_231 : hr_N 231 = 28 := by decide +kernel
theorem L_231 : 231 < hr_n := Nat.le_of_ble_eq_true rfl
theorem K_232 : hr_K 232 = 12 := by decide +kernel
theorem N_232 : hr_N 232 = 30 := by decide +kernel
theorem L_232 : 232 < hr_n := Nat.le_of_ble_eq_true rfl
theorem K_233 : hr_K 233 = 5 := by decide +kernel
theorem L_233 : 233 < hr_n := Nat.le_of_ble_eq_true rfl
theorem K_234 : hr_K 234 = 12 := by decide +kernel
theorem N_234 : hr_N 234 = 40 := by decide +kernel
theorem L_234 : 234 < hr_n := Nat.le_of_ble_eq_true rfl
theorem K_235 : hr_K 235 = 12 := by decide +kernel
theorem N_235 : hr_N 235 = 40 := by decide +kernel
theorem L_235 : 235 < hr_n := Nat.le_of_ble_eq_true rfl
theorem K_236 : hr_K 236 = 12 := by decide +kernel
theorem N_236 : hr_N 236 = 40 := by decide +kernel
theorem L_236 : 236 < hr_n := Nat.le_of_ble_eq_true rfl
theorem K_237 : hr_K 237 = 11 := by decide +kernel
theorem N_237 : hr_N 237 = 0 := by decide +kernel
theorem L_237 : 237 < hr_n := Nat.le_of_ble_eq_true rfl
theorem K_238 : hr_K 238 = 12 := by decide +kernel
theorem N_238 : hr_N 238 = 3 := by decide +kernel
theorem L_238 : 238 < hr_n := Nat.le_of_ble_eq_true rfl
theorem K_239 : hr_K 239 = 12 := by decide +kernel
theorem N_239 : hr_N 239 = 3 := by decide +kernel
theorem L_239 : 239 < hr_n := Nat.le_of_ble_eq_true rfl
theorem K_240 : hr_K 240 = 1 := by decide +kernel
theorem L_240 : 240 < hr_n := Nat.le_of_ble_eq_true rfl
theorem K_241 : hr_K 241 = 12 := by decide +kernel
theorem N_241 : hr_N 241 = 10 := by decide +kernel
theorem L_241 : 241 < hr_n := Nat.le_of_ble_eq_true rfl
theorem K_242 : hr_K 242 = 12 := by decide +kernel
theorem N_242 : hr_N 242 = 10 := by decide +kernel
theorem L_242 : 242 < hr_n := Nat.le_of_ble_eq_true rfl
theorem K_243 : hr_K 243 = 12 := by decide +kernel
theorem N_243 : hr_N 243 = 10 := by decide +kernel
theorem L_243 : 243 < hr_n := Nat.le_of_ble_eq_true rfl
theorem K_244 : hr_K 244 = 12 := by decide +kernel
theorem N_244 : hr_N 244 = 10240 := by decide +kernel
theorem L_244 : 244 < hr_n := Nat.le_of_ble_eq_true rfl
theorem K_245 : hr_K 245 = 12 := by decide +kernel
theorem N_245 : hr_N 245 = 10 := by decide +kernel
theorem L_245 : 245 < hr_n := Nat.le_of_ble_eq_true rfl
theorem K_246 : hr_K 246 = 12 := by decide +kernel
theorem N_246 : hr_N 246 = 1024 := by decide +kernel
theorem L_246 : 246 < hr_n := Nat.le_of_ble_eq_true rfl
theorem K_247 : hr_K 247 = 14 := by decide +kernel
theorem N_247 : hr_N 247 = 1024 := by decide +kernel
theorem L_247 : 247 < hr_n := Nat.le_of_ble_eq_true rfl
theorem K_248 : hr_K 248 = 12 := by decide +kernel
theorem N_248 : hr_N 248 = 10 := by decide +kernel
theorem L_248 : 248 < hr_n := Nat.le_of_ble_eq_true rfl
theorem K_249 : hr_K 249 = 8 := by decide +kernel
theorem L_249 : 249 < hr_n := Nat.le_of_ble_eq_true rfl
theorem K_250 : hr_K 250 = 12 := by decide +kernel
theorem N_250 : hr_N 250 = 9 := by decide +kernel
theorem L_250 : 250 < hr_n := Nat.le_of_ble_eq_true rfl
theorem K_251 : hr_K 251 = 12 := by decide +kernel
theorem N_251 : hr_N 251 = 9 := by decide +kernel
theorem L_251 : 251 < hr_n := Nat.le_of_ble_eq_true rfl
theorem K_252 : hr_K 252 = 12 := by decide +kernel
theorem N_252 : hr_N 252 = 6 := by decide +kernel
theorem L_252 : 252 < hr_n := Nat.le_of_ble_eq_true rfl
theorem K_253 : hr_K 253 = 12 := by decide +kernel
theorem N_253 : hr_N 253 = 6 := by decide +kernel
theorem L_253 : 253 < hr_n := Nat.le_of_ble_eq_true rfl
theorem K_254 : hr_K 254 = 12 := by decide +kernel
theorem N_254 : hr_N 254 = 6 := by decide +kernel
theorem L_254 : 254 < hr_n := Nat.le_of_ble_eq_true rfl
theorem K_255 : hr_K 255 = 12 := by decide +kernel
theorem N_255 : hr_N 255 = 15 := by decide +kernel
theorem L_255 : 255 < hr_n := Nat.le_of_ble_eq_true rfl
theorem K_256 : hr_K 256 = 12 := by decide +kernel
theorem N_256 : hr_N 256 = 15 := by decide +kernel
theorem L_256 : 256 < hr_n := Nat.le_of_ble_eq_true rfl
theorem K_257 : hr_K 257 = 0 := by decide +kernel
theorem L_257 : 257 < hr_n := Nat.le_of_ble_eq_true rfl
theorem K_258 : hr_K 258 = 12 := by decide +kernel
theorem N_258 : hr_N 258 = 90 := by decide +kernel
theorem L_258 : 258 < hr_n := Nat.le_of_ble_eq_true rfl
theorem K_259 : hr_K 259 = 12 := by decide +kernel
theorem N_259 : hr_N 259 = 9 := by decide +kernel
theorem L_259 : 259 < hr_n := Nat.le_of_ble_eq_true rfl
theorem K_260 : hr_K 260 = 14 := by decide +kernel
theorem N_260 : hr_N 260 = 1000 := by decide +kernel
theorem L_260 : 260 < hr_n := Nat.le_of_ble_eq_true rfl
theorem K_261 : hr_K 261 = 12 := by decide +kernel
theorem N_261 : hr_N 261 = 1001 := by decide +kernel
theorem L_261 : 261 < hr_n := Nat.le_of_ble_eq_true rfl
theorem K_262 : hr_K 262 = 12 := by decide +kernel
theorem N_262 : hr_N 262 = 1001 := by decide +kernel
theorem L_262 : 262 < hr_n := Nat.le_of_ble_eq_true rfl
theorem K_263 : hr_K 263 = 12 := by decide +kernel
theorem N_263 : hr_N 263 = 1001 := by decide +kernel
theorem L_263 : 263 < hr_n := Nat.le_of_ble_eq_true rfl
theorem K_264 : hr_K 264 = 2 := by decide +kernel
theorem L_264 : 264 < hr_n := Nat.le_of_ble_eq_true rfl
theorem K_265 : hr_K 265 = 12 := by decide +kernel
theorem N_265 : hr_N 265 = 4 := by decide +kernel
theorem L_265 : 265 < hr_n := Nat.le_of_ble_eq_true rfl
theorem K_266 : hr_K 266 = 12 := by decide +kernel
theorem N_266 : hr_N 266 = 4 := by decide +kernel
theorem L_266 : 266 < hr_n := Nat.le_of_ble_eq_true rfl
theorem K_267 : hr_K 267 = 12 := by decide +kernel
theorem N_267 : hr_N 267 = 6280 := by decide +kernel
theorem L_267 : 267 < hr_n := Nat.le_of_ble_eq_true rfl
theorem K_268 : hr_K 268 = 12 := by decide +kernel
theorem N_268 : hr_N 268 = 6280 := by decide +kernel
theorem L_268 : 268 < hr_n := Nat.le_of_ble_eq_true rfl
theorem K_269 : hr_K 269 = 12 := by decide +kernel
theorem N_269 : hr_N 269 = 6280 := by decide +kernel
theorem L_269 : 269 < hr_n := Nat.le_of_ble_eq_true rfl
theorem K_270 : hr_K 270 = 12 := by decide +kernel
theorem N_270 : hr_N 270 = 56 := by decide +kernel
theorem L_270 : 270 < hr_n := Nat.le_of_ble_eq_true rfl
theorem K_271 : hr_K 271 = 6 := by decide +kernel
theorem L_271 : 271 < hr_n := Nat.le_of_ble_eq_true rfl
theorem K_272 : hr_K 272 = 13 := by decide +kernel
theorem N_272 : hr_N 272 = 80 := by decide +kernel
theorem L_272 : 272 < hr_n := Nat.le_of_ble_eq_true rfl
theorem K_273 : hr_K 273 = 12 := by decide +kernel
theorem N_273 : hr_N 273 = 8 := by decide +kernel
theorem L_273 : 273 < hr_n := Nat.le_of_ble_eq_true rfl
theorem K_274 : hr_K 274 = 12 := by decide +kernel
theorem N_274 : hr_N 274 = 8 := by decide +kernel
theorem L_274 : 274 < hr_n := Nat.le_of_ble_eq_true rfl
theorem K_275 : hr_K 275 = 10 := by decide +kernel
theorem L_275 : 275 < hr_n := Nat.le_of_ble_eq_true rfl
theorem K_276 : hr_K 276 = 11 := by decide +kernel
theorem N_276 : hr_N 276 = 2400 := by decide +kernel
theorem L_276 : 276 < hr_n := Nat.le_of_ble_eq_true rfl
theorem K_277 : hr_K 277 = 12 := by decide +kernel
theorem N_277 : hr_N 277 = 4 := by decide +kernel
theorem L_277 : 277 < hr_n := Nat.le_of_ble_eq_true rfl
theorem K_278 : hr_K 278 = 12 := by decide +kernel
theorem N_278 : hr_N 278 = 4 := by decide +kernel
theorem L_278 : 278 < hr_n := Nat.le_of_ble_eq_true rfl
theorem K_279 : hr_K 279 = 12 := by decide +kernel
theorem N_279 : hr_N 279 = 4 := by decide +kernel
theorem L_279 : 279 < hr_n := Nat.le_of_ble_eq_true rfl
theorem K_280 : hr_K 280 = 12 := by decide +kernel
theorem N_280 : hr_N 280 = 20 := by decide +kernel
theorem L_280 : 280 < hr_n := Nat.le_of_ble_eq_true rfl
theorem K_281 : hr_K 281 = 12 := by decide +kernel
theorem N_281 : hr_N 281 = 560 := by decide +kernel
theorem L_281 : 281 < hr_n := Nat.le_of_ble_eq_true rfl
theorem K_282 : hr_K 282 = 12 := by decide +kernel
theorem N_282 : hr_N 282 = 160 := by decide +kernel
theorem L_282 : 282 < hr_n := Nat.le_of_ble_eq_true rfl
theorem K_283 : hr_K 283 = 12 := by decide +kernel
theorem N_283 : hr_N 283 = 968 := by decide +kernel
theorem L_283 : 283 < hr_n := Nat.le_of_ble_eq_true rfl
theorem K_284 : hr_K 284 = 12 := by decide +kernel
theorem N_284 : hr_N 284 = 296 := by decide +kernel
theorem L_284 : 284 < hr_n := Nat.le_of_ble_eq_true rfl
theorem K_285 : hr_K 285 = 12 := by decide +kernel
theorem N_285 : hr_N 285 = 72 := by decide +kernel
theorem L_285 : 285 < hr_n := Nat.le_of_ble_eq_true rfl
theorem K_286 : hr_K 286 = 12 := by decide +kernel
theorem N_286 : hr_N 286 = 121 := by decide +kernel
theorem L_286 : 286 < hr_n := Nat.le_of_ble_eq_true rfl
theorem K_287 : hr_K 287 = 12 := by decide +kernel
theorem N_287 : hr_N 287 = 4 := by decide +kernel
theorem L_287 : 287 < hr_n := Nat.le_of_ble_eq_true rfl
theorem K_288 : hr_K 288 = 12 := by decide +kernel
theorem N_288 : hr_N 288 = 100 := by decide +kernel
theorem L_288 : 288 < hr_n := Nat.le_of_ble_eq_true rfl
theorem K_289 : hr_K 289 = 12 := by decide +kernel
theorem N_289 : hr_N 289 = 6 := by decide +kernel
theorem L_289 : 289 < hr_n := Nat.le_of_ble_eq_true rfl
theorem K_290 : hr_K 290 = 12 := by decide +kernel
theorem N_290 : hr_N 290 = 9 := by decide +kernel
theorem L_290 : 290 < hr_n := Nat.le_of_ble_eq_true rfl
theorem K_291 : hr_K 291 = 12 := by decide +kernel
theorem N_291 : hr_N 291 = 9 := by decide +kernel
theorem L_291 : 291 < hr_n := Nat.le_of_ble_eq_true rfl
theorem K_292 : hr_K 292 = 12 := by decide +kernel
theorem N_292 : hr_N 292 = 6 := by decide +kernel
theorem L_292 : 292 < hr_n := Nat.le_of_ble_eq_true rfl
theorem K_293 : hr_K 293 = 12 := by decide +kernel
theorem N_293 : hr_N 293 = 6 := by decide +kernel
theorem L_293 : 293 < hr_n := Nat.le_of_ble_eq_true rfl
theorem K_294 : hr_K 294 = 12 := by decide +kernel
theorem N_294 : hr_N 294 = 6 := by decide +kernel
theorem L_294 : 294 < hr_n := Nat.le_of_ble_eq_true rfl
theorem K_295 : hr_K 295 = 12 := by decide +kernel
theorem N_295 : hr_N 295 = 512 := by decide +kernel
theorem L_295 : 295 < hr_n := Nat.le_of_ble_eq_true rfl
theorem K_296 : hr_K 296 = 12 := by decide +kernel
theorem N_296 : hr_N 296 = 10 := by decide +kernel
theorem L_296 : 296 < hr_n := Nat.le_of_ble_eq_true rfl
theorem K_297 : hr_K 297 = 13 := by decide +kernel
theorem N_297 : hr_N 297 = 10240 := by decide +kernel
theorem L_297 : 297 < hr_n := Nat.le_of_ble_eq_true rfl
theorem K_298 : hr_K 298 = 12 := by decide +kernel
theorem N_298 : hr_N 298 = 100 := by decide +kernel
theorem L_298 : 298 < hr_n := Nat.le_of_ble_eq_true rfl
theorem K_299 : hr_K 299 = 12 := by decide +kernel
theorem N_299 : hr_N 299 = 1000 := by decide +kernel
theorem L_299 : 299 < hr_n := Nat.le_of_ble_eq_true rfl
theorem K_300 : hr_K 300 = 12 := by decide +kernel
theorem N_300 : hr_N 300 = 1024 := by decide +kernel
theorem L_300 : 300 < hr_n := Nat.le_of_ble_eq_true rfl
theorem K_301 : hr_K 301 = 14 := by decide +kernel
theorem N_301 : hr_N 301 = 1570 := by decide +kernel
theorem L_301 : 301 < hr_n := Nat.le_of_ble_eq_true rfl
theorem K_302 : hr_K 302 = 13 := by decide +kernel
theorem N_302 : hr_N 302 = 80 := by decide +kernel
theorem L_302 : 302 < hr_n := Nat.le_of_ble_eq_true rfl
theorem K_303 : hr_K 303 = 12 := by decide +kernel
theorem N_303 : hr_N 303 = 8 := by decide +kernel
theorem L_303 : 303 < hr_n := Nat.le_of_ble_eq_true rfl
theorem K_304 : hr_K 304 = 14 := by decide +kernel
theorem N_304 : hr_N 304 = 3 := by decide +kernel
theorem L_304 : 304 < hr_n := Nat.le_of_ble_eq_true rfl
theorem K_305 : hr_K 305 = 12 := by decide +kernel
theorem N_305 : hr_N 305 = 5 := by decide +kernel
theorem K_306 : hr_K 306 = 18 := by decide +kernel
theorem N_306 : hr_N 306 = 18 := by decide +kernel
theorem K_307 : hr_K 307 = 19 := by decide +kernel
theorem N_307 : hr_N 307 = 0 := by decide +kernel
theorem K_308 : hr_K 308 = 19 := by decide +kernel
theorem N_308 : hr_N 308 = 0 := by decide +kernel
theorem K_309 : hr_K 309 = 19 := by decide +kernel
theorem N_309 : hr_N 309 = 0 := by decide +kernel
theorem K_310 : hr_K 310 = 19 := by decide +kernel
theorem N_310 : hr_N 310 = 0 := by decide +kernel
theorem K_311 : hr_K 311 = 19 := by decide +kernel
theorem N_311 : hr_N 311 = 0 := by decide +kernel
theorem K_312 : hr_K 312 = 19 := by decide +kernel
theorem N_312 : hr_N 312 = 0 := by decide +kernel
theorem K_313 : hr_K 313 = 19 := by decide +kernel
theorem N_313 : hr_N 313 = 0 := by decide +kernel
theorem K_314 : hr_K 314 = 19 := by decide +kernel
theorem N_314 : hr_N 314 = 0 := by decide +kernel
theorem K_315 : hr_K 315 = 19 := by decide +kernel
theorem N_315 : hr_N 315 = 0 := by decide +kernel
theorem K_316 : hr_K 316 = 19 := by decide +kernel
theorem N_316 : hr_N 316 = 0 := by decide +kernel
theorem K_317 : hr_K 317 = 19 := by decide +kernel
theorem N_317 : hr_N 317 = 0 := by decide +kernel
theorem K_318 : hr_K 318 = 19 := by decide +kernel
theorem N_318 : hr_N 318 = 0 := by decide +kernel
theorem K_319 : hr_K 319 = 19 := by decide +kernel
theorem N_319 : hr_N 319 = 0 := by decide +kernel
theorem K_320 : hr_K 320 = 19 := by decide +kernel
theorem N_320 : hr_N 320 = 0 := by decide +kernel
theorem K_321 : hr_K 321 = 19 := by decide +kernel
theorem N_321 : hr_N 321 = 0 := by decide +kernel
theorem K_322 : hr_K 322 = 19 := by decide +kernel
theorem N_322 : hr_N 322 = 0 := by decide +kernel
theorem K_323 : hr_K 323 = 19 := by decide +kernel
theorem N_323 : hr_N 323 = 0 := by decide +kernel
theorem K_324 : hr_K 324 = 19 := by decide +kernel
theorem N_324 : hr_N 324 = 0 := by decide +kernel
theorem K_325 : hr_K 325 = 20 := by decide +kernel
theorem N_325 : hr_N 325 = 3 := by decide +kernel
theorem K_326 : hr_K 326 = 20 := by decide +kernel
theorem N_326 : hr_N 326 = 3 := by decide +kernel
theorem K_327 : hr_K 327 = 20 := by decide +kernel
theorem N_327 : hr_N 327 = 3 := by decide +kernel
theorem K_328 : hr_K 328 = 20 := by decide +kernel
theorem N_328 : hr_N 328 = 4 := by decide +kernel
theorem K_329 : hr_K 329 = 20 := by decide +kernel
theorem N_329 : hr_N 329 = 4 := by decide +kernel
theorem K_330 : hr_K 330 = 20 := by decide +kernel
theorem N_330 : hr_N 330 = 4 := by decide +kernel
theorem K_331 : hr_K 331 = 20 := by decide +kernel
theorem N_331 : hr_N 331 = 5 := by decide +kernel
theorem K_332 : hr_K 332 = 20 := by decide +kernel
theorem N_332 : hr_N 332 = 7 := by decide +kernel
theorem K_333 : hr_K 333 = 20 := by decide +kernel
theorem N_333 : hr_N 333 = 5 := by decide +kernel
theorem K_334 : hr_K 334 = 20 := by decide +kernel
theorem N_334 : hr_N 334 = 4 := by decide +kernel
theorem K_335 : hr_K 335 = 20 := by decide +kernel
theorem N_335 : hr_N 335 = 4 := by decide +kernel
theorem K_336 : hr_K 336 = 20 := by decide +kernel
theorem N_336 : hr_N 336 = 4 := by decide +kernel
theorem K_337 : hr_K 337 = 20 := by decide +kernel
theorem N_337 : hr_N 337 = 5 := by decide +kernel
theorem K_338 : hr_K 338 = 20 := by decide +kernel
theorem N_338 : hr_N 338 = 5 := by decide +kernel
theorem K_339 : hr_K 339 = 20 := by decide +kernel
theorem N_339 : hr_N 339 = 4 := by decide +kernel
theorem K_340 : hr_K 340 = 20 := by decide +kernel
theorem N_340 : hr_N 340 = 4 := by decide +kernel
theorem K_341 : hr_K 341 = 20 := by decide +kernel
theorem N_341 : hr_N 341 = 7 := by decide +kernel
theorem K_342 : hr_K 342 = 20 := by decide +kernel
theorem N_342 : hr_N 342 = 5 := by decide +kernel
theorem kfa_3_2 : ∀ t, t < 305 → hr_K t = 3 → hr_K (t + 1) = 12 ∧ hr_N (t + 1) = 30 ∧ t + 1 < hr_n := by decide +kernel
theorem kf_3_2 {t : Nat} (h : hr_K t = 3) : hr_K (t + 1) = 12 ∧ hr_N (t + 1) = 30 ∧ t + 1 < hr_n := kfa_3_2 t (hr_dk h (by decide)) h
theorem kfa_3_3 : ∀ t, t < 305 → hr_K t = 3 → hr_K (t + 2) = 12 ∧ hr_N (t + 2) = 18 ∧ t + 2 < hr_n := by decide +kernel
theorem kf_3_3 {t : Nat} (h : hr_K t = 3) : hr_K (t + 2) = 12 ∧ hr_N (t + 2) = 18 ∧ t + 2 < hr_n := kfa_3_3 t (hr_dk h (by decide)) h
theorem kfa_3_4 : ∀ t, t < 305 → hr_K t = 3 → hr_K (t + 3) = 12 ∧ hr_N (t + 3) = 20 ∧ t + 3 < hr_n := by decide +kernel
theorem kf_3_4 {t : Nat} (h : hr_K t = 3) : hr_K (t + 3) = 12 ∧ hr_N (t + 3) = 20 ∧ t + 3 < hr_n := kfa_3_4 t (hr_dk h (by decide)) h
theorem kfa_3_5 : ∀ t, t < 305 → hr_K t = 3 → hr_K (t + 4) = 12 ∧ hr_N (t + 4) = 100 ∧ t + 4 < hr_n := by decide +kernel
theorem kf_3_5 {t : Nat} (h : hr_K t = 3) : hr_K (t + 4) = 12 ∧ hr_N (t + 4) = 100 ∧ t + 4 < hr_n := kfa_3_5 t (hr_dk h (by decide)) h
theorem kfa_3_6 : ∀ t, t < 305 → hr_K t = 3 → hr_K (t + 5) = 12 ∧ hr_N (t + 5) = 10 ∧ t + 5 < hr_n := by decide +kernel
theorem kf_3_6 {t : Nat} (h : hr_K t = 3) : hr_K (t + 5) = 12 ∧ hr_N (t + 5) = 10 ∧ t + 5 < hr_n := kfa_3_6 t (hr_dk h (by decide)) h
theorem kfa_3_7 : ∀ t, t < 305 → hr_K t = 3 → hr_K (t + 6) = 12 ∧ hr_N (t + 6) = 30 ∧ t + 6 < hr_n := by decide +kernel
theorem kf_3_7 {t : Nat} (h : hr_K t = 3) : hr_K (t + 6) = 12 ∧ hr_N (t + 6) = 30 ∧ t + 6 < hr_n := kfa_3_7 t (hr_dk h (by decide)) h
theorem kfa_3_8 : ∀ t, t < 305 → hr_K t = 3 → hr_K (t + 7) = 12 ∧ hr_N (t + 7) = 28 ∧ t + 7 < hr_n := by decide +kernel
theorem kf_3_8 {t : Nat} (h : hr_K t = 3) : hr_K (t + 7) = 12 ∧ hr_N (t + 7) = 28 ∧ t + 7 < hr_n := kfa_3_8 t (hr_dk h (by decide)) h
theorem kfa_3_9 : ∀ t, t < 305 → hr_K t = 3 → hr_K (t + 8) = 12 ∧ hr_N (t + 8) = 30 ∧ t + 8 < hr_n := by decide +kernel
theorem kf_3_9 {t : Nat} (h : hr_K t = 3) : hr_K (t + 8) = 12 ∧ hr_N (t + 8) = 30 ∧ t + 8 < hr_n := kfa_3_9 t (hr_dk h (by decide)) h
theorem kfa_5_3 : ∀ t, t < 305 → hr_K t = 5 → hr_K (t + 1) = 12 ∧ hr_N (t + 1) = 40 ∧ t + 1 < hr_n := by decide +kernel
theorem kf_5_3 {t : Nat} (h : hr_K t = 5) : hr_K (t + 1) = 12 ∧ hr_N (t + 1) = 40 ∧ t + 1 < hr_n := kfa_5_3 t (hr_dk h (by decide)) h
theorem kfa_5_4 : ∀ t, t < 305 → hr_K t = 5 → hr_K (t + 2) = 12 ∧ hr_N (t + 2) = 40 ∧ t + 2 < hr_n := by decide +kernel
theorem kf_5_4 {t : Nat} (h : hr_K t = 5) : hr_K (t + 2) = 12 ∧ hr_N (t + 2) = 40 ∧ t + 2 < hr_n := kfa_5_4 t (hr_dk h (by decide)) h
theorem kfa_5_5 : ∀ t, t < 305 → hr_K t = 5 → hr_K (t + 3) = 12 ∧ hr_N (t + 3) = 40 ∧ t + 3 < hr_n := by decide +kernel
theorem kf_5_5 {t : Nat} (h : hr_K t = 5) : hr_K (t + 3) = 12 ∧ hr_N (t + 3) = 40 ∧ t + 3 < hr_n := kfa_5_5 t (hr_dk h (by decide)) h
theorem kfa_7_0 : ∀ t, t < 305 → hr_K t = 7 → hr_K (t + 1) = 11 ∧ hr_N (t + 1) = 600 ∧ t + 1 < hr_n := by decide +kernel
theorem kf_7_0 {t : Nat} (h : hr_K t = 7) : hr_K (t + 1) = 11 ∧ hr_N (t + 1) = 600 ∧ t + 1 < hr_n := kfa_7_0 t (hr_dk h (by decide)) h
theorem kfa_7_4 : ∀ t, t < 305 → hr_K t = 7 → hr_K (t + 2) = 12 ∧ hr_N (t + 2) = 5 ∧ t + 2 < hr_n := by decide +kernel
theorem kf_7_4 {t : Nat} (h : hr_K t = 7) : hr_K (t + 2) = 12 ∧ hr_N (t + 2) = 5 ∧ t + 2 < hr_n := kfa_7_4 t (hr_dk h (by decide)) h
theorem kfa_7_5 : ∀ t, t < 305 → hr_K t = 7 → hr_K (t + 3) = 15 ∧ hr_N (t + 3) = 2 ∧ t + 3 < hr_n := by decide +kernel
theorem kf_7_5 {t : Nat} (h : hr_K t = 7) : hr_K (t + 3) = 15 ∧ hr_N (t + 3) = 2 ∧ t + 3 < hr_n := kfa_7_5 t (hr_dk h (by decide)) h
theorem kfa_7_6 : ∀ t, t < 305 → hr_K t = 7 → hr_K (t + 4) = 16 ∧ hr_N (t + 4) = 8 ∧ t + 4 < hr_n := by decide +kernel
theorem kf_7_6 {t : Nat} (h : hr_K t = 7) : hr_K (t + 4) = 16 ∧ hr_N (t + 4) = 8 ∧ t + 4 < hr_n := kfa_7_6 t (hr_dk h (by decide)) h
theorem kfa_19 : ∀ t, t < 343 → hr_K t = 19 → hr_K (t + 18) = 20 := by decide +kernel
theorem kf_19 {t : Nat} (h : hr_K t = 19) : hr_K (t + 18) = 20 := by
  rcases Nat.lt_or_ge t 343 with q | q
  · exact kfa_19 t q h
  · rw [hr_K_out q] at h
    cases h
