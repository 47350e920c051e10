theorem mT_1 {w : Cond} (h : w ∈ tables_1_1) : w ∈ lw_tbl := List.mem_append_right _ (List.mem_append_left _ h)
theorem mU_1 {w : Cond} (i : Nat) (h : tables_1_1[i]? = some w) (g : goodWord w = true) : w ∈ UW := List.mem_filter.mpr ⟨mT_1 (List.mem_of_getElem? h), g⟩
theorem mN_1 {w : Cond} (i : Nat) (h : tables_1_1[i]? = some w) (g : isNest w = true) : w ∈ NW := List.mem_filter.mpr ⟨mT_1 (List.mem_of_getElem? h), g⟩
theorem mT_2 {w : Cond} (h : w ∈ tables_1_2) : w ∈ lw_tbl := List.mem_append_right _ (List.mem_append_right _ (List.mem_append_left _ h))
theorem mU_2 {w : Cond} (i : Nat) (h : tables_1_2[i]? = some w) (g : goodWord w = true) : w ∈ UW := List.mem_filter.mpr ⟨mT_2 (List.mem_of_getElem? h), g⟩
theorem mN_2 {w : Cond} (i : Nat) (h : tables_1_2[i]? = some w) (g : isNest w = true) : w ∈ NW := List.mem_filter.mpr ⟨mT_2 (List.mem_of_getElem? h), g⟩
theorem mT_3 {w : Cond} (h : w ∈ tables_1_3) : w ∈ lw_tbl := List.mem_append_right _ (List.mem_append_right _ (List.mem_append_right _ (List.mem_append_left _ h)))
theorem mU_3 {w : Cond} (i : Nat) (h : tables_1_3[i]? = some w) (g : goodWord w = true) : w ∈ UW := List.mem_filter.mpr ⟨mT_3 (List.mem_of_getElem? h), g⟩
theorem mN_3 {w : Cond} (i : Nat) (h : tables_1_3[i]? = some w) (g : isNest w = true) : w ∈ NW := List.mem_filter.mpr ⟨mT_3 (List.mem_of_getElem? h), g⟩
theorem mT_4 {w : Cond} (h : w ∈ tables_1_4) : w ∈ lw_tbl := List.mem_append_right _ (List.mem_append_right _ (List.mem_append_right _ (List.mem_append_right _ (List.mem_append_left _ h))))
theorem mU_4 {w : Cond} (i : Nat) (h : tables_1_4[i]? = some w) (g : goodWord w = true) : w ∈ UW := List.mem_filter.mpr ⟨mT_4 (List.mem_of_getElem? h), g⟩
theorem mN_4 {w : Cond} (i : Nat) (h : tables_1_4[i]? = some w) (g : isNest w = true) : w ∈ NW := List.mem_filter.mpr ⟨mT_4 (List.mem_of_getElem? h), g⟩
theorem mT_5 {w : Cond} (h : w ∈ tables_1_5) : w ∈ lw_tbl := List.mem_append_right _ (List.mem_append_right _ (List.mem_append_right _ (List.mem_append_right _ (List.mem_append_right _ (List.mem_append_left _ h)))))
theorem mU_5 {w : Cond} (i : Nat) (h : tables_1_5[i]? = some w) (g : goodWord w = true) : w ∈ UW := List.mem_filter.mpr ⟨mT_5 (List.mem_of_getElem? h), g⟩
theorem mN_5 {w : Cond} (i : Nat) (h : tables_1_5[i]? = some w) (g : isNest w = true) : w ∈ NW := List.mem_filter.mpr ⟨mT_5 (List.mem_of_getElem? h), g⟩
theorem mT_6 {w : Cond} (h : w ∈ tables_1_6) : w ∈ lw_tbl := List.mem_append_right _ (List.mem_append_right _ (List.mem_append_right _ (List.mem_append_right _ (List.mem_append_right _ (List.mem_append_right _ (List.mem_append_left _ h))))))
theorem mU_6 {w : Cond} (i : Nat) (h : tables_1_6[i]? = some w) (g : goodWord w = true) : w ∈ UW := List.mem_filter.mpr ⟨mT_6 (List.mem_of_getElem? h), g⟩
theorem mN_6 {w : Cond} (i : Nat) (h : tables_1_6[i]? = some w) (g : isNest w = true) : w ∈ NW := List.mem_filter.mpr ⟨mT_6 (List.mem_of_getElem? h), g⟩
theorem mT_7 {w : Cond} (h : w ∈ tables_1_7) : w ∈ lw_tbl := List.mem_append_right _ (List.mem_append_right _ (List.mem_append_right _ (List.mem_append_right _ (List.mem_append_right _ (List.mem_append_right _ (List.mem_append_right _ (List.mem_append_left _ h)))))))
theorem mU_7 {w : Cond} (i : Nat) (h : tables_1_7[i]? = some w) (g : goodWord w = true) : w ∈ UW := List.mem_filter.mpr ⟨mT_7 (List.mem_of_getElem? h), g⟩
theorem mN_7 {w : Cond} (i : Nat) (h : tables_1_7[i]? = some w) (g : isNest w = true) : w ∈ NW := List.mem_filter.mpr ⟨mT_7 (List.mem_of_getElem? h), g⟩
theorem mT_8 {w : Cond} (h : w ∈ tables_1_8) : w ∈ lw_tbl := List.mem_append_right _ (List.mem_append_right _ (List.mem_append_right _ (List.mem_append_right _ (List.mem_append_right _ (List.mem_append_right _ (List.mem_append_right _ (List.mem_append_right _ (List.mem_append_left _ h))))))))
theorem mU_8 {w : Cond} (i : Nat) (h : tables_1_8[i]? = some w) (g : goodWord w = true) : w ∈ UW := List.mem_filter.mpr ⟨mT_8 (List.mem_of_getElem? h), g⟩
theorem mN_8 {w : Cond} (i : Nat) (h : tables_1_8[i]? = some w) (g : isNest w = true) : w ∈ NW := List.mem_filter.mpr ⟨mT_8 (List.mem_of_getElem? h), g⟩
theorem mT_9 {w : Cond} (h : w ∈ tables_1_9) : w ∈ lw_tbl := List.mem_append_right _ (List.mem_append_right _ (List.mem_append_right _ (List.mem_append_right _ (List.mem_append_right _ (List.mem_append_right _ (List.mem_append_right _ (List.mem_append_right _ (List.mem_append_right _ (h)))))))))
theorem mU_9 {w : Cond} (i : Nat) (h : tables_1_9[i]? = some w) (g : goodWord w = true) : w ∈ UW := List.mem_filter.mpr ⟨mT_9 (List.mem_of_getElem? h), g⟩
theorem mN_9 {w : Cond} (i : Nat) (h : tables_1_9[i]? = some w) (g : isNest w = true) : w ∈ NW := List.mem_filter.mpr ⟨mT_9 (List.mem_of_getElem? h), g⟩
theorem mV_1 {y : MethodName} {n : Nat} (i : Nat) (h : lw_privs_1[i]? = some (y, n)) : Cond.selects y.cls y y ∈ UW := List.mem_filter.mpr ⟨List.mem_append_left _ (List.mem_map.mpr ⟨(y, n), (have h := List.mem_of_getElem? h; List.mem_append_left _ h), rfl⟩), rfl⟩
theorem mV_2 {y : MethodName} {n : Nat} (i : Nat) (h : lw_privs_2[i]? = some (y, n)) : Cond.selects y.cls y y ∈ UW := List.mem_filter.mpr ⟨List.mem_append_left _ (List.mem_map.mpr ⟨(y, n), (have h := List.mem_of_getElem? h; List.mem_append_right _ (List.mem_append_left _ h)), rfl⟩), rfl⟩
theorem mV_3 {y : MethodName} {n : Nat} (i : Nat) (h : lw_privs_3[i]? = some (y, n)) : Cond.selects y.cls y y ∈ UW := List.mem_filter.mpr ⟨List.mem_append_left _ (List.mem_map.mpr ⟨(y, n), (have h := List.mem_of_getElem? h; List.mem_append_right _ (List.mem_append_right _ (List.mem_append_left _ h))), rfl⟩), rfl⟩
theorem mV_4 {y : MethodName} {n : Nat} (i : Nat) (h : lw_privs_4[i]? = some (y, n)) : Cond.selects y.cls y y ∈ UW := List.mem_filter.mpr ⟨List.mem_append_left _ (List.mem_map.mpr ⟨(y, n), (have h := List.mem_of_getElem? h; List.mem_append_right _ (List.mem_append_right _ (List.mem_append_right _ (List.mem_append_left _ h)))), rfl⟩), rfl⟩
theorem mV_5 {y : MethodName} {n : Nat} (i : Nat) (h : lw_privs_5[i]? = some (y, n)) : Cond.selects y.cls y y ∈ UW := List.mem_filter.mpr ⟨List.mem_append_left _ (List.mem_map.mpr ⟨(y, n), (have h := List.mem_of_getElem? h; List.mem_append_right _ (List.mem_append_right _ (List.mem_append_right _ (List.mem_append_right _ (List.mem_append_left _ h))))), rfl⟩), rfl⟩
theorem mV_6 {y : MethodName} {n : Nat} (i : Nat) (h : lw_privs_6[i]? = some (y, n)) : Cond.selects y.cls y y ∈ UW := List.mem_filter.mpr ⟨List.mem_append_left _ (List.mem_map.mpr ⟨(y, n), (have h := List.mem_of_getElem? h; List.mem_append_right _ (List.mem_append_right _ (List.mem_append_right _ (List.mem_append_right _ (List.mem_append_right _ (List.mem_append_left _ h)))))), rfl⟩), rfl⟩
theorem mV_7 {y : MethodName} {n : Nat} (i : Nat) (h : lw_privs_7[i]? = some (y, n)) : Cond.selects y.cls y y ∈ UW := List.mem_filter.mpr ⟨List.mem_append_left _ (List.mem_map.mpr ⟨(y, n), (have h := List.mem_of_getElem? h; List.mem_append_right _ (List.mem_append_right _ (List.mem_append_right _ (List.mem_append_right _ (List.mem_append_right _ (List.mem_append_right _ (List.mem_append_left _ h))))))), rfl⟩), rfl⟩
theorem mV_8 {y : MethodName} {n : Nat} (i : Nat) (h : lw_privs_8[i]? = some (y, n)) : Cond.selects y.cls y y ∈ UW := List.mem_filter.mpr ⟨List.mem_append_left _ (List.mem_map.mpr ⟨(y, n), (have h := List.mem_of_getElem? h; List.mem_append_right _ (List.mem_append_right _ (List.mem_append_right _ (List.mem_append_right _ (List.mem_append_right _ (List.mem_append_right _ (List.mem_append_right _ (List.mem_append_left _ h)))))))), rfl⟩), rfl⟩
theorem mV_9 {y : MethodName} {n : Nat} (i : Nat) (h : lw_privs_9[i]? = some (y, n)) : Cond.selects y.cls y y ∈ UW := List.mem_filter.mpr ⟨List.mem_append_left _ (List.mem_map.mpr ⟨(y, n), (have h := List.mem_of_getElem? h; List.mem_append_right _ (List.mem_append_right _ (List.mem_append_right _ (List.mem_append_right _ (List.mem_append_right _ (List.mem_append_right _ (List.mem_append_right _ (List.mem_append_right _ (List.mem_append_left _ h))))))))), rfl⟩), rfl⟩
theorem mV_10 {y : MethodName} {n : Nat} (i : Nat) (h : lw_privs_10[i]? = some (y, n)) : Cond.selects y.cls y y ∈ UW := List.mem_filter.mpr ⟨List.mem_append_left _ (List.mem_map.mpr ⟨(y, n), (have h := List.mem_of_getElem? h; List.mem_append_right _ (List.mem_append_right _ (List.mem_append_right _ (List.mem_append_right _ (List.mem_append_right _ (List.mem_append_right _ (List.mem_append_right _ (List.mem_append_right _ (List.mem_append_right _ (h)))))))))), rfl⟩), rfl⟩
theorem gt_0 : gT 0 = some (0, 10, 0) := rfl
theorem gt_1 : gT 1 = some (0, 4, 0) := rfl
theorem gt_2 : gT 2 = some (1, 500, 0) := rfl
theorem gt_3 : gT 3 = some (0, 0, 0) := rfl
theorem gt_4 : gT 4 = some (0, 2, 0) := rfl
theorem gt_5 : gT 5 = some (1, 12, 0) := rfl
theorem gt_6 : gT 6 = some (1, 12, 0) := rfl
theorem gt_7 : gT 7 = some (2, 12, 0) := rfl
theorem gt_8 : gT 8 = some (1, 12, 0) := rfl
theorem gt_9 : gT 9 = some (0, 2, 0) := rfl
theorem gt_10 : gT 10 = some (1, 6, 0) := rfl
theorem gt_11 : gT 11 = some (1, 6, 0) := rfl
theorem gt_12 : gT 12 = some (2, 6, 0) := rfl
theorem gt_13 : gT 13 = some (1, 6, 0) := rfl
theorem gt_14 : gT 14 = some (1, 120, 0) := rfl
theorem gt_15 : gT 15 = some (1, 3, 0) := rfl
theorem gt_16 : gT 16 = some (0, 3, 0) := rfl
theorem gt_17 : gT 17 = some (1, 120, 0) := rfl
theorem gt_18 : gT 18 = some (1, 20, 0) := rfl
theorem gt_19 : gT 19 = some (1, 20, 0) := rfl
theorem gt_20 : gT 20 = some (3, 20, 0) := rfl
theorem gt_21 : gT 21 = some (1, 20, 0) := rfl
theorem gt_22 : gT 22 = some (1, 20, 0) := rfl
theorem gt_23 : gT 23 = some (1, 20, 0) := rfl
theorem gt_24 : gT 24 = some (3, 20, 0) := rfl
theorem gt_25 : gT 25 = some (1, 8, 0) := rfl
theorem gt_26 : gT 26 = some (1, 8, 0) := rfl
theorem gt_27 : gT 27 = some (0, 1, 0) := rfl
theorem gt_28 : gT 28 = some (1, 24, 0) := rfl
theorem gt_29 : gT 29 = some (0, 0, 0) := rfl
theorem gt_30 : gT 30 = some (0, 2, 0) := rfl
theorem gt_31 : gT 31 = some (1, 12, 0) := rfl
theorem gt_32 : gT 32 = some (1, 12, 0) := rfl
theorem gt_33 : gT 33 = some (2, 12, 0) := rfl
theorem gt_34 : gT 34 = some (1, 12, 0) := rfl
theorem gt_35 : gT 35 = some (0, 2, 0) := rfl
theorem gt_36 : gT 36 = some (1, 6, 0) := rfl
theorem gt_37 : gT 37 = some (1, 6, 0) := rfl
theorem gt_38 : gT 38 = some (2, 6, 0) := rfl
theorem gt_39 : gT 39 = some (1, 6, 0) := rfl
theorem gt_40 : gT 40 = some (1, 120, 0) := rfl
theorem gt_41 : gT 41 = some (1, 3, 0) := rfl
theorem gt_42 : gT 42 = some (4, 3, 0) := rfl
theorem gt_43 : gT 43 = some (0, 3, 0) := rfl
theorem gt_44 : gT 44 = some (1, 120, 0) := rfl
theorem gt_45 : gT 45 = some (1, 20, 0) := rfl
theorem gt_46 : gT 46 = some (1, 20, 0) := rfl
theorem gt_47 : gT 47 = some (3, 20, 0) := rfl
theorem gt_48 : gT 48 = some (1, 20, 0) := rfl
theorem gt_49 : gT 49 = some (1, 20, 0) := rfl
theorem gt_50 : gT 50 = some (1, 20, 0) := rfl
theorem gt_51 : gT 51 = some (3, 20, 0) := rfl
theorem gt_52 : gT 52 = some (1, 8, 0) := rfl
theorem gt_53 : gT 53 = some (1, 8, 0) := rfl
theorem gt_54 : gT 54 = some (0, 3, 0) := rfl
theorem gt_55 : gT 55 = some (1, 120, 0) := rfl
theorem gt_56 : gT 56 = some (1, 20, 0) := rfl
theorem gt_57 : gT 57 = some (1, 20, 0) := rfl
theorem gt_58 : gT 58 = some (3, 20, 0) := rfl
theorem gt_59 : gT 59 = some (1, 20, 0) := rfl
theorem gt_60 : gT 60 = some (1, 20, 0) := rfl
theorem gt_61 : gT 61 = some (1, 20, 0) := rfl
theorem gt_62 : gT 62 = some (3, 20, 0) := rfl
theorem gt_63 : gT 63 = some (1, 8, 0) := rfl
theorem gt_64 : gT 64 = some (1, 8, 0) := rfl
theorem gt_65 : gT 65 = some (0, 3, 0) := rfl
theorem gt_66 : gT 66 = some (1, 120, 0) := rfl
theorem gt_67 : gT 67 = some (1, 20, 0) := rfl
theorem gt_68 : gT 68 = some (1, 20, 0) := rfl
theorem gt_69 : gT 69 = some (3, 20, 0) := rfl
theorem gt_70 : gT 70 = some (1, 20, 0) := rfl
theorem gt_71 : gT 71 = some (1, 20, 0) := rfl
theorem gt_72 : gT 72 = some (1, 20, 0) := rfl
theorem gt_73 : gT 73 = some (3, 20, 0) := rfl
theorem gt_74 : gT 74 = some (1, 8, 0) := rfl
theorem gt_75 : gT 75 = some (1, 8, 0) := rfl
theorem gt_76 : gT 76 = some (0, 7, 0) := rfl
theorem gt_77 : gT 77 = some (1, 100, 0) := rfl
theorem gt_78 : gT 78 = some (1, 100, 0) := rfl
theorem gt_79 : gT 79 = some (1, 100, 0) := rfl
theorem gt_80 : gT 80 = some (2, 100, 0) := rfl
theorem gt_81 : gT 81 = some (2, 100, 0) := rfl
theorem gt_82 : gT 82 = some (0, 7, 0) := rfl
theorem gt_83 : gT 83 = some (1, 100, 0) := rfl
theorem gt_84 : gT 84 = some (1, 100, 0) := rfl
theorem gt_85 : gT 85 = some (1, 100, 0) := rfl
theorem gt_86 : gT 86 = some (2, 100, 0) := rfl
theorem gt_87 : gT 87 = some (2, 100, 0) := rfl
theorem gt_88 : gT 88 = some (0, 8, 0) := rfl
theorem gt_89 : gT 89 = some (0, 9, 0) := rfl
theorem gt_90 : gT 90 = some (1, 256, 0) := rfl
theorem gt_91 : gT 91 = some (1, 256, 0) := rfl
theorem gt_92 : gT 92 = some (1, 60, 0) := rfl
theorem gt_93 : gT 93 = some (0, 5, 0) := rfl
theorem gt_94 : gT 94 = some (1, 12, 0) := rfl
theorem gt_95 : gT 95 = some (0, 6, 0) := rfl
theorem gt_96 : gT 96 = some (1, 6, 0) := rfl
theorem gt_97 : gT 97 = some (1, 6, 0) := rfl
theorem gt_98 : gT 98 = some (1, 6, 0) := rfl
theorem gt_99 : gT 99 = some (0, 11, 0) := rfl
theorem gt_100 : gT 100 = some (1, 500, 0) := rfl
theorem gt_101 : gT 101 = some (1, 3, 0) := rfl
theorem gt_102 : gT 102 = some (1, 6, 0) := rfl
theorem gt_103 : gT 103 = some (1, 6, 0) := rfl
theorem gt_104 : gT 104 = some (1, 3, 0) := rfl
theorem gt_105 : gT 105 = some (1, 3, 0) := rfl
theorem gt_106 : gT 106 = some (1, 12, 0) := rfl
theorem gt_107 : gT 107 = some (1, 12, 0) := rfl
theorem gt_108 : gT 108 = some (1, 12, 0) := rfl
theorem gt_109 : gT 109 = some (1, 12, 0) := rfl
theorem gt_110 : gT 110 = some (1, 6, 0) := rfl
theorem gt_111 : gT 111 = some (1, 6, 0) := rfl
theorem gt_112 : gT 112 = some (1, 6, 0) := rfl
theorem gt_113 : gT 113 = some (1, 6, 0) := rfl
theorem gt_114 : gT 114 = some (5, 10, 12) := rfl
theorem gt_115 : gT 115 = some (5, 10, 12) := rfl
theorem gt_116 : gT 116 = some (5, 220, 3) := rfl
theorem gt_117 : gT 117 = some (5, 220, 3) := rfl
theorem gt_118 : gT 118 = some (3, 220, 0) := rfl
theorem gt_119 : gT 119 = some (5, 20, 3) := rfl
theorem gt_120 : gT 120 = some (5, 20, 4) := rfl
theorem gt_121 : gT 121 = some (5, 8, 2) := rfl
theorem gt_122 : gT 122 = some (5, 3, 279) := rfl
theorem gt_123 : gT 123 = some (1, 24, 0) := rfl
theorem gt_124 : gT 124 = some (1, 6, 0) := rfl
theorem gt_125 : gT 125 = some (1, 6, 0) := rfl
theorem gt_126 : gT 126 = some (1, 12, 0) := rfl
theorem gt_127 : gT 127 = some (1, 256, 0) := rfl
theorem gt_128 : gT 128 = some (1, 256, 0) := rfl
theorem gt_129 : gT 129 = some (2, 1, 0) := rfl
theorem cn_m1 : Int32.ofInt (-1) = (-1) := by decide
theorem cn_0 : Int32.ofInt 0 = 0 := by decide
theorem cn_1 : Int32.ofInt 1 = 1 := by decide
theorem cn_2 : Int32.ofInt 2 = 2 := by decide
theorem cn_3 : Int32.ofInt 3 = 3 := by decide
theorem cn_4 : Int32.ofInt 4 = 4 := by decide
theorem cn_5 : Int32.ofInt 5 = 5 := by decide
theorem cb_6 : (Int8.ofInt 6).toInt32 = 6 := by decide
theorem cb_7 : (Int8.ofInt 7).toInt32 = 7 := by decide
theorem cb_8 : (Int8.ofInt 8).toInt32 = 8 := by decide
theorem cb_9 : (Int8.ofInt 9).toInt32 = 9 := by decide
theorem cb_10 : (Int8.ofInt 10).toInt32 = 10 := by decide
theorem cb_12 : (Int8.ofInt 12).toInt32 = 12 := by decide
theorem cb_13 : (Int8.ofInt 13).toInt32 = 13 := by decide
theorem cb_14 : (Int8.ofInt 14).toInt32 = 14 := by decide
theorem cb_15 : (Int8.ofInt 15).toInt32 = 15 := by decide
theorem cb_16 : (Int8.ofInt 16).toInt32 = 16 := by decide
theorem cb_18 : (Int8.ofInt 18).toInt32 = 18 := by decide
theorem cb_19 : (Int8.ofInt 19).toInt32 = 19 := by decide
theorem cb_20 : (Int8.ofInt 20).toInt32 = 20 := by decide
theorem cb_21 : (Int8.ofInt 21).toInt32 = 21 := by decide
theorem cb_23 : (Int8.ofInt 23).toInt32 = 23 := by decide
theorem cb_24 : (Int8.ofInt 24).toInt32 = 24 := by decide
theorem cb_25 : (Int8.ofInt 25).toInt32 = 25 := by decide
theorem cb_27 : (Int8.ofInt 27).toInt32 = 27 := by decide
theorem cb_32 : (Int8.ofInt 32).toInt32 = 32 := by decide
theorem cb_48 : (Int8.ofInt 48).toInt32 = 48 := by decide
theorem cb_57 : (Int8.ofInt 57).toInt32 = 57 := by decide
theorem cb_59 : (Int8.ofInt 59).toInt32 = 59 := by decide
theorem cb_60 : (Int8.ofInt 60).toInt32 = 60 := by decide
theorem cb_63 : (Int8.ofInt 63).toInt32 = 63 := by decide
theorem cb_64 : (Int8.ofInt 64).toInt32 = 64 := by decide
theorem cb_91 : (Int8.ofInt 91).toInt32 = 91 := by decide
theorem cb_93 : (Int8.ofInt 93).toInt32 = 93 := by decide
theorem cb_97 : (Int8.ofInt 97).toInt32 = 97 := by decide
theorem cb_99 : (Int8.ofInt 99).toInt32 = 99 := by decide
theorem cb_100 : (Int8.ofInt 100).toInt32 = 100 := by decide
theorem cb_122 : (Int8.ofInt 122).toInt32 = 122 := by decide
theorem cb_127 : (Int8.ofInt 127).toInt32 = 127 := by decide
theorem cs_200 : (Int16.ofInt 200).toInt32 = 200 := by decide
theorem cs_255 : (Int16.ofInt 255).toInt32 = 255 := by decide
theorem cs_256 : (Int16.ofInt 256).toInt32 = 256 := by decide
theorem cs_500 : (Int16.ofInt 500).toInt32 = 500 := by decide
theorem cs_999 : (Int16.ofInt 999).toInt32 = 999 := by decide
theorem cl_0 : Int64.ofNat ((0 : Fin 2) : Nat) = 0 := by decide
theorem cl_1 : Int64.ofNat ((1 : Fin 2) : Nat) = 1 := by decide
theorem ci_m8 (x : Int32) : x + Int32.ofInt (-8) = x + (-8) := by rw [show Int32.ofInt (-8) = (-8) from by decide]
theorem ci_m1 (x : Int32) : x + Int32.ofInt (-1) = x + (-1) := by rw [show Int32.ofInt (-1) = (-1) from by decide]
theorem ci_1 (x : Int32) : x + Int32.ofInt 1 = x + 1 := by rw [show Int32.ofInt 1 = 1 from by decide]
theorem ci_64 (x : Int32) : x + Int32.ofInt 64 = x + 64 := by rw [show Int32.ofInt 64 = 64 from by decide]
theorem al_3 : Int32.ofNat 3 = 3 := by decide
theorem al_6 : Int32.ofNat 6 = 6 := by decide
theorem al_12 : Int32.ofNat 12 = 12 := by decide
theorem al_24 : Int32.ofNat 24 = 24 := by decide
theorem al_60 : Int32.ofNat 60 = 60 := by decide
theorem al_120 : Int32.ofNat 120 = 120 := by decide
theorem cls_0 : clsOK 0 RX0 TX0 8 tyX0 := ⟨rfl, rfl, fun w hw => by
  obtain ⟨k, hk, e⟩ := List.mem_map.mp hw
  have hk := List.mem_range.mp hk
  subst e
  match k, hk with
  | 0, _ => exact (mU_1 142 rfl rfl)
  | 1, _ => exact (mU_1 144 rfl rfl)
  | 2, _ => exact (mU_1 146 rfl rfl)
  | 3, _ => exact (mU_1 148 rfl rfl)
  | 4, _ => exact (mU_1 150 rfl rfl)
  | 5, _ => exact (mU_1 152 rfl rfl)
  | 6, _ => exact (mU_1 154 rfl rfl)
  | 7, _ => exact (mU_1 156 rfl rfl)
  | k + 8, hk => exact absurd hk (by omega), tyX0_ok, nmX0⟩
theorem cls_1 : clsOK 1 RX1 TX1 8 tyX1 := ⟨rfl, rfl, fun w hw => by
  obtain ⟨k, hk, e⟩ := List.mem_map.mp hw
  have hk := List.mem_range.mp hk
  subst e
  match k, hk with
  | 0, _ => exact (mU_1 234 rfl rfl)
  | 1, _ => exact (mU_1 236 rfl rfl)
  | 2, _ => exact (mU_1 238 rfl rfl)
  | 3, _ => exact (mU_2 0 rfl rfl)
  | 4, _ => exact (mU_2 2 rfl rfl)
  | 5, _ => exact (mU_2 4 rfl rfl)
  | 6, _ => exact (mU_2 6 rfl rfl)
  | 7, _ => exact (mU_2 8 rfl rfl)
  | k + 8, hk => exact absurd hk (by omega), tyX1_ok, nmX1⟩
theorem cls_2 : clsOK 2 RX2 TX2 9 tyX2 := ⟨rfl, rfl, fun w hw => by
  obtain ⟨k, hk, e⟩ := List.mem_map.mp hw
  have hk := List.mem_range.mp hk
  subst e
  match k, hk with
  | 0, _ => exact (mU_1 97 rfl rfl)
  | 1, _ => exact (mU_1 99 rfl rfl)
  | 2, _ => exact (mU_1 101 rfl rfl)
  | 3, _ => exact (mU_1 103 rfl rfl)
  | 4, _ => exact (mU_1 105 rfl rfl)
  | 5, _ => exact (mU_1 107 rfl rfl)
  | 6, _ => exact (mU_1 109 rfl rfl)
  | 7, _ => exact (mU_1 111 rfl rfl)
  | 8, _ => exact (mU_1 113 rfl rfl)
  | k + 9, hk => exact absurd hk (by omega), tyX2_ok, nmX2⟩
theorem cls_3 : clsOK 3 RX3 TX3 13 tyX3 := ⟨rfl, rfl, fun w hw => by
  obtain ⟨k, hk, e⟩ := List.mem_map.mp hw
  have hk := List.mem_range.mp hk
  subst e
  match k, hk with
  | 0, _ => exact (mU_1 192 rfl rfl)
  | 1, _ => exact (mU_1 194 rfl rfl)
  | 2, _ => exact (mU_1 196 rfl rfl)
  | 3, _ => exact (mU_1 198 rfl rfl)
  | 4, _ => exact (mU_1 200 rfl rfl)
  | 5, _ => exact (mU_1 202 rfl rfl)
  | 6, _ => exact (mU_1 204 rfl rfl)
  | 7, _ => exact (mU_1 206 rfl rfl)
  | 8, _ => exact (mU_1 208 rfl rfl)
  | 9, _ => exact (mU_1 210 rfl rfl)
  | 10, _ => exact (mU_1 212 rfl rfl)
  | 11, _ => exact (mU_1 214 rfl rfl)
  | 12, _ => exact (mU_1 216 rfl rfl)
  | k + 13, hk => exact absurd hk (by omega), tyX3_ok, nmX3⟩
theorem cls_4 : clsOK 4 RX4 TX4 7 tyX4 := ⟨rfl, rfl, fun w hw => by
  obtain ⟨k, hk, e⟩ := List.mem_map.mp hw
  have hk := List.mem_range.mp hk
  subst e
  match k, hk with
  | 0, _ => exact (mU_1 53 rfl rfl)
  | 1, _ => exact (mU_1 55 rfl rfl)
  | 2, _ => exact (mU_1 57 rfl rfl)
  | 3, _ => exact (mU_1 59 rfl rfl)
  | 4, _ => exact (mU_1 61 rfl rfl)
  | 5, _ => exact (mU_1 63 rfl rfl)
  | 6, _ => exact (mU_1 65 rfl rfl)
  | k + 7, hk => exact absurd hk (by omega), tyX4_ok, nmX4⟩
theorem cls_5 : clsOK 5 RX5 TX5 6 tyX5 := ⟨rfl, rfl, fun w hw => by
  obtain ⟨k, hk, e⟩ := List.mem_map.mp hw
  have hk := List.mem_range.mp hk
  subst e
  match k, hk with
  | 0, _ => exact (mU_2 100 rfl rfl)
  | 1, _ => exact (mU_2 102 rfl rfl)
  | 2, _ => exact (mU_2 104 rfl rfl)
  | 3, _ => exact (mU_2 106 rfl rfl)
  | 4, _ => exact (mU_2 108 rfl rfl)
  | 5, _ => exact (mU_2 110 rfl rfl)
  | k + 6, hk => exact absurd hk (by omega), tyX5_ok, nmX5⟩
theorem cls_6 : clsOK 6 RX6 TX6 4 tyX6 := ⟨rfl, rfl, fun w hw => by
  obtain ⟨k, hk, e⟩ := List.mem_map.mp hw
  have hk := List.mem_range.mp hk
  subst e
  match k, hk with
  | 0, _ => exact (mU_2 123 rfl rfl)
  | 1, _ => exact (mU_2 125 rfl rfl)
  | 2, _ => exact (mU_2 127 rfl rfl)
  | 3, _ => exact (mU_2 129 rfl rfl)
  | k + 4, hk => exact absurd hk (by omega), tyX6_ok, nmX6⟩
theorem cls_7 : clsOK 7 RX7 TX7 10 tyX7 := ⟨rfl, rfl, fun w hw => by
  obtain ⟨k, hk, e⟩ := List.mem_map.mp hw
  have hk := List.mem_range.mp hk
  subst e
  match k, hk with
  | 0, _ => exact (mU_2 29 rfl rfl)
  | 1, _ => exact (mU_2 31 rfl rfl)
  | 2, _ => exact (mU_2 33 rfl rfl)
  | 3, _ => exact (mU_2 35 rfl rfl)
  | 4, _ => exact (mU_2 37 rfl rfl)
  | 5, _ => exact (mU_2 39 rfl rfl)
  | 6, _ => exact (mU_2 41 rfl rfl)
  | 7, _ => exact (mU_2 43 rfl rfl)
  | 8, _ => exact (mU_2 45 rfl rfl)
  | 9, _ => exact (mU_2 47 rfl rfl)
  | k + 10, hk => exact absurd hk (by omega), tyX7_ok, nmX7⟩
theorem cls_8 : clsOK 8 RX8 TX8 2 tyX8 := ⟨rfl, rfl, fun w hw => by
  obtain ⟨k, hk, e⟩ := List.mem_map.mp hw
  have hk := List.mem_range.mp hk
  subst e
  match k, hk with
  | 0, _ => exact (mU_2 58 rfl rfl)
  | 1, _ => exact (mU_2 60 rfl rfl)
  | k + 2, hk => exact absurd hk (by omega), tyX8_ok, nmX8⟩
theorem cls_9 : clsOK 9 RX9 TX9 5 tyX9 := ⟨rfl, rfl, fun w hw => by
  obtain ⟨k, hk, e⟩ := List.mem_map.mp hw
  have hk := List.mem_range.mp hk
  subst e
  match k, hk with
  | 0, _ => exact (mU_2 74 rfl rfl)
  | 1, _ => exact (mU_2 76 rfl rfl)
  | 2, _ => exact (mU_2 78 rfl rfl)
  | 3, _ => exact (mU_2 80 rfl rfl)
  | 4, _ => exact (mU_2 82 rfl rfl)
  | k + 5, hk => exact absurd hk (by omega), tyX9_ok, nmX9⟩
theorem cls_10 : clsOK 10 RX10 TX10 17 tyX10 := ⟨rfl, rfl, fun w hw => by
  obtain ⟨k, hk, e⟩ := List.mem_map.mp hw
  have hk := List.mem_range.mp hk
  subst e
  match k, hk with
  | 0, _ => exact (mU_2 149 rfl rfl)
  | 1, _ => exact (mU_2 151 rfl rfl)
  | 2, _ => exact (mU_2 153 rfl rfl)
  | 3, _ => exact (mU_2 155 rfl rfl)
  | 4, _ => exact (mU_2 157 rfl rfl)
  | 5, _ => exact (mU_2 159 rfl rfl)
  | 6, _ => exact (mU_2 161 rfl rfl)
  | 7, _ => exact (mU_2 163 rfl rfl)
  | 8, _ => exact (mU_2 165 rfl rfl)
  | 9, _ => exact (mU_2 167 rfl rfl)
  | 10, _ => exact (mU_2 169 rfl rfl)
  | 11, _ => exact (mU_2 171 rfl rfl)
  | 12, _ => exact (mU_2 173 rfl rfl)
  | 13, _ => exact (mU_2 175 rfl rfl)
  | 14, _ => exact (mU_2 177 rfl rfl)
  | 15, _ => exact (mU_2 179 rfl rfl)
  | 16, _ => exact (mU_2 181 rfl rfl)
  | k + 17, hk => exact absurd hk (by omega), tyX10_ok, nmX10⟩
theorem cls_11 : clsOK 11 RX11 TX11 48 tyX11 := ⟨rfl, rfl, fun w hw => by
  obtain ⟨k, hk, e⟩ := List.mem_map.mp hw
  have hk := List.mem_range.mp hk
  subst e
  match k, hk with
  | 0, _ => exact (mU_7 65 rfl rfl)
  | 1, _ => exact (mU_7 67 rfl rfl)
  | 2, _ => exact (mU_7 69 rfl rfl)
  | 3, _ => exact (mU_7 71 rfl rfl)
  | 4, _ => exact (mU_7 73 rfl rfl)
  | 5, _ => exact (mU_7 75 rfl rfl)
  | 6, _ => exact (mU_7 77 rfl rfl)
  | 7, _ => exact (mU_7 79 rfl rfl)
  | 8, _ => exact (mU_7 81 rfl rfl)
  | 9, _ => exact (mU_7 83 rfl rfl)
  | 10, _ => exact (mU_7 85 rfl rfl)
  | 11, _ => exact (mU_7 87 rfl rfl)
  | 12, _ => exact (mU_7 89 rfl rfl)
  | 13, _ => exact (mU_7 91 rfl rfl)
  | 14, _ => exact (mU_7 93 rfl rfl)
  | 15, _ => exact (mU_7 95 rfl rfl)
  | 16, _ => exact (mU_7 97 rfl rfl)
  | 17, _ => exact (mU_7 99 rfl rfl)
  | 18, _ => exact (mU_7 101 rfl rfl)
  | 19, _ => exact (mU_7 103 rfl rfl)
  | 20, _ => exact (mU_7 105 rfl rfl)
  | 21, _ => exact (mU_7 107 rfl rfl)
  | 22, _ => exact (mU_7 109 rfl rfl)
  | 23, _ => exact (mU_7 111 rfl rfl)
  | 24, _ => exact (mU_7 113 rfl rfl)
  | 25, _ => exact (mU_7 115 rfl rfl)
  | 26, _ => exact (mU_7 117 rfl rfl)
  | 27, _ => exact (mU_7 119 rfl rfl)
  | 28, _ => exact (mU_7 121 rfl rfl)
  | 29, _ => exact (mU_7 123 rfl rfl)
  | 30, _ => exact (mU_7 125 rfl rfl)
  | 31, _ => exact (mU_7 127 rfl rfl)
  | 32, _ => exact (mU_7 129 rfl rfl)
  | 33, _ => exact (mU_7 131 rfl rfl)
  | 34, _ => exact (mU_7 133 rfl rfl)
  | 35, _ => exact (mU_7 135 rfl rfl)
  | 36, _ => exact (mU_7 137 rfl rfl)
  | 37, _ => exact (mU_7 139 rfl rfl)
  | 38, _ => exact (mU_7 141 rfl rfl)
  | 39, _ => exact (mU_7 143 rfl rfl)
  | 40, _ => exact (mU_7 145 rfl rfl)
  | 41, _ => exact (mU_7 147 rfl rfl)
  | 42, _ => exact (mU_7 149 rfl rfl)
  | 43, _ => exact (mU_7 151 rfl rfl)
  | 44, _ => exact (mU_7 153 rfl rfl)
  | 45, _ => exact (mU_7 155 rfl rfl)
  | 46, _ => exact (mU_7 157 rfl rfl)
  | 47, _ => exact (mU_7 159 rfl rfl)
  | k + 48, hk => exact absurd hk (by omega), tyX11_ok, nmX11⟩
theorem fk_X10_21 : FOK RX10 21 10 0 (tyX10 0) true := ⟨RX10, TX10, 17, tyX10, cls_10, by decide, rfl, rfl, Or.inl (mU_2 132 rfl rfl)⟩
theorem fk_X10_27 : FOK RX10 27 10 1 (tyX10 1) true := ⟨RX10, TX10, 17, tyX10, cls_10, by decide, rfl, rfl, Or.inl (mU_2 133 rfl rfl)⟩
theorem fk_X10_31 : FOK RX10 31 10 2 (tyX10 2) true := ⟨RX10, TX10, 17, tyX10, cls_10, by decide, rfl, rfl, Or.inl (mU_2 134 rfl rfl)⟩
theorem fk_X10_34 : FOK RX10 34 10 3 (tyX10 3) true := ⟨RX10, TX10, 17, tyX10, cls_10, by decide, rfl, rfl, Or.inl (mU_2 135 rfl rfl)⟩
theorem fk_X10_38 : FOK RX10 38 10 4 (tyX10 4) true := ⟨RX10, TX10, 17, tyX10, cls_10, by decide, rfl, rfl, Or.inl (mU_2 136 rfl rfl)⟩
theorem fk_X10_47 : FOK RX10 47 10 6 (tyX10 6) true := ⟨RX10, TX10, 17, tyX10, cls_10, by decide, rfl, rfl, Or.inl (mU_2 138 rfl rfl)⟩
theorem fk_X10_51 : FOK RX10 51 10 7 (tyX10 7) true := ⟨RX10, TX10, 17, tyX10, cls_10, by decide, rfl, rfl, Or.inl (mU_2 139 rfl rfl)⟩
theorem fk_X10_59 : FOK RX10 59 10 8 (tyX10 8) true := ⟨RX10, TX10, 17, tyX10, cls_10, by decide, rfl, rfl, Or.inl (mU_2 140 rfl rfl)⟩
theorem fk_X10_63 : FOK RX10 63 10 9 (tyX10 9) true := ⟨RX10, TX10, 17, tyX10, cls_10, by decide, rfl, rfl, Or.inl (mU_2 141 rfl rfl)⟩
theorem fk_X10_72 : FOK RX10 72 10 10 (tyX10 10) true := ⟨RX10, TX10, 17, tyX10, cls_10, by decide, rfl, rfl, Or.inl (mU_2 142 rfl rfl)⟩
theorem fk_X10_79 : FOK RX10 79 10 11 (tyX10 11) true := ⟨RX10, TX10, 17, tyX10, cls_10, by decide, rfl, rfl, Or.inl (mU_2 143 rfl rfl)⟩
theorem fk_X10_86 : FOK RX10 86 10 12 (tyX10 12) true := ⟨RX10, TX10, 17, tyX10, cls_10, by decide, rfl, rfl, Or.inl (mU_2 144 rfl rfl)⟩
theorem fk_X10_90 : FOK RX10 90 10 13 (.int) false := ⟨RX10, TX10, 17, tyX10, cls_10, by decide, rfl, rfl, Or.inl (mU_2 145 rfl rfl)⟩
theorem fk_X10_94 : FOK RX10 94 4 1 (.int) false := ⟨RX4, TX4, 7, tyX4, cls_4, by decide, rfl, rfl, Or.inr ⟨"WeekWheels", mN_1 42 rfl rfl⟩⟩
theorem fk_X10_125 : FOK RX10 125 10 5 (.int) false := ⟨RX10, TX10, 17, tyX10, cls_10, by decide, rfl, rfl, Or.inl (mU_2 137 rfl rfl)⟩
theorem fk_X10_128 : FOK RX10 128 0 0 (tyX0 0) true := ⟨RX0, TX0, 8, tyX0, cls_0, by decide, rfl, rfl, Or.inr ⟨"WeekWheels", mN_1 120 rfl rfl⟩⟩
theorem fk_X10_132 : FOK RX10 132 2 4 (.int) false := ⟨RX2, TX2, 9, tyX2, cls_2, by decide, rfl, rfl, Or.inr ⟨"WeekWheels", mN_1 89 rfl rfl⟩⟩
theorem fk_X10_140 : FOK RX10 140 0 1 (tyX0 1) true := ⟨RX0, TX0, 8, tyX0, cls_0, by decide, rfl, rfl, Or.inr ⟨"WeekWheels", mN_1 125 rfl rfl⟩⟩
theorem fk_X10_143 : FOK RX10 143 0 4 (.int) false := ⟨RX0, TX0, 8, tyX0, cls_0, by decide, rfl, rfl, Or.inr ⟨"WeekWheels", mN_1 132 rfl rfl⟩⟩
theorem fk_X10_146 : FOK RX10 146 0 5 (.int) false := ⟨RX0, TX0, 8, tyX0, cls_0, by decide, rfl, rfl, Or.inr ⟨"WeekWheels", mN_1 135 rfl rfl⟩⟩
theorem fk_X10_149 : FOK RX10 149 0 6 (.int) false := ⟨RX0, TX0, 8, tyX0, cls_0, by decide, rfl, rfl, Or.inr ⟨"WeekWheels", mN_1 138 rfl rfl⟩⟩
theorem fk_X10_152 : FOK RX10 152 0 7 (.int) false := ⟨RX0, TX0, 8, tyX0, cls_0, by decide, rfl, rfl, Or.inr ⟨"WeekWheels", mN_1 141 rfl rfl⟩⟩
theorem fk_X10_271 : FOK RX10 271 5 3 (.int) false := ⟨RX5, TX5, 6, tyX5, cls_5, by decide, rfl, rfl, Or.inr ⟨"WeekWheels", mN_2 95 rfl rfl⟩⟩
theorem fk_X10_274 : FOK RX10 274 5 4 (.int) false := ⟨RX5, TX5, 6, tyX5, cls_5, by decide, rfl, rfl, Or.inr ⟨"WeekWheels", mN_2 97 rfl rfl⟩⟩
theorem fk_X10_277 : FOK RX10 277 5 5 (.int) false := ⟨RX5, TX5, 6, tyX5, cls_5, by decide, rfl, rfl, Or.inr ⟨"WeekWheels", mN_2 99 rfl rfl⟩⟩
theorem fk_X10_301 : FOK RX10 301 3 4 (.int) false := ⟨RX3, TX3, 13, tyX3, cls_3, by decide, rfl, rfl, Or.inr ⟨"WeekWheels", mN_1 174 rfl rfl⟩⟩
theorem fk_X10_304 : FOK RX10 304 3 9 (.int) false := ⟨RX3, TX3, 13, tyX3, cls_3, by decide, rfl, rfl, Or.inr ⟨"WeekWheels", mN_1 184 rfl rfl⟩⟩
theorem fk_X10_333 : FOK RX10 333 3 12 (.int) false := ⟨RX3, TX3, 13, tyX3, cls_3, by decide, rfl, rfl, Or.inr ⟨"WeekWheels", mN_1 191 rfl rfl⟩⟩
theorem fk_X10_355 : FOK RX10 355 10 14 (.int) false := ⟨RX10, TX10, 17, tyX10, cls_10, by decide, rfl, rfl, Or.inl (mU_2 146 rfl rfl)⟩
theorem fk_X10_358 : FOK RX10 358 10 15 (.int) false := ⟨RX10, TX10, 17, tyX10, cls_10, by decide, rfl, rfl, Or.inl (mU_2 147 rfl rfl)⟩
theorem fk_X10_361 : FOK RX10 361 10 16 (.int) false := ⟨RX10, TX10, 17, tyX10, cls_10, by decide, rfl, rfl, Or.inl (mU_2 148 rfl rfl)⟩
theorem fk_X10_384 : FOK RX10 384 4 6 (.int) false := ⟨RX4, TX4, 7, tyX4, cls_4, by decide, rfl, rfl, Or.inr ⟨"WeekWheels", mN_1 52 rfl rfl⟩⟩
theorem fk_X10_385 : FOK RX10 385 4 5 (.int) false := ⟨RX4, TX4, 7, tyX4, cls_4, by decide, rfl, rfl, Or.inr ⟨"WeekWheels", mN_1 50 rfl rfl⟩⟩
theorem fk_X10_391 : FOK RX10 391 3 5 (tyX3 5) true := ⟨RX3, TX3, 13, tyX3, cls_3, by decide, rfl, rfl, Or.inr ⟨"WeekWheels", mN_1 176 rfl rfl⟩⟩
theorem fk_X10_395 : FOK RX10 395 3 6 (tyX3 6) true := ⟨RX3, TX3, 13, tyX3, cls_3, by decide, rfl, rfl, Or.inr ⟨"WeekWheels", mN_1 178 rfl rfl⟩⟩
theorem fk_X10_398 : FOK RX10 398 3 7 (tyX3 7) true := ⟨RX3, TX3, 13, tyX3, cls_3, by decide, rfl, rfl, Or.inr ⟨"WeekWheels", mN_1 180 rfl rfl⟩⟩
theorem fk_X10_401 : FOK RX10 401 3 8 (tyX3 8) true := ⟨RX3, TX3, 13, tyX3, cls_3, by decide, rfl, rfl, Or.inr ⟨"WeekWheels", mN_1 182 rfl rfl⟩⟩
theorem fk_X0_14 : FOK RX0 14 0 0 (tyX0 0) true := ⟨RX0, TX0, 8, tyX0, cls_0, by decide, rfl, rfl, Or.inl (mU_1 117 rfl rfl)⟩
theorem fk_X0_20 : FOK RX0 20 0 1 (tyX0 1) true := ⟨RX0, TX0, 8, tyX0, cls_0, by decide, rfl, rfl, Or.inl (mU_1 123 rfl rfl)⟩
theorem fk_X0_23 : FOK RX0 23 0 2 (tyX0 2) true := ⟨RX0, TX0, 8, tyX0, cls_0, by decide, rfl, rfl, Or.inl (mU_1 128 rfl rfl)⟩
theorem fk_X0_27 : FOK RX0 27 0 3 (tyX0 3) true := ⟨RX0, TX0, 8, tyX0, cls_0, by decide, rfl, rfl, Or.inl (mU_1 130 rfl rfl)⟩
theorem fk_X0_30 : FOK RX0 30 0 6 (.int) false := ⟨RX0, TX0, 8, tyX0, cls_0, by decide, rfl, rfl, Or.inl (mU_1 136 rfl rfl)⟩
theorem fk_X0_34 : FOK RX0 34 0 7 (.int) false := ⟨RX0, TX0, 8, tyX0, cls_0, by decide, rfl, rfl, Or.inl (mU_1 139 rfl rfl)⟩
theorem fk_X0_47 : FOK RX0 47 0 4 (.int) false := ⟨RX0, TX0, 8, tyX0, cls_0, by decide, rfl, rfl, Or.inl (mU_1 131 rfl rfl)⟩
theorem fk_X0_50 : FOK RX0 50 0 5 (.int) false := ⟨RX0, TX0, 8, tyX0, cls_0, by decide, rfl, rfl, Or.inl (mU_1 134 rfl rfl)⟩
theorem fk_X0_63 : FOK RX0 63 2 4 (.int) false := ⟨RX2, TX2, 9, tyX2, cls_2, by decide, rfl, rfl, Or.inr ⟨"WeekWheels", mN_1 91 rfl rfl⟩⟩
theorem fk_X0_87 : FOK RX0 87 4 2 (.int) false := ⟨RX4, TX4, 7, tyX4, cls_4, by decide, rfl, rfl, Or.inr ⟨"WeekWheels", mN_1 46 rfl rfl⟩⟩
theorem fk_X1_9 : FOK RX1 9 1 1 (tyX1 1) true := ⟨RX1, TX1, 8, tyX1, cls_1, by decide, rfl, rfl, Or.inl (mU_1 227 rfl rfl)⟩
theorem fk_X1_15 : FOK RX1 15 1 4 (.int) false := ⟨RX1, TX1, 8, tyX1, cls_1, by decide, rfl, rfl, Or.inl (mU_1 230 rfl rfl)⟩
theorem fk_X1_19 : FOK RX1 19 1 0 (tyX1 0) true := ⟨RX1, TX1, 8, tyX1, cls_1, by decide, rfl, rfl, Or.inl (mU_1 226 rfl rfl)⟩
theorem fk_X1_23 : FOK RX1 23 1 2 (.int) false := ⟨RX1, TX1, 8, tyX1, cls_1, by decide, rfl, rfl, Or.inl (mU_1 228 rfl rfl)⟩
theorem fk_X1_26 : FOK RX1 26 1 3 (.int) false := ⟨RX1, TX1, 8, tyX1, cls_1, by decide, rfl, rfl, Or.inl (mU_1 229 rfl rfl)⟩
theorem fk_X1_29 : FOK RX1 29 0 1 (tyX0 1) true := ⟨RX0, TX0, 8, tyX0, cls_0, by decide, rfl, rfl, Or.inr ⟨"WeekWheels", mN_1 124 rfl rfl⟩⟩
theorem fk_X1_35 : FOK RX1 35 0 0 (tyX0 0) true := ⟨RX0, TX0, 8, tyX0, cls_0, by decide, rfl, rfl, Or.inr ⟨"WeekWheels", mN_1 118 rfl rfl⟩⟩
theorem fk_X1_84 : FOK RX1 84 1 5 (.int) false := ⟨RX1, TX1, 8, tyX1, cls_1, by decide, rfl, rfl, Or.inl (mU_1 231 rfl rfl)⟩
theorem fk_X1_87 : FOK RX1 87 1 6 (.int) false := ⟨RX1, TX1, 8, tyX1, cls_1, by decide, rfl, rfl, Or.inl (mU_1 232 rfl rfl)⟩
theorem fk_X1_90 : FOK RX1 90 1 7 (.long) false := ⟨RX1, TX1, 8, tyX1, cls_1, by decide, rfl, rfl, Or.inl (mU_1 233 rfl rfl)⟩
theorem fk_X2_15 : FOK RX2 15 2 0 (tyX2 0) true := ⟨RX2, TX2, 9, tyX2, cls_2, by decide, rfl, rfl, Or.inl (mU_1 84 rfl rfl)⟩
theorem fk_X2_21 : FOK RX2 21 2 1 (tyX2 1) true := ⟨RX2, TX2, 9, tyX2, cls_2, by decide, rfl, rfl, Or.inl (mU_1 85 rfl rfl)⟩
theorem fk_X2_24 : FOK RX2 24 2 2 (tyX2 2) true := ⟨RX2, TX2, 9, tyX2, cls_2, by decide, rfl, rfl, Or.inl (mU_1 86 rfl rfl)⟩
theorem fk_X2_28 : FOK RX2 28 2 3 (tyX2 3) true := ⟨RX2, TX2, 9, tyX2, cls_2, by decide, rfl, rfl, Or.inl (mU_1 87 rfl rfl)⟩
theorem fk_X2_31 : FOK RX2 31 2 4 (.int) false := ⟨RX2, TX2, 9, tyX2, cls_2, by decide, rfl, rfl, Or.inl (mU_1 88 rfl rfl)⟩
theorem fk_X2_86 : FOK RX2 86 2 5 (.long) false := ⟨RX2, TX2, 9, tyX2, cls_2, by decide, rfl, rfl, Or.inl (mU_1 93 rfl rfl)⟩
theorem fk_X2_90 : FOK RX2 90 2 6 (.long) false := ⟨RX2, TX2, 9, tyX2, cls_2, by decide, rfl, rfl, Or.inl (mU_1 94 rfl rfl)⟩
theorem fk_X2_93 : FOK RX2 93 2 7 (.long) false := ⟨RX2, TX2, 9, tyX2, cls_2, by decide, rfl, rfl, Or.inl (mU_1 95 rfl rfl)⟩
theorem fk_X2_96 : FOK RX2 96 2 8 (.long) false := ⟨RX2, TX2, 9, tyX2, cls_2, by decide, rfl, rfl, Or.inl (mU_1 96 rfl rfl)⟩
theorem fk_X3_9 : FOK RX3 9 3 0 (tyX3 0) true := ⟨RX3, TX3, 13, tyX3, cls_3, by decide, rfl, rfl, Or.inl (mU_1 165 rfl rfl)⟩
theorem fk_X3_15 : FOK RX3 15 3 1 (tyX3 1) true := ⟨RX3, TX3, 13, tyX3, cls_3, by decide, rfl, rfl, Or.inl (mU_1 166 rfl rfl)⟩
theorem fk_X3_18 : FOK RX3 18 3 2 (tyX3 2) true := ⟨RX3, TX3, 13, tyX3, cls_3, by decide, rfl, rfl, Or.inl (mU_1 168 rfl rfl)⟩
theorem fk_X3_21 : FOK RX3 21 3 3 (tyX3 3) true := ⟨RX3, TX3, 13, tyX3, cls_3, by decide, rfl, rfl, Or.inl (mU_1 170 rfl rfl)⟩
theorem fk_X3_25 : FOK RX3 25 3 5 (tyX3 5) true := ⟨RX3, TX3, 13, tyX3, cls_3, by decide, rfl, rfl, Or.inl (mU_1 175 rfl rfl)⟩
theorem fk_X3_28 : FOK RX3 28 3 6 (tyX3 6) true := ⟨RX3, TX3, 13, tyX3, cls_3, by decide, rfl, rfl, Or.inl (mU_1 177 rfl rfl)⟩
theorem fk_X3_31 : FOK RX3 31 3 7 (tyX3 7) true := ⟨RX3, TX3, 13, tyX3, cls_3, by decide, rfl, rfl, Or.inl (mU_1 179 rfl rfl)⟩
theorem fk_X3_34 : FOK RX3 34 3 8 (tyX3 8) true := ⟨RX3, TX3, 13, tyX3, cls_3, by decide, rfl, rfl, Or.inl (mU_1 181 rfl rfl)⟩
theorem fk_X3_37 : FOK RX3 37 3 10 (tyX3 10) true := ⟨RX3, TX3, 13, tyX3, cls_3, by decide, rfl, rfl, Or.inl (mU_1 185 rfl rfl)⟩
theorem fk_X3_40 : FOK RX3 40 3 11 (tyX3 11) true := ⟨RX3, TX3, 13, tyX3, cls_3, by decide, rfl, rfl, Or.inl (mU_1 187 rfl rfl)⟩
theorem fk_X3_43 : FOK RX3 43 0 2 (tyX0 2) true := ⟨RX0, TX0, 8, tyX0, cls_0, by decide, rfl, rfl, Or.inr ⟨"WeekWheels", mN_1 129 rfl rfl⟩⟩
theorem fk_X3_52 : FOK RX3 52 3 4 (.int) false := ⟨RX3, TX3, 13, tyX3, cls_3, by decide, rfl, rfl, Or.inl (mU_1 172 rfl rfl)⟩
theorem fk_X3_56 : FOK RX3 56 3 9 (.int) false := ⟨RX3, TX3, 13, tyX3, cls_3, by decide, rfl, rfl, Or.inl (mU_1 183 rfl rfl)⟩
theorem fk_X3_59 : FOK RX3 59 3 12 (.int) false := ⟨RX3, TX3, 13, tyX3, cls_3, by decide, rfl, rfl, Or.inl (mU_1 190 rfl rfl)⟩
theorem fk_X4_11 : FOK RX4 11 4 0 (tyX4 0) true := ⟨RX4, TX4, 7, tyX4, cls_4, by decide, rfl, rfl, Or.inl (mU_1 41 rfl rfl)⟩
theorem fk_X4_15 : FOK RX4 15 4 1 (.int) false := ⟨RX4, TX4, 7, tyX4, cls_4, by decide, rfl, rfl, Or.inl (mU_1 43 rfl rfl)⟩
theorem fk_X4_25 : FOK RX4 25 4 2 (.int) false := ⟨RX4, TX4, 7, tyX4, cls_4, by decide, rfl, rfl, Or.inl (mU_1 45 rfl rfl)⟩
theorem fk_X4_28 : FOK RX4 28 4 3 (.int) false := ⟨RX4, TX4, 7, tyX4, cls_4, by decide, rfl, rfl, Or.inl (mU_1 47 rfl rfl)⟩
theorem fk_X4_31 : FOK RX4 31 4 4 (.int) false := ⟨RX4, TX4, 7, tyX4, cls_4, by decide, rfl, rfl, Or.inl (mU_1 48 rfl rfl)⟩
theorem fk_X4_34 : FOK RX4 34 4 5 (.int) false := ⟨RX4, TX4, 7, tyX4, cls_4, by decide, rfl, rfl, Or.inl (mU_1 49 rfl rfl)⟩
theorem fk_X4_37 : FOK RX4 37 4 6 (.int) false := ⟨RX4, TX4, 7, tyX4, cls_4, by decide, rfl, rfl, Or.inl (mU_1 51 rfl rfl)⟩
theorem fk_X5_9 : FOK RX5 9 5 2 (tyX5 2) true := ⟨RX5, TX5, 6, tyX5, cls_5, by decide, rfl, rfl, Or.inl (mU_2 93 rfl rfl)⟩
theorem fk_X5_15 : FOK RX5 15 5 0 (tyX5 0) true := ⟨RX5, TX5, 6, tyX5, cls_5, by decide, rfl, rfl, Or.inl (mU_2 91 rfl rfl)⟩
theorem fk_X5_19 : FOK RX5 19 5 1 (tyX5 1) true := ⟨RX5, TX5, 6, tyX5, cls_5, by decide, rfl, rfl, Or.inl (mU_2 92 rfl rfl)⟩
theorem fk_X5_23 : FOK RX5 23 5 3 (.int) false := ⟨RX5, TX5, 6, tyX5, cls_5, by decide, rfl, rfl, Or.inl (mU_2 94 rfl rfl)⟩
theorem fk_X5_27 : FOK RX5 27 5 4 (.int) false := ⟨RX5, TX5, 6, tyX5, cls_5, by decide, rfl, rfl, Or.inl (mU_2 96 rfl rfl)⟩
theorem fk_X5_30 : FOK RX5 30 5 5 (.int) false := ⟨RX5, TX5, 6, tyX5, cls_5, by decide, rfl, rfl, Or.inl (mU_2 98 rfl rfl)⟩
theorem fk_X5_33 : FOK RX5 33 0 6 (.int) false := ⟨RX0, TX0, 8, tyX0, cls_0, by decide, rfl, rfl, Or.inr ⟨"WeekWheels", mN_1 137 rfl rfl⟩⟩
theorem fk_X5_51 : FOK RX5 51 3 4 (.int) false := ⟨RX3, TX3, 13, tyX3, cls_3, by decide, rfl, rfl, Or.inr ⟨"WeekWheels", mN_1 173 rfl rfl⟩⟩
theorem fk_X5_56 : FOK RX5 56 0 0 (tyX0 0) true := ⟨RX0, TX0, 8, tyX0, cls_0, by decide, rfl, rfl, Or.inr ⟨"WeekWheels", mN_1 119 rfl rfl⟩⟩
theorem fk_X5_60 : FOK RX5 60 3 1 (tyX3 1) true := ⟨RX3, TX3, 13, tyX3, cls_3, by decide, rfl, rfl, Or.inr ⟨"WeekWheels", mN_1 167 rfl rfl⟩⟩
theorem fk_X5_63 : FOK RX5 63 3 2 (tyX3 2) true := ⟨RX3, TX3, 13, tyX3, cls_3, by decide, rfl, rfl, Or.inr ⟨"WeekWheels", mN_1 169 rfl rfl⟩⟩
theorem fk_X5_72 : FOK RX5 72 3 3 (tyX3 3) true := ⟨RX3, TX3, 13, tyX3, cls_3, by decide, rfl, rfl, Or.inr ⟨"WeekWheels", mN_1 171 rfl rfl⟩⟩
theorem fk_X5_89 : FOK RX5 89 2 4 (.int) false := ⟨RX2, TX2, 9, tyX2, cls_2, by decide, rfl, rfl, Or.inr ⟨"WeekWheels", mN_1 90 rfl rfl⟩⟩
theorem fk_X6_11 : FOK RX6 11 6 0 (tyX6 0) true := ⟨RX6, TX6, 4, tyX6, cls_6, by decide, rfl, rfl, Or.inl (mU_2 119 rfl rfl)⟩
theorem fk_X6_15 : FOK RX6 15 6 1 (tyX6 1) true := ⟨RX6, TX6, 4, tyX6, cls_6, by decide, rfl, rfl, Or.inl (mU_2 120 rfl rfl)⟩
theorem fk_X6_18 : FOK RX6 18 6 2 (tyX6 2) true := ⟨RX6, TX6, 4, tyX6, cls_6, by decide, rfl, rfl, Or.inl (mU_2 121 rfl rfl)⟩
theorem fk_X6_21 : FOK RX6 21 6 3 (.int) false := ⟨RX6, TX6, 4, tyX6, cls_6, by decide, rfl, rfl, Or.inl (mU_2 122 rfl rfl)⟩
theorem fk_X7_11 : FOK RX7 11 7 2 (tyX7 2) true := ⟨RX7, TX7, 10, tyX7, cls_7, by decide, rfl, rfl, Or.inl (mU_2 20 rfl rfl)⟩
theorem fk_X7_15 : FOK RX7 15 7 3 (tyX7 3) true := ⟨RX7, TX7, 10, tyX7, cls_7, by decide, rfl, rfl, Or.inl (mU_2 21 rfl rfl)⟩
theorem fk_X7_18 : FOK RX7 18 7 4 (tyX7 4) true := ⟨RX7, TX7, 10, tyX7, cls_7, by decide, rfl, rfl, Or.inl (mU_2 22 rfl rfl)⟩
theorem fk_X7_21 : FOK RX7 21 7 5 (tyX7 5) true := ⟨RX7, TX7, 10, tyX7, cls_7, by decide, rfl, rfl, Or.inl (mU_2 23 rfl rfl)⟩
theorem fk_X7_25 : FOK RX7 25 7 6 (tyX7 6) true := ⟨RX7, TX7, 10, tyX7, cls_7, by decide, rfl, rfl, Or.inl (mU_2 24 rfl rfl)⟩
theorem fk_X7_28 : FOK RX7 28 7 9 (.int) false := ⟨RX7, TX7, 10, tyX7, cls_7, by decide, rfl, rfl, Or.inl (mU_2 27 rfl rfl)⟩
theorem fk_X7_32 : FOK RX7 32 7 0 (tyX7 0) true := ⟨RX7, TX7, 10, tyX7, cls_7, by decide, rfl, rfl, Or.inl (mU_2 18 rfl rfl)⟩
theorem fk_X7_36 : FOK RX7 36 7 1 (tyX7 1) true := ⟨RX7, TX7, 10, tyX7, cls_7, by decide, rfl, rfl, Or.inl (mU_2 19 rfl rfl)⟩
theorem fk_X7_40 : FOK RX7 40 7 7 (.int) false := ⟨RX7, TX7, 10, tyX7, cls_7, by decide, rfl, rfl, Or.inl (mU_2 25 rfl rfl)⟩
theorem fk_X7_43 : FOK RX7 43 7 8 (.boolean) false := ⟨RX7, TX7, 10, tyX7, cls_7, by decide, rfl, rfl, Or.inl (mU_2 26 rfl rfl)⟩
theorem fk_X7_47 : FOK RX7 47 0 7 (.int) false := ⟨RX0, TX0, 8, tyX0, cls_0, by decide, rfl, rfl, Or.inr ⟨"WeekWheels", mN_1 140 rfl rfl⟩⟩
theorem fk_X7_66 : FOK RX7 66 0 0 (tyX0 0) true := ⟨RX0, TX0, 8, tyX0, cls_0, by decide, rfl, rfl, Or.inr ⟨"WeekWheels", mN_1 121 rfl rfl⟩⟩
theorem fk_X7_98 : FOK RX7 98 0 1 (tyX0 1) true := ⟨RX0, TX0, 8, tyX0, cls_0, by decide, rfl, rfl, Or.inr ⟨"WeekWheels", mN_1 127 rfl rfl⟩⟩
theorem fk_X8_9 : FOK RX8 9 8 0 (tyX8 0) true := ⟨RX8, TX8, 2, tyX8, cls_8, by decide, rfl, rfl, Or.inl (mU_2 56 rfl rfl)⟩
theorem fk_X8_15 : FOK RX8 15 8 1 (tyX8 1) true := ⟨RX8, TX8, 2, tyX8, cls_8, by decide, rfl, rfl, Or.inl (mU_2 57 rfl rfl)⟩
theorem fk_X8_40 : FOK RX8 40 7 9 (.int) false := ⟨RX7, TX7, 10, tyX7, cls_7, by decide, rfl, rfl, Or.inr ⟨"WeekWheels", mN_2 28 rfl rfl⟩⟩
theorem fk_X8_45 : FOK RX8 45 4 2 (.int) false := ⟨RX4, TX4, 7, tyX4, cls_4, by decide, rfl, rfl, Or.inr ⟨"WeekWheels", mN_1 44 rfl rfl⟩⟩
theorem fk_X8_90 : FOK RX8 90 0 0 (tyX0 0) true := ⟨RX0, TX0, 8, tyX0, cls_0, by decide, rfl, rfl, Or.inr ⟨"WeekWheels", mN_1 122 rfl rfl⟩⟩
theorem fk_X8_96 : FOK RX8 96 2 4 (.int) false := ⟨RX2, TX2, 9, tyX2, cls_2, by decide, rfl, rfl, Or.inr ⟨"WeekWheels", mN_1 92 rfl rfl⟩⟩
theorem fk_X8_109 : FOK RX8 109 0 1 (tyX0 1) true := ⟨RX0, TX0, 8, tyX0, cls_0, by decide, rfl, rfl, Or.inr ⟨"WeekWheels", mN_1 126 rfl rfl⟩⟩
theorem fk_X8_116 : FOK RX8 116 0 4 (.int) false := ⟨RX0, TX0, 8, tyX0, cls_0, by decide, rfl, rfl, Or.inr ⟨"WeekWheels", mN_1 133 rfl rfl⟩⟩
theorem fk_X9_11 : FOK RX9 11 9 2 (tyX9 2) true := ⟨RX9, TX9, 5, tyX9, cls_9, by decide, rfl, rfl, Or.inl (mU_2 71 rfl rfl)⟩
theorem fk_X9_15 : FOK RX9 15 9 3 (tyX9 3) true := ⟨RX9, TX9, 5, tyX9, cls_9, by decide, rfl, rfl, Or.inl (mU_2 72 rfl rfl)⟩
theorem fk_X9_18 : FOK RX9 18 9 4 (tyX9 4) true := ⟨RX9, TX9, 5, tyX9, cls_9, by decide, rfl, rfl, Or.inl (mU_2 73 rfl rfl)⟩
theorem fk_X9_21 : FOK RX9 21 9 0 (tyX9 0) true := ⟨RX9, TX9, 5, tyX9, cls_9, by decide, rfl, rfl, Or.inl (mU_2 69 rfl rfl)⟩
theorem fk_X9_25 : FOK RX9 25 9 1 (tyX9 1) true := ⟨RX9, TX9, 5, tyX9, cls_9, by decide, rfl, rfl, Or.inl (mU_2 70 rfl rfl)⟩
theorem fk_X9_29 : FOK RX9 29 3 12 (.int) false := ⟨RX3, TX3, 13, tyX3, cls_3, by decide, rfl, rfl, Or.inr ⟨"WeekWheels", mN_1 189 rfl rfl⟩⟩
theorem fk_X9_39 : FOK RX9 39 3 11 (tyX3 11) true := ⟨RX3, TX3, 13, tyX3, cls_3, by decide, rfl, rfl, Or.inr ⟨"WeekWheels", mN_1 188 rfl rfl⟩⟩
theorem fk_X9_48 : FOK RX9 48 3 10 (tyX3 10) true := ⟨RX3, TX3, 13, tyX3, cls_3, by decide, rfl, rfl, Or.inr ⟨"WeekWheels", mN_1 186 rfl rfl⟩⟩
theorem fk_X11_9 : FOK RX11 9 11 3 (.int) false := ⟨RX11, TX11, 48, tyX11, cls_11, by decide, rfl, rfl, Or.inl (mU_7 20 rfl rfl)⟩
theorem fk_X11_13 : FOK RX11 13 11 8 (tyX11 8) true := ⟨RX11, TX11, 48, tyX11, cls_11, by decide, rfl, rfl, Or.inl (mU_7 25 rfl rfl)⟩
theorem fk_X11_17 : FOK RX11 17 11 9 (tyX11 9) true := ⟨RX11, TX11, 48, tyX11, cls_11, by decide, rfl, rfl, Or.inl (mU_7 26 rfl rfl)⟩
theorem fk_X11_20 : FOK RX11 20 11 10 (tyX11 10) true := ⟨RX11, TX11, 48, tyX11, cls_11, by decide, rfl, rfl, Or.inl (mU_7 27 rfl rfl)⟩
theorem fk_X11_23 : FOK RX11 23 11 11 (tyX11 11) true := ⟨RX11, TX11, 48, tyX11, cls_11, by decide, rfl, rfl, Or.inl (mU_7 28 rfl rfl)⟩
theorem fk_X11_26 : FOK RX11 26 11 12 (tyX11 12) true := ⟨RX11, TX11, 48, tyX11, cls_11, by decide, rfl, rfl, Or.inl (mU_7 29 rfl rfl)⟩
theorem fk_X11_29 : FOK RX11 29 11 13 (tyX11 13) true := ⟨RX11, TX11, 48, tyX11, cls_11, by decide, rfl, rfl, Or.inl (mU_7 30 rfl rfl)⟩
theorem fk_X11_32 : FOK RX11 32 11 14 (tyX11 14) true := ⟨RX11, TX11, 48, tyX11, cls_11, by decide, rfl, rfl, Or.inl (mU_7 31 rfl rfl)⟩
theorem fk_X11_35 : FOK RX11 35 11 15 (tyX11 15) true := ⟨RX11, TX11, 48, tyX11, cls_11, by decide, rfl, rfl, Or.inl (mU_7 32 rfl rfl)⟩
theorem fk_X11_38 : FOK RX11 38 11 16 (tyX11 16) true := ⟨RX11, TX11, 48, tyX11, cls_11, by decide, rfl, rfl, Or.inl (mU_7 33 rfl rfl)⟩
theorem fk_X11_41 : FOK RX11 41 11 17 (tyX11 17) true := ⟨RX11, TX11, 48, tyX11, cls_11, by decide, rfl, rfl, Or.inl (mU_7 34 rfl rfl)⟩
theorem fk_X11_44 : FOK RX11 44 11 18 (tyX11 18) true := ⟨RX11, TX11, 48, tyX11, cls_11, by decide, rfl, rfl, Or.inl (mU_7 35 rfl rfl)⟩
theorem fk_X11_47 : FOK RX11 47 11 19 (tyX11 19) true := ⟨RX11, TX11, 48, tyX11, cls_11, by decide, rfl, rfl, Or.inl (mU_7 36 rfl rfl)⟩
theorem fk_X11_50 : FOK RX11 50 11 20 (tyX11 20) true := ⟨RX11, TX11, 48, tyX11, cls_11, by decide, rfl, rfl, Or.inl (mU_7 37 rfl rfl)⟩
theorem fk_X11_53 : FOK RX11 53 11 21 (tyX11 21) true := ⟨RX11, TX11, 48, tyX11, cls_11, by decide, rfl, rfl, Or.inl (mU_7 38 rfl rfl)⟩
theorem fk_X11_58 : FOK RX11 58 11 22 (tyX11 22) true := ⟨RX11, TX11, 48, tyX11, cls_11, by decide, rfl, rfl, Or.inl (mU_7 39 rfl rfl)⟩
theorem fk_X11_61 : FOK RX11 61 11 23 (tyX11 23) true := ⟨RX11, TX11, 48, tyX11, cls_11, by decide, rfl, rfl, Or.inl (mU_7 40 rfl rfl)⟩
theorem fk_X11_64 : FOK RX11 64 11 29 (tyX11 29) true := ⟨RX11, TX11, 48, tyX11, cls_11, by decide, rfl, rfl, Or.inl (mU_7 46 rfl rfl)⟩
theorem fk_X11_67 : FOK RX11 67 11 30 (tyX11 30) true := ⟨RX11, TX11, 48, tyX11, cls_11, by decide, rfl, rfl, Or.inl (mU_7 47 rfl rfl)⟩
theorem fk_X11_70 : FOK RX11 70 11 31 (tyX11 31) true := ⟨RX11, TX11, 48, tyX11, cls_11, by decide, rfl, rfl, Or.inl (mU_7 48 rfl rfl)⟩
theorem fk_X11_74 : FOK RX11 74 11 37 (tyX11 37) true := ⟨RX11, TX11, 48, tyX11, cls_11, by decide, rfl, rfl, Or.inl (mU_7 54 rfl rfl)⟩
theorem fk_X11_77 : FOK RX11 77 11 38 (tyX11 38) true := ⟨RX11, TX11, 48, tyX11, cls_11, by decide, rfl, rfl, Or.inl (mU_7 55 rfl rfl)⟩
theorem fk_X11_80 : FOK RX11 80 11 39 (tyX11 39) true := ⟨RX11, TX11, 48, tyX11, cls_11, by decide, rfl, rfl, Or.inl (mU_7 56 rfl rfl)⟩
theorem fk_X11_83 : FOK RX11 83 11 40 (tyX11 40) true := ⟨RX11, TX11, 48, tyX11, cls_11, by decide, rfl, rfl, Or.inl (mU_7 57 rfl rfl)⟩
theorem fk_X11_86 : FOK RX11 86 11 41 (tyX11 41) true := ⟨RX11, TX11, 48, tyX11, cls_11, by decide, rfl, rfl, Or.inl (mU_7 58 rfl rfl)⟩
theorem fk_X11_89 : FOK RX11 89 11 42 (tyX11 42) true := ⟨RX11, TX11, 48, tyX11, cls_11, by decide, rfl, rfl, Or.inl (mU_7 59 rfl rfl)⟩
theorem fk_X11_92 : FOK RX11 92 11 43 (tyX11 43) true := ⟨RX11, TX11, 48, tyX11, cls_11, by decide, rfl, rfl, Or.inl (mU_7 60 rfl rfl)⟩
theorem fk_X11_95 : FOK RX11 95 11 45 (tyX11 45) true := ⟨RX11, TX11, 48, tyX11, cls_11, by decide, rfl, rfl, Or.inl (mU_7 62 rfl rfl)⟩
theorem fk_X11_98 : FOK RX11 98 11 46 (tyX11 46) true := ⟨RX11, TX11, 48, tyX11, cls_11, by decide, rfl, rfl, Or.inl (mU_7 63 rfl rfl)⟩
theorem fk_X11_101 : FOK RX11 101 11 47 (tyX11 47) true := ⟨RX11, TX11, 48, tyX11, cls_11, by decide, rfl, rfl, Or.inl (mU_7 64 rfl rfl)⟩
theorem fk_X11_104 : FOK RX11 104 11 27 (.int) false := ⟨RX11, TX11, 48, tyX11, cls_11, by decide, rfl, rfl, Or.inl (mU_7 44 rfl rfl)⟩
theorem fk_X11_107 : FOK RX11 107 11 0 (.int) false := ⟨RX11, TX11, 48, tyX11, cls_11, by decide, rfl, rfl, Or.inl (mU_7 17 rfl rfl)⟩
theorem fk_X11_110 : FOK RX11 110 11 1 (.int) false := ⟨RX11, TX11, 48, tyX11, cls_11, by decide, rfl, rfl, Or.inl (mU_7 18 rfl rfl)⟩
theorem fk_X11_113 : FOK RX11 113 11 2 (.int) false := ⟨RX11, TX11, 48, tyX11, cls_11, by decide, rfl, rfl, Or.inl (mU_7 19 rfl rfl)⟩
theorem fk_X11_116 : FOK RX11 116 11 4 (.int) false := ⟨RX11, TX11, 48, tyX11, cls_11, by decide, rfl, rfl, Or.inl (mU_7 21 rfl rfl)⟩
theorem fk_X11_123 : FOK RX11 123 11 5 (.int) false := ⟨RX11, TX11, 48, tyX11, cls_11, by decide, rfl, rfl, Or.inl (mU_7 22 rfl rfl)⟩
theorem fk_X11_126 : FOK RX11 126 11 6 (.int) false := ⟨RX11, TX11, 48, tyX11, cls_11, by decide, rfl, rfl, Or.inl (mU_7 23 rfl rfl)⟩
theorem fk_X11_160 : FOK RX11 160 11 7 (.int) false := ⟨RX11, TX11, 48, tyX11, cls_11, by decide, rfl, rfl, Or.inl (mU_7 24 rfl rfl)⟩
theorem fk_X11_193 : FOK RX11 193 11 24 (.int) false := ⟨RX11, TX11, 48, tyX11, cls_11, by decide, rfl, rfl, Or.inl (mU_7 41 rfl rfl)⟩
theorem fk_X11_196 : FOK RX11 196 11 32 (.int) false := ⟨RX11, TX11, 48, tyX11, cls_11, by decide, rfl, rfl, Or.inl (mU_7 49 rfl rfl)⟩
theorem fk_X11_199 : FOK RX11 199 11 33 (.int) false := ⟨RX11, TX11, 48, tyX11, cls_11, by decide, rfl, rfl, Or.inl (mU_7 50 rfl rfl)⟩
theorem fk_X11_202 : FOK RX11 202 11 34 (.int) false := ⟨RX11, TX11, 48, tyX11, cls_11, by decide, rfl, rfl, Or.inl (mU_7 51 rfl rfl)⟩
theorem fk_X11_205 : FOK RX11 205 11 35 (.int) false := ⟨RX11, TX11, 48, tyX11, cls_11, by decide, rfl, rfl, Or.inl (mU_7 52 rfl rfl)⟩
theorem fk_X11_208 : FOK RX11 208 11 25 (.int) false := ⟨RX11, TX11, 48, tyX11, cls_11, by decide, rfl, rfl, Or.inl (mU_7 42 rfl rfl)⟩
theorem fk_X11_211 : FOK RX11 211 11 26 (.int) false := ⟨RX11, TX11, 48, tyX11, cls_11, by decide, rfl, rfl, Or.inl (mU_7 43 rfl rfl)⟩
theorem fk_X11_233 : FOK RX11 233 11 28 (.int) false := ⟨RX11, TX11, 48, tyX11, cls_11, by decide, rfl, rfl, Or.inl (mU_7 45 rfl rfl)⟩
theorem fk_X11_293 : FOK RX11 293 11 44 (.int) false := ⟨RX11, TX11, 48, tyX11, cls_11, by decide, rfl, rfl, Or.inl (mU_7 61 rfl rfl)⟩
theorem fk_X11_345 : FOK RX11 345 11 36 (.int) false := ⟨RX11, TX11, 48, tyX11, cls_11, by decide, rfl, rfl, Or.inl (mU_7 53 rfl rfl)⟩
theorem co_X10_319 : Cond.constant RX10 319 999999999 ∈ UW := mU_4 174 rfl rfl
theorem co_X10_415 : Cond.constant RX10 415 100000 ∈ UW := mU_3 227 rfl rfl
theorem co_X0_59 : Cond.constant RX0 59 999999999 ∈ UW := mU_5 46 rfl rfl
theorem co_X0_86 : Cond.constant RX0 86 100000 ∈ UW := mU_3 228 rfl rfl
theorem co_X0_142 : Cond.constant RX0 142 99999 ∈ UW := mU_3 202 rfl rfl
theorem co_X1_54 : Cond.constant RX1 54 999999999 ∈ UW := mU_5 143 rfl rfl
theorem co_X4_60 : Cond.constant RX4 60 1000000 ∈ UW := mU_3 168 rfl rfl
theorem co_X7_110 : Cond.constant RX7 110 999999999 ∈ UW := mU_5 40 rfl rfl
theorem co_X8_44 : Cond.constant RX8 44 100000 ∈ UW := mU_4 76 rfl rfl
theorem co_X9_63 : Cond.constant RX9 63 1000000001 ∈ UW := mU_6 146 rfl rfl
theorem co_X9_64 : Cond.constant RX9 64 100060 ∈ UW := mU_6 147 rfl rfl
theorem co_X11_140 : Cond.constant RX11 140 1000000 ∈ UW := mU_7 223 rfl rfl
theorem co_X11_163 : Cond.constant RX11 163 100000 ∈ UW := mU_7 236 rfl rfl
theorem co_X11_168 : Cond.constant RX11 168 100001 ∈ UW := mU_8 0 rfl rfl
theorem co_X11_172 : Cond.constant RX11 172 99999 ∈ UW := mU_7 224 rfl rfl
theorem co_X11_242 : Cond.constant RX11 242 999999999 ∈ UW := mU_8 64 rfl rfl
theorem co_J6_265 : Cond.constant RJ6 265 1431655765 ∈ UW := mU_5 107 rfl rfl
theorem co_J6_266 : Cond.constant RJ6 266 858993459 ∈ UW := mU_5 108 rfl rfl
theorem co_J6_267 : Cond.constant RJ6 267 252645135 ∈ UW := mU_5 109 rfl rfl
theorem co_X10_408 : Cond.constantLong RX10 408 2 ∈ UW := mU_5 168 rfl rfl
theorem co_X10_410 : Cond.constantLong RX10 410 24 ∈ UW := mU_5 169 rfl rfl
theorem co_X10_416 : Cond.constantLong RX10 416 (-1) ∈ UW := mU_5 53 rfl rfl
theorem co_X1_48 : Cond.constantLong RX1 48 (-1) ∈ UW := mU_5 155 rfl rfl
theorem co_X1_106 : Cond.constantLong RX1 106 2 ∈ UW := mU_5 185 rfl rfl
theorem co_X2_103 : Cond.constantLong RX2 103 (-1) ∈ UW := mU_5 19 rfl rfl
theorem co_X5_49 : Cond.constantLong RX5 49 (-1) ∈ UW := mU_6 22 rfl rfl
theorem co_X6_25 : Cond.constantLong RX6 25 100 ∈ UW := mU_5 205 rfl rfl
theorem co_X6_41 : Cond.constantLong RX6 41 (-1) ∈ UW := mU_5 235 rfl rfl
theorem co_X7_80 : Cond.constantLong RX7 80 (-1) ∈ UW := mU_5 22 rfl rfl
theorem co_X11_299 : Cond.constantLong RX11 299 100 ∈ UW := mU_8 170 rfl rfl
theorem co_X11_301 : Cond.constantLong RX11 301 (-1) ∈ UW := mU_8 179 rfl rfl
theorem co_J13_314 : Cond.constantLong RJ13 314 6148914691236517205 ∈ UW := mU_5 60 rfl rfl
theorem co_J13_316 : Cond.constantLong RJ13 316 3689348814741910323 ∈ UW := mU_5 61 rfl rfl
theorem co_J13_318 : Cond.constantLong RJ13 318 1085102592571150095 ∈ UW := mU_5 62 rfl rfl
theorem cp_X0_41 : COPY RX0 41 := ⟨mU_4 11 rfl rfl, mU_2 214 rfl rfl, mU_2 213 rfl rfl, mU_1 22 rfl rfl⟩
theorem cp_X3_46 : COPY RX3 46 := ⟨mU_2 212 rfl rfl, mU_2 214 rfl rfl, mU_2 213 rfl rfl, mU_1 22 rfl rfl⟩
theorem cp_X7_52 : COPY RX7 52 := ⟨mU_4 82 rfl rfl, mU_2 214 rfl rfl, mU_2 213 rfl rfl, mU_1 22 rfl rfl⟩
