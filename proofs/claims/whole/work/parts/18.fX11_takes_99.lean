def F_X11_takes_99 (M : PM) (a1 : Int32) (a2 : Int32) (a3 : Int32) (a4 : Int32) (a5 : Int32) : Option PR := cI (F_X11_isWord_99 M a1 a2 a3 a4 a5) fun v1092 M1091 => (if v1092 = 0 then (if v1092 &&& 1 = v1092 then some (.inl (some (.int v1092)), M1091) else none) else cV (F_X11_skipWord_99 M1091) fun M1093 => (if v1092 &&& 1 = v1092 then some (.inl (some (.int v1092)), M1093) else none))
set_option maxRecDepth 100000 in
theorem S_X11_takes_99 {l : Launch} (hl : l.stackTraces = false) {M : PM} {a1 : Int32} {a2 : Int32} {a3 : Int32} {a4 : Int32} {a5 : Int32} {r : PR} (h : F_X11_takes_99 M a1 a2 a3 a4 a5 = some r) : PW l 4 Y_X11_takes k_X11_takes [vR 99, vI a1, vI a2, vI a3, vI a4, vI a5, jk] [] M r := by
  unfold F_X11_takes_99 at h
  refine p_aload_n rfl ?_
  refine p_iload_n rfl ?_
  refine p_iload_n rfl ?_
  refine p_iload_n rfl ?_
  refine p_iload rfl ?_
  refine p_iload rfl ?_
  refine p_cI (av := [_, _, _, _, _, _]) ⟨mok_X11_isWord, Or.inl ⟨153, 99, 11, 0, _, rfl, rfl, rfl, gt_99, rfl, ins_X11_isWord, Or.inl lk_X11_153⟩⟩ (Nat.le_of_ble_eq_true rfl) (Nat.le_of_ble_eq_true rfl) rfl (fun _ h => pc_X11_isWord_99 hl h) h (fun v1092 M1091 h => ?_)
  refine p_istore (Nat.le_of_ble_eq_true rfl) rfl ?_
  refine p_iload rfl ?_
  refine p_if_eq h 12 rfl rfl (fun _ h => ?_) (fun _ h => ?_)
  · refine p_iload rfl ?_
    exact p_zret rfl h
  · refine p_aload_n rfl ?_
    refine p_cV (av := [_]) ⟨mok_X11_skipWord, Or.inl ⟨157, 99, 11, 0, _, rfl, rfl, rfl, gt_99, rfl, ins_X11_skipWord, Or.inl lk_X11_157⟩⟩ (Nat.le_of_ble_eq_true rfl) (Nat.le_of_ble_eq_true rfl) rfl (fun _ h => pc_X11_skipWord_99 hl h) h (fun M1093 h => ?_)
    refine p_iload rfl ?_
    exact p_zret rfl h
set_option maxRecDepth 100000 in
theorem pc_X11_takes_99 {l : Launch} (hl : l.stackTraces = false) {M : PM} {a1 : Int32} {a2 : Int32} {a3 : Int32} {a4 : Int32} {a5 : Int32} {r : PR} (h : F_X11_takes_99 M a1 a2 a3 a4 a5 = some r) : PC l 4 Y_X11_takes [vR 99, vI a1, vI a2, vI a3, vI a4, vI a5] M r := pc_of hl (by decide +kernel) cok_X11_takes (Nat.le_of_ble_eq_true rfl) rfl (S_X11_takes_99 hl  h) rfl
def F_X11_says_99 (M : PM) (a1 : Int32) (a2 : Int32) (a3 : Int32) : Option PR := (if mI M 99 5 = 0 then if ixOK (mI M 99 25) 220 = true then if (mI M 99 25).toNatClampNeg < 220 ∧ ixOK 0 3 = true then if ixOK (mI (sG M 117 ((mI M 99 25).toNatClampNeg) (0 : Int32).toNatClampNeg a1) 99 25) 220 = true then if (mI (sG M 117 ((mI M 99 25).toNatClampNeg) (0 : Int32).toNatClampNeg a1) 99 25).toNatClampNeg < 220 ∧ ixOK 1 3 = true then lt (sG (sG M 117 ((mI M 99 25).toNatClampNeg) (0 : Int32).toNatClampNeg a1) 117 ((mI (sG M 117 ((mI M 99 25).toNatClampNeg) (0 : Int32).toNatClampNeg a1) 99 25).toNatClampNeg) (1 : Int32).toNatClampNeg a2) fun M1094 => if ixOK (mI M1094 99 25) 220 = true then if (mI M1094 99 25).toNatClampNeg < 220 ∧ ixOK 2 3 = true then lt (sI (sG M1094 117 ((mI M1094 99 25).toNatClampNeg) (2 : Int32).toNatClampNeg a3) 99 25 ((mI (sG M1094 117 ((mI M1094 99 25).toNatClampNeg) (2 : Int32).toNatClampNeg a3) 99 25) + 1)) fun M1095 => some (.inl none, M1095) else none else none else none else none else none else none else some (.inl none, M))
set_option maxRecDepth 100000 in
theorem S_X11_says_99 {l : Launch} (hl : l.stackTraces = false) {M : PM} {a1 : Int32} {a2 : Int32} {a3 : Int32} {r : PR} (h : F_X11_says_99 M a1 a2 a3 = some r) : PW l 0 Y_X11_says k_X11_says [vR 99, vI a1, vI a2, vI a3] [] M r := by
  unfold F_X11_says_99 at h
  refine p_aload_n rfl ?_
  refine p_getI fk_X11_123 gt_99 rfl ?_
  refine p_if_eq h 4 rfl rfl (fun _ h => ?_) (fun _ h => ?_)
  · refine p_aload_n rfl ?_
    refine p_getR fk_X11_67 gt_99 rfl rfl ?_
    refine p_aload_n rfl ?_
    refine p_getI fk_X11_208 gt_99 rfl ?_
    refine p_aldG gt_117 h (fun h => ?_)
    refine p_iconst cn_0 ?_
    refine p_iload_n rfl ?_
    refine p_iastG gt_117 h (fun h => ?_)
    refine p_aload_n rfl ?_
    refine p_getR fk_X11_67 gt_99 rfl rfl ?_
    refine p_aload_n rfl ?_
    refine p_getI fk_X11_208 gt_99 rfl ?_
    refine p_aldG gt_117 h (fun h => ?_)
    refine p_iconst cn_1 ?_
    refine p_iload_n rfl ?_
    refine p_iastG gt_117 h (fun h => ?_)
    have h := lt_h h
    refine p_aload_n rfl ?_
    refine p_getR fk_X11_67 gt_99 rfl rfl ?_
    refine p_aload_n rfl ?_
    refine p_getI fk_X11_208 gt_99 rfl ?_
    refine p_aldG gt_117 h (fun h => ?_)
    refine p_iconst cn_2 ?_
    refine p_iload_n rfl ?_
    refine p_iastG gt_117 h (fun h => ?_)
    refine p_aload_n rfl ?_
    refine p_dup rfl ?_
    refine p_getI fk_X11_208 gt_99 rfl ?_
    refine p_iconst cn_1 ?_
    refine p_iadd ?_
    refine p_putI fk_X11_208 gt_99 rfl ?_
    have h := lt_h h
    exact p_ret rfl h
  · exact p_ret rfl h
set_option maxRecDepth 100000 in
theorem pc_X11_says_99 {l : Launch} (hl : l.stackTraces = false) {M : PM} {a1 : Int32} {a2 : Int32} {a3 : Int32} {r : PR} (h : F_X11_says_99 M a1 a2 a3 = some r) : PC l 0 Y_X11_says [vR 99, vI a1, vI a2, vI a3] M r := pc_of hl (by decide +kernel) cok_X11_says (Nat.le_of_ble_eq_true rfl) rfl (S_X11_says_99 hl  h) rfl
def F_X11_opens_99 (M : PM)  : Option PR := (if mI M 99 26 = 6 then cV (F_X11_wrong_99 M 3 (mI M 99 4)) fun M1096 => some (.inl none, M1096) else some (.inl none, sI M 99 26 ((mI M 99 26) + 1)))
set_option maxRecDepth 100000 in
theorem S_X11_opens_99 {l : Launch} (hl : l.stackTraces = false) {M : PM}  {r : PR} (h : F_X11_opens_99 M  = some r) : PW l 1 Y_X11_opens k_X11_opens [vR 99] [] M r := by
  unfold F_X11_opens_99 at h
  refine p_aload_n rfl ?_
  refine p_getI fk_X11_211 gt_99 rfl ?_
  refine p_bipush cb_6 ?_
  refine p_icmp_ne h 10 rfl rfl (fun _ h => ?_) (fun _ h => ?_)
  · refine p_aload_n rfl ?_
    refine p_iconst cn_3 ?_
    refine p_aload_n rfl ?_
    refine p_getI fk_X11_116 gt_99 rfl ?_
    refine p_cV (av := [_, _, _]) ⟨mok_X11_wrong, Or.inl ⟨136, 99, 11, 0, _, rfl, rfl, rfl, gt_99, rfl, ins_X11_wrong, Or.inl lk_X11_136⟩⟩ (Nat.le_of_ble_eq_true rfl) (Nat.le_of_ble_eq_true rfl) rfl (fun _ h => pc_X11_wrong_99 hl h) h (fun M1096 h => ?_)
    refine p_goto 16 rfl rfl ?_
    exact p_ret rfl h
  · refine p_aload_n rfl ?_
    refine p_dup rfl ?_
    refine p_getI fk_X11_211 gt_99 rfl ?_
    refine p_iconst cn_1 ?_
    refine p_iadd ?_
    refine p_putI fk_X11_211 gt_99 rfl ?_
    exact p_ret rfl h
set_option maxRecDepth 100000 in
theorem pc_X11_opens_99 {l : Launch} (hl : l.stackTraces = false) {M : PM}  {r : PR} (h : F_X11_opens_99 M  = some r) : PC l 1 Y_X11_opens [vR 99] M r := pc_of hl (by decide +kernel) cok_X11_opens (Nat.le_of_ble_eq_true rfl) rfl (S_X11_opens_99 hl  h) rfl
def F_X11_one_99_232 (rc : Nat → PM → Option PR) (M : PM) (x1 : Int32) (x2 : Int32) (t1 : Int32) (t2 : Int32) : Option PR := cI (F_X11_both M t1 t2) fun v1098 M1097 => cV (F_X11_says_99 (sI M1097 99 28 v1098) 2 x1 x2) fun M1099 => some (.inl none, M1099)
def F_X11_one_99 (rc : Nat → PM → Option PR) (M : PM)  : Option PR := (if mI M 99 5 = 0 then cV (F_X11_blanks_99 M) fun M1100 => cI (F_X11_isWord_99 M1100 14 15 20 0 0) fun v1102 M1101 => (if v1102 = 0 then cI (F_X11_byteAt_99 M1101 (mI M1101 99 4)) fun v1104 M1103 => (if v1104 = 91 then cV (F_X11_opens_99 M1103) fun M1134 => (if mI M1134 99 5 = 0 then cV (rc 0 (sI M1134 99 4 ((mI M1134 99 4) + 1))) fun M1135 => cV (F_X11_sign_99 M1135 93) fun M1136 => some (.inl none, sI M1136 99 26 ((mI M1136 99 26) - 1)) else some (.inl none, M1134)) else cI (F_X11_takes_99 M1103 12 1 23 0 0) fun v1106 M1105 => (if v1106 = 0 then cI (F_X11_takes_99 M1105 13 1 14 25 0) fun v1108 M1107 => (if v1108 = 0 then cI (F_X11_takes_99 M1107 4 1 25 0 0) fun v1110 M1109 => (if v1110 = 0 then cI (F_X11_takes_99 M1109 8 15 21 19 5) fun v1112 M1111 => (if v1112 = 0 then cI (F_X11_takes_99 M1111 20 15 23 14 0) fun v1114 M1113 => (if v1114 = 0 then cV (F_X11_wrong_99 M1113 1 (mI M1113 99 4)) fun M1115 => some (.inl none, M1115) else if ixOK 1 6 = true then cI (F_X11_number_99 M1113 0 ((mA M1113 103 (1 : Int32).toNatClampNeg) - 1)) fun v1117 M1116 => cV (F_X11_says_99 M1116 4 v1117 0) fun M1118 => some (.inl none, M1118) else none) else if ixOK 2 6 = true then cI (F_X11_number_99 M1111 0 ((mA M1111 103 (2 : Int32).toNatClampNeg) - 1)) fun v1120 M1119 => if ixOK 0 6 = true then cI (F_X11_number_99 M1119 0 ((mA M1119 103 (0 : Int32).toNatClampNeg) - 1)) fun v1122 M1121 => cV (F_X11_says_99 M1121 3 v1120 v1122) fun M1123 => some (.inl none, M1123) else none else none) else cI (F_X11_number_99 M1109 2 99) fun v1125 M1124 => cI (F_X11_number_99 M1124 0 (v1125 - 1)) fun v1127 M1126 => (if v1125 = 0 then F_X11_one_99_232 rc M1126 v1125 v1127 (mI M1126 99 28) 1 else F_X11_one_99_232 rc M1126 v1125 v1127 (mI M1126 99 28) v1125)) else cI (F_X11_number_99 M1107 0 12) fun v1129 M1128 => cV (F_X11_says_99 M1128 1 v1129 0) fun M1130 => some (.inl none, M1130)) else if ixOK 0 6 = true then cI (F_X11_number_99 M1105 0 ((mA M1105 103 (0 : Int32).toNatClampNeg) - 1)) fun v1132 M1131 => cV (F_X11_says_99 M1131 0 v1132 0) fun M1133 => some (.inl none, M1133) else none)) else cV (F_X11_opens_99 M1101) fun M1137 => (if mI M1137 99 5 = 0 then cV (F_X11_skipWord_99 M1137) fun M1138 => cV (rc 2 M1138) fun M1139 => cV (F_X11_says_99 M1139 5 0 0) fun M1140 => some (.inl none, sI M1140 99 26 ((mI M1140 99 26) - 1)) else some (.inl none, M1137))) else some (.inl none, M))
set_option maxRecDepth 100000 in
theorem S_X11_one_99_232 {l : Launch} (hl : l.stackTraces = false) {rc : Nat → PM → Option PR} {gn : Nat} (hg : 5 ≤ gn) (hr0 : ∀ {M : PM}  {r : PR}, rc 0 M  = some r → PC l gn Y_X11_orRow [vR 99] M r) (hr1 : ∀ {M : PM}  {r : PR}, rc 1 M  = some r → PC l gn Y_X11_andRow [vR 99] M r) (hr2 : ∀ {M : PM}  {r : PR}, rc 2 M  = some r → PC l gn Y_X11_one [vR 99] M r) {M : PM} {x1 : Int32} {x2 : Int32} {t1 : Int32} {t2 : Int32} {r : PR} (h : F_X11_one_99_232 rc M x1 x2 t1 t2 = some r) : PW l (gn + 1) Y_X11_one k_X11_one_232 [vR 99, vI x1, vI x2] [vI t2, vI t1, vR 99] M r := by
  unfold F_X11_one_99_232 at h
  refine p_cI (av := [_, _]) ⟨mok_X11_both, Or.inr ⟨190, rfl, rfl, sta_X11_both, Or.inl lk_X11_190⟩⟩ (by omega) (Nat.le_of_ble_eq_true rfl) rfl (fun _ h => pc_X11_both hl h) h (fun v1098 M1097 h => ?_)
  refine p_putI fk_X11_233 gt_99 rfl ?_
  refine p_aload_n rfl ?_
  refine p_iconst cn_2 ?_
  refine p_iload_n rfl ?_
  refine p_iload_n rfl ?_
  refine p_cV (av := [_, _, _, _]) ⟨mok_X11_says, Or.inl ⟨220, 99, 11, 0, _, rfl, rfl, rfl, gt_99, rfl, ins_X11_says, Or.inl lk_X11_220⟩⟩ (by omega) (Nat.le_of_ble_eq_true rfl) rfl (fun _ h => pc_X11_says_99 hl h) h (fun M1099 h => ?_)
  refine p_goto 202 rfl rfl ?_
  exact p_ret rfl h
set_option maxRecDepth 100000 in
theorem S_X11_one_99 {l : Launch} (hl : l.stackTraces = false) {rc : Nat → PM → Option PR} {gn : Nat} (hg : 5 ≤ gn) (hr0 : ∀ {M : PM}  {r : PR}, rc 0 M  = some r → PC l gn Y_X11_orRow [vR 99] M r) (hr1 : ∀ {M : PM}  {r : PR}, rc 1 M  = some r → PC l gn Y_X11_andRow [vR 99] M r) (hr2 : ∀ {M : PM}  {r : PR}, rc 2 M  = some r → PC l gn Y_X11_one [vR 99] M r) {M : PM}  {r : PR} (h : F_X11_one_99 rc M  = some r) : PW l (gn + 1) Y_X11_one k_X11_one [vR 99, jk, jk] [] M r := by
  unfold F_X11_one_99 at h
  refine p_aload_n rfl ?_
  refine p_getI fk_X11_123 gt_99 rfl ?_
  refine p_if_eq h 4 rfl rfl (fun _ h => ?_) (fun _ h => ?_)
  · refine p_aload_n rfl ?_
    refine p_cV (av := [_]) ⟨mok_X11_blanks, Or.inl ⟨129, 99, 11, 0, _, rfl, rfl, rfl, gt_99, rfl, ins_X11_blanks, Or.inl lk_X11_129⟩⟩ (by omega) (Nat.le_of_ble_eq_true rfl) rfl (fun _ h => pc_X11_blanks_99 hl h) h (fun M1100 h => ?_)
    refine p_aload_n rfl ?_
    refine p_bipush cb_14 ?_
    refine p_bipush cb_15 ?_
    refine p_bipush cb_20 ?_
    refine p_iconst cn_0 ?_
    refine p_iconst cn_0 ?_
    refine p_cI (av := [_, _, _, _, _, _]) ⟨mok_X11_isWord, Or.inl ⟨153, 99, 11, 0, _, rfl, rfl, rfl, gt_99, rfl, ins_X11_isWord, Or.inl lk_X11_153⟩⟩ (by omega) (Nat.le_of_ble_eq_true rfl) rfl (fun _ h => pc_X11_isWord_99 hl h) h (fun v1102 M1101 h => ?_)
    refine p_if_eq h 36 rfl rfl (fun _ h => ?_) (fun _ h => ?_)
    · refine p_aload_n rfl ?_
      refine p_aload_n rfl ?_
      refine p_getI fk_X11_116 gt_99 rfl ?_
      refine p_cI (av := [_, _]) ⟨mok_X11_byteAt, Or.inl ⟨119, 99, 11, 0, _, rfl, rfl, rfl, gt_99, rfl, ins_X11_byteAt, Or.inl lk_X11_119⟩⟩ (by omega) (Nat.le_of_ble_eq_true rfl) rfl (fun _ h => pc_X11_byteAt_99 hl h) h (fun v1104 M1103 h => ?_)
      refine p_bipush cb_91 ?_
      refine p_icmp_ne h 66 rfl rfl (fun _ h => ?_) (fun _ h => ?_)
      · refine p_aload_n rfl ?_
        refine p_cV (av := [_]) ⟨mok_X11_opens, Or.inl ⟨227, 99, 11, 0, _, rfl, rfl, rfl, gt_99, rfl, ins_X11_opens, Or.inl lk_X11_227⟩⟩ (by omega) (Nat.le_of_ble_eq_true rfl) rfl (fun _ h => pc_X11_opens_99 hl h) h (fun M1134 h => ?_)
        refine p_aload_n rfl ?_
        refine p_getI fk_X11_123 gt_99 rfl ?_
        refine p_if_eq h 48 rfl rfl (fun _ h => ?_) (fun _ h => ?_)
        · refine p_aload_n rfl ?_
          refine p_dup rfl ?_
          refine p_getI fk_X11_116 gt_99 rfl ?_
          refine p_iconst cn_1 ?_
          refine p_iadd ?_
          refine p_putI fk_X11_116 gt_99 rfl ?_
          refine p_aload_n rfl ?_
          refine p_cV (av := [_]) ⟨mok_X11_orRow, Or.inl ⟨230, 99, 11, 0, _, rfl, rfl, rfl, gt_99, rfl, ins_X11_orRow, Or.inl lk_X11_230⟩⟩ (Nat.le_refl _) (Nat.le_of_ble_eq_true rfl) rfl (fun _ h => hr0 h) h (fun M1135 h => ?_)
          refine p_aload_n rfl ?_
          refine p_bipush cb_93 ?_
          refine p_cV (av := [_, _]) ⟨mok_X11_sign, Or.inl ⟨177, 99, 11, 0, _, rfl, rfl, rfl, gt_99, rfl, ins_X11_sign, Or.inl lk_X11_177⟩⟩ (by omega) (Nat.le_of_ble_eq_true rfl) rfl (fun _ h => pc_X11_sign_99 hl h) h (fun M1136 h => ?_)
          refine p_aload_n rfl ?_
          refine p_dup rfl ?_
          refine p_getI fk_X11_211 gt_99 rfl ?_
          refine p_iconst cn_1 ?_
          refine p_isub ?_
          refine p_putI fk_X11_211 gt_99 rfl ?_
          exact p_ret rfl h
        · exact p_ret rfl h
      · refine p_aload_n rfl ?_
        refine p_bipush cb_12 ?_
        refine p_iconst cn_1 ?_
        refine p_bipush cb_23 ?_
        refine p_iconst cn_0 ?_
        refine p_iconst cn_0 ?_
        refine p_cI (av := [_, _, _, _, _, _]) ⟨mok_X11_takes, Or.inl ⟨217, 99, 11, 0, _, rfl, rfl, rfl, gt_99, rfl, ins_X11_takes, Or.inl lk_X11_217⟩⟩ (by omega) (Nat.le_of_ble_eq_true rfl) rfl (fun _ h => pc_X11_takes_99 hl h) h (fun v1106 M1105 h => ?_)
        refine p_if_eq h 88 rfl rfl (fun _ h => ?_) (fun _ h => ?_)
        · refine p_aload_n rfl ?_
          refine p_bipush cb_13 ?_
          refine p_iconst cn_1 ?_
          refine p_bipush cb_14 ?_
          refine p_bipush cb_25 ?_
          refine p_iconst cn_0 ?_
          refine p_cI (av := [_, _, _, _, _, _]) ⟨mok_X11_takes, Or.inl ⟨217, 99, 11, 0, _, rfl, rfl, rfl, gt_99, rfl, ins_X11_takes, Or.inl lk_X11_217⟩⟩ (by omega) (Nat.le_of_ble_eq_true rfl) rfl (fun _ h => pc_X11_takes_99 hl h) h (fun v1108 M1107 h => ?_)
          refine p_if_eq h 105 rfl rfl (fun _ h => ?_) (fun _ h => ?_)
          · refine p_aload_n rfl ?_
            refine p_iconst cn_4 ?_
            refine p_iconst cn_1 ?_
            refine p_bipush cb_25 ?_
            refine p_iconst cn_0 ?_
            refine p_iconst cn_0 ?_
            refine p_cI (av := [_, _, _, _, _, _]) ⟨mok_X11_takes, Or.inl ⟨217, 99, 11, 0, _, rfl, rfl, rfl, gt_99, rfl, ins_X11_takes, Or.inl lk_X11_217⟩⟩ (by omega) (Nat.le_of_ble_eq_true rfl) rfl (fun _ h => pc_X11_takes_99 hl h) h (fun v1110 M1109 h => ?_)
            refine p_if_eq h 141 rfl rfl (fun _ h => ?_) (fun _ h => ?_)
            · refine p_aload_n rfl ?_
              refine p_bipush cb_8 ?_
              refine p_bipush cb_15 ?_
              refine p_bipush cb_21 ?_
              refine p_bipush cb_19 ?_
              refine p_iconst cn_5 ?_
              refine p_cI (av := [_, _, _, _, _, _]) ⟨mok_X11_takes, Or.inl ⟨217, 99, 11, 0, _, rfl, rfl, rfl, gt_99, rfl, ins_X11_takes, Or.inl lk_X11_217⟩⟩ (by omega) (Nat.le_of_ble_eq_true rfl) rfl (fun _ h => pc_X11_takes_99 hl h) h (fun v1112 M1111 h => ?_)
              refine p_if_eq h 175 rfl rfl (fun _ h => ?_) (fun _ h => ?_)
              · refine p_aload_n rfl ?_
                refine p_bipush cb_20 ?_
                refine p_bipush cb_15 ?_
                refine p_bipush cb_23 ?_
                refine p_bipush cb_14 ?_
                refine p_iconst cn_0 ?_
                refine p_cI (av := [_, _, _, _, _, _]) ⟨mok_X11_takes, Or.inl ⟨217, 99, 11, 0, _, rfl, rfl, rfl, gt_99, rfl, ins_X11_takes, Or.inl lk_X11_217⟩⟩ (by omega) (Nat.le_of_ble_eq_true rfl) rfl (fun _ h => pc_X11_takes_99 hl h) h (fun v1114 M1113 h => ?_)
                refine p_if_eq h 197 rfl rfl (fun _ h => ?_) (fun _ h => ?_)
                · refine p_aload_n rfl ?_
                  refine p_iconst cn_1 ?_
                  refine p_aload_n rfl ?_
                  refine p_getI fk_X11_116 gt_99 rfl ?_
                  refine p_cV (av := [_, _, _]) ⟨mok_X11_wrong, Or.inl ⟨136, 99, 11, 0, _, rfl, rfl, rfl, gt_99, rfl, ins_X11_wrong, Or.inl lk_X11_136⟩⟩ (by omega) (Nat.le_of_ble_eq_true rfl) rfl (fun _ h => pc_X11_wrong_99 hl h) h (fun M1115 h => ?_)
                  exact p_ret rfl h
                · refine p_aload_n rfl ?_
                  refine p_iconst cn_4 ?_
                  refine p_aload_n rfl ?_
                  refine p_iconst cn_0 ?_
                  refine p_aload_n rfl ?_
                  refine p_getR fk_X11_23 gt_99 rfl rfl ?_
                  refine p_iconst cn_1 ?_
                  refine p_iald gt_103 h (fun h => ?_)
                  refine p_iconst cn_1 ?_
                  refine p_isub ?_
                  refine p_cI (av := [_, _, _]) ⟨mok_X11_number, Or.inl ⟨169, 99, 11, 0, _, rfl, rfl, rfl, gt_99, rfl, ins_X11_number, Or.inl lk_X11_169⟩⟩ (by omega) (Nat.le_of_ble_eq_true rfl) rfl (fun _ h => pc_X11_number_99 hl h) h (fun v1117 M1116 h => ?_)
                  refine p_iconst cn_0 ?_
                  refine p_cV (av := [_, _, _, _]) ⟨mok_X11_says, Or.inl ⟨220, 99, 11, 0, _, rfl, rfl, rfl, gt_99, rfl, ins_X11_says, Or.inl lk_X11_220⟩⟩ (by omega) (Nat.le_of_ble_eq_true rfl) rfl (fun _ h => pc_X11_says_99 hl h) h (fun M1118 h => ?_)
                  refine p_goto 202 rfl rfl ?_
                  exact p_ret rfl h
              · refine p_aload_n rfl ?_
                refine p_iconst cn_0 ?_
                refine p_aload_n rfl ?_
                refine p_getR fk_X11_23 gt_99 rfl rfl ?_
                refine p_iconst cn_2 ?_
                refine p_iald gt_103 h (fun h => ?_)
                refine p_iconst cn_1 ?_
                refine p_isub ?_
                refine p_cI (av := [_, _, _]) ⟨mok_X11_number, Or.inl ⟨169, 99, 11, 0, _, rfl, rfl, rfl, gt_99, rfl, ins_X11_number, Or.inl lk_X11_169⟩⟩ (by omega) (Nat.le_of_ble_eq_true rfl) rfl (fun _ h => pc_X11_number_99 hl h) h (fun v1120 M1119 h => ?_)
                refine p_istore_n (Nat.le_of_ble_eq_true rfl) rfl ?_
                refine p_aload_n rfl ?_
                refine p_iconst cn_0 ?_
                refine p_aload_n rfl ?_
                refine p_getR fk_X11_23 gt_99 rfl rfl ?_
                refine p_iconst cn_0 ?_
                refine p_iald gt_103 h (fun h => ?_)
                refine p_iconst cn_1 ?_
                refine p_isub ?_
                refine p_cI (av := [_, _, _]) ⟨mok_X11_number, Or.inl ⟨169, 99, 11, 0, _, rfl, rfl, rfl, gt_99, rfl, ins_X11_number, Or.inl lk_X11_169⟩⟩ (by omega) (Nat.le_of_ble_eq_true rfl) rfl (fun _ h => pc_X11_number_99 hl h) h (fun v1122 M1121 h => ?_)
                refine p_istore_n (Nat.le_of_ble_eq_true rfl) rfl ?_
                refine p_aload_n rfl ?_
                refine p_iconst cn_3 ?_
                refine p_iload_n rfl ?_
                refine p_iload_n rfl ?_
                refine p_cV (av := [_, _, _, _]) ⟨mok_X11_says, Or.inl ⟨220, 99, 11, 0, _, rfl, rfl, rfl, gt_99, rfl, ins_X11_says, Or.inl lk_X11_220⟩⟩ (by omega) (Nat.le_of_ble_eq_true rfl) rfl (fun _ h => pc_X11_says_99 hl h) h (fun M1123 h => ?_)
                refine p_goto 202 rfl rfl ?_
                exact p_ret rfl h
            · refine p_aload_n rfl ?_
              refine p_iconst cn_2 ?_
              refine p_bipush cb_99 ?_
              refine p_cI (av := [_, _, _]) ⟨mok_X11_number, Or.inl ⟨169, 99, 11, 0, _, rfl, rfl, rfl, gt_99, rfl, ins_X11_number, Or.inl lk_X11_169⟩⟩ (by omega) (Nat.le_of_ble_eq_true rfl) rfl (fun _ h => pc_X11_number_99 hl h) h (fun v1125 M1124 h => ?_)
              refine p_istore_n (Nat.le_of_ble_eq_true rfl) rfl ?_
              refine p_aload_n rfl ?_
              refine p_iconst cn_0 ?_
              refine p_iload_n rfl ?_
              refine p_iconst cn_1 ?_
              refine p_isub ?_
              refine p_cI (av := [_, _, _]) ⟨mok_X11_number, Or.inl ⟨169, 99, 11, 0, _, rfl, rfl, rfl, gt_99, rfl, ins_X11_number, Or.inl lk_X11_169⟩⟩ (by omega) (Nat.le_of_ble_eq_true rfl) rfl (fun _ h => pc_X11_number_99 hl h) h (fun v1127 M1126 h => ?_)
              refine p_istore_n (Nat.le_of_ble_eq_true rfl) rfl ?_
              refine p_aload_n rfl ?_
              refine p_aload_n rfl ?_
              refine p_getI fk_X11_233 gt_99 rfl ?_
              refine p_iload_n rfl ?_
              refine p_if_ne h 132 rfl rfl (fun _ h => ?_) (fun _ h => ?_)
              · refine p_iconst cn_1 ?_
                refine p_goto 133 rfl rfl ?_
                exact p_fg (S_X11_one_99_232 hl hg hr0 hr1 hr2 h) ⟨Or.inr rfl, Or.inr rfl, Or.inr rfl, trivial⟩
              · refine p_iload_n rfl ?_
                exact p_fg (S_X11_one_99_232 hl hg hr0 hr1 hr2 h) ⟨Or.inr rfl, Or.inr rfl, Or.inr rfl, trivial⟩
          · refine p_aload_n rfl ?_
            refine p_iconst cn_1 ?_
            refine p_aload_n rfl ?_
            refine p_iconst cn_0 ?_
            refine p_bipush cb_12 ?_
            refine p_cI (av := [_, _, _]) ⟨mok_X11_number, Or.inl ⟨169, 99, 11, 0, _, rfl, rfl, rfl, gt_99, rfl, ins_X11_number, Or.inl lk_X11_169⟩⟩ (by omega) (Nat.le_of_ble_eq_true rfl) rfl (fun _ h => pc_X11_number_99 hl h) h (fun v1129 M1128 h => ?_)
            refine p_iconst cn_0 ?_
            refine p_cV (av := [_, _, _, _]) ⟨mok_X11_says, Or.inl ⟨220, 99, 11, 0, _, rfl, rfl, rfl, gt_99, rfl, ins_X11_says, Or.inl lk_X11_220⟩⟩ (by omega) (Nat.le_of_ble_eq_true rfl) rfl (fun _ h => pc_X11_says_99 hl h) h (fun M1130 h => ?_)
            refine p_goto 202 rfl rfl ?_
            exact p_ret rfl h
        · refine p_aload_n rfl ?_
          refine p_iconst cn_0 ?_
          refine p_aload_n rfl ?_
          refine p_iconst cn_0 ?_
          refine p_aload_n rfl ?_
          refine p_getR fk_X11_23 gt_99 rfl rfl ?_
          refine p_iconst cn_0 ?_
          refine p_iald gt_103 h (fun h => ?_)
          refine p_iconst cn_1 ?_
          refine p_isub ?_
          refine p_cI (av := [_, _, _]) ⟨mok_X11_number, Or.inl ⟨169, 99, 11, 0, _, rfl, rfl, rfl, gt_99, rfl, ins_X11_number, Or.inl lk_X11_169⟩⟩ (by omega) (Nat.le_of_ble_eq_true rfl) rfl (fun _ h => pc_X11_number_99 hl h) h (fun v1132 M1131 h => ?_)
          refine p_iconst cn_0 ?_
          refine p_cV (av := [_, _, _, _]) ⟨mok_X11_says, Or.inl ⟨220, 99, 11, 0, _, rfl, rfl, rfl, gt_99, rfl, ins_X11_says, Or.inl lk_X11_220⟩⟩ (by omega) (Nat.le_of_ble_eq_true rfl) rfl (fun _ h => pc_X11_says_99 hl h) h (fun M1133 h => ?_)
          refine p_goto 202 rfl rfl ?_
          exact p_ret rfl h
    · refine p_aload_n rfl ?_
      refine p_cV (av := [_]) ⟨mok_X11_opens, Or.inl ⟨227, 99, 11, 0, _, rfl, rfl, rfl, gt_99, rfl, ins_X11_opens, Or.inl lk_X11_227⟩⟩ (by omega) (Nat.le_of_ble_eq_true rfl) rfl (fun _ h => pc_X11_opens_99 hl h) h (fun M1137 h => ?_)
      refine p_aload_n rfl ?_
      refine p_getI fk_X11_123 gt_99 rfl ?_
      refine p_if_eq h 20 rfl rfl (fun _ h => ?_) (fun _ h => ?_)
      · refine p_aload_n rfl ?_
        refine p_cV (av := [_]) ⟨mok_X11_skipWord, Or.inl ⟨157, 99, 11, 0, _, rfl, rfl, rfl, gt_99, rfl, ins_X11_skipWord, Or.inl lk_X11_157⟩⟩ (by omega) (Nat.le_of_ble_eq_true rfl) rfl (fun _ h => pc_X11_skipWord_99 hl h) h (fun M1138 h => ?_)
        refine p_aload_n rfl ?_
        refine p_cV (av := [_]) ⟨mok_X11_one, Or.inl ⟨224, 99, 11, 0, _, rfl, rfl, rfl, gt_99, rfl, ins_X11_one, Or.inl lk_X11_224⟩⟩ (Nat.le_refl _) (Nat.le_of_ble_eq_true rfl) rfl (fun _ h => hr2 h) h (fun M1139 h => ?_)
        refine p_aload_n rfl ?_
        refine p_iconst cn_5 ?_
        refine p_iconst cn_0 ?_
        refine p_iconst cn_0 ?_
        refine p_cV (av := [_, _, _, _]) ⟨mok_X11_says, Or.inl ⟨220, 99, 11, 0, _, rfl, rfl, rfl, gt_99, rfl, ins_X11_says, Or.inl lk_X11_220⟩⟩ (by omega) (Nat.le_of_ble_eq_true rfl) rfl (fun _ h => pc_X11_says_99 hl h) h (fun M1140 h => ?_)
        refine p_aload_n rfl ?_
        refine p_dup rfl ?_
        refine p_getI fk_X11_211 gt_99 rfl ?_
        refine p_iconst cn_1 ?_
        refine p_isub ?_
        refine p_putI fk_X11_211 gt_99 rfl ?_
        exact p_ret rfl h
      · exact p_ret rfl h
  · exact p_ret rfl h
set_option maxRecDepth 100000 in
theorem pc_X11_one_99 {l : Launch} (hl : l.stackTraces = false) {rc : Nat → PM → Option PR} {gn : Nat} (hg : 5 ≤ gn) (hr0 : ∀ {M : PM}  {r : PR}, rc 0 M  = some r → PC l gn Y_X11_orRow [vR 99] M r) (hr1 : ∀ {M : PM}  {r : PR}, rc 1 M  = some r → PC l gn Y_X11_andRow [vR 99] M r) (hr2 : ∀ {M : PM}  {r : PR}, rc 2 M  = some r → PC l gn Y_X11_one [vR 99] M r) {M : PM}  {r : PR} (h : F_X11_one_99 rc M  = some r) : PC l (gn + 1) Y_X11_one [vR 99] M r := pc_of hl (by decide +kernel) cok_X11_one (Nat.le_of_ble_eq_true rfl) rfl (S_X11_one_99 hl hg hr0 hr1 hr2 h) rfl
def F_X11_andRow_99_4 (rc : Nat → PM → Option PR) : Nat → PM → Option PR
  | 0, _ => none
  | n + 1, M => cI (F_X11_takes_99 M 1 14 4 0 0) fun v1142 M1141 => (if v1142 = 0 then some (.inl none, M1141) else cV (rc 2 M1141) fun M1143 => cV (F_X11_says_99 M1143 6 0 0) fun M1144 => F_X11_andRow_99_4 rc n M1144)
def F_X11_andRow_99 (rc : Nat → PM → Option PR) (M : PM)  : Option PR := cV (rc 2 M) fun M1145 => F_X11_andRow_99_4 rc FUEL M1145
set_option maxRecDepth 100000 in
theorem S_X11_andRow_99_4 {l : Launch} (hl : l.stackTraces = false) {rc : Nat → PM → Option PR} {gn : Nat} (hg : 5 ≤ gn) (hr0 : ∀ {M : PM}  {r : PR}, rc 0 M  = some r → PC l gn Y_X11_orRow [vR 99] M r) (hr1 : ∀ {M : PM}  {r : PR}, rc 1 M  = some r → PC l gn Y_X11_andRow [vR 99] M r) (hr2 : ∀ {M : PM}  {r : PR}, rc 2 M  = some r → PC l gn Y_X11_one [vR 99] M r) : ∀ (n : Nat) {M : PM}  {r : PR}, F_X11_andRow_99_4 rc n M  = some r → PW l (gn + 1) Y_X11_andRow k_X11_andRow_4 [vR 99] [] M r := by
  intro n
  induction n with
  | zero => intro M  r h; exact nomatch (show (none : Option PR) = some r from h)
  | succ n ih =>
    intro M  r h
    rw [F_X11_andRow_99_4] at h
    refine p_aload_n rfl ?_
    refine p_iconst cn_1 ?_
    refine p_bipush cb_14 ?_
    refine p_iconst cn_4 ?_
    refine p_iconst cn_0 ?_
    refine p_iconst cn_0 ?_
    refine p_cI (av := [_, _, _, _, _, _]) ⟨mok_X11_takes, Or.inl ⟨217, 99, 11, 0, _, rfl, rfl, rfl, gt_99, rfl, ins_X11_takes, Or.inl lk_X11_217⟩⟩ (by omega) (Nat.le_of_ble_eq_true rfl) rfl (fun _ h => pc_X11_takes_99 hl h) h (fun v1142 M1141 h => ?_)
    refine p_if_eq h 18 rfl rfl (fun _ h => ?_) (fun _ h => ?_)
    · exact p_ret rfl h
    · refine p_aload_n rfl ?_
      refine p_cV (av := [_]) ⟨mok_X11_one, Or.inl ⟨224, 99, 11, 0, _, rfl, rfl, rfl, gt_99, rfl, ins_X11_one, Or.inl lk_X11_224⟩⟩ (Nat.le_refl _) (Nat.le_of_ble_eq_true rfl) rfl (fun _ h => hr2 h) h (fun M1143 h => ?_)
      refine p_aload_n rfl ?_
      refine p_bipush cb_6 ?_
      refine p_iconst cn_0 ?_
      refine p_iconst cn_0 ?_
      refine p_cV (av := [_, _, _, _]) ⟨mok_X11_says, Or.inl ⟨220, 99, 11, 0, _, rfl, rfl, rfl, gt_99, rfl, ins_X11_says, Or.inl lk_X11_220⟩⟩ (by omega) (Nat.le_of_ble_eq_true rfl) rfl (fun _ h => pc_X11_says_99 hl h) h (fun M1144 h => ?_)
      refine p_goto 2 rfl rfl ?_
      exact p_fg (ih h) ⟨Or.inr rfl, trivial⟩
set_option maxRecDepth 100000 in
theorem S_X11_andRow_99 {l : Launch} (hl : l.stackTraces = false) {rc : Nat → PM → Option PR} {gn : Nat} (hg : 5 ≤ gn) (hr0 : ∀ {M : PM}  {r : PR}, rc 0 M  = some r → PC l gn Y_X11_orRow [vR 99] M r) (hr1 : ∀ {M : PM}  {r : PR}, rc 1 M  = some r → PC l gn Y_X11_andRow [vR 99] M r) (hr2 : ∀ {M : PM}  {r : PR}, rc 2 M  = some r → PC l gn Y_X11_one [vR 99] M r) {M : PM}  {r : PR} (h : F_X11_andRow_99 rc M  = some r) : PW l (gn + 1) Y_X11_andRow k_X11_andRow [vR 99] [] M r := by
  unfold F_X11_andRow_99 at h
  refine p_aload_n rfl ?_
  refine p_cV (av := [_]) ⟨mok_X11_one, Or.inl ⟨224, 99, 11, 0, _, rfl, rfl, rfl, gt_99, rfl, ins_X11_one, Or.inl lk_X11_224⟩⟩ (Nat.le_refl _) (Nat.le_of_ble_eq_true rfl) rfl (fun _ h => hr2 h) h (fun M1145 h => ?_)
  exact p_fg (S_X11_andRow_99_4 hl hg hr0 hr1 hr2 FUEL h) ⟨Or.inr rfl, trivial⟩
set_option maxRecDepth 100000 in
theorem pc_X11_andRow_99 {l : Launch} (hl : l.stackTraces = false) {rc : Nat → PM → Option PR} {gn : Nat} (hg : 5 ≤ gn) (hr0 : ∀ {M : PM}  {r : PR}, rc 0 M  = some r → PC l gn Y_X11_orRow [vR 99] M r) (hr1 : ∀ {M : PM}  {r : PR}, rc 1 M  = some r → PC l gn Y_X11_andRow [vR 99] M r) (hr2 : ∀ {M : PM}  {r : PR}, rc 2 M  = some r → PC l gn Y_X11_one [vR 99] M r) {M : PM}  {r : PR} (h : F_X11_andRow_99 rc M  = some r) : PC l (gn + 1) Y_X11_andRow [vR 99] M r := pc_of hl (by decide +kernel) cok_X11_andRow (Nat.le_of_ble_eq_true rfl) rfl (S_X11_andRow_99 hl hg hr0 hr1 hr2 h) rfl
def F_X11_orRow_99_4 (rc : Nat → PM → Option PR) : Nat → PM → Option PR
  | 0, _ => none
  | n + 1, M => cI (F_X11_takes_99 M 15 18 0 0 0) fun v1147 M1146 => (if v1147 = 0 then some (.inl none, M1146) else cV (rc 1 M1146) fun M1148 => cV (F_X11_says_99 M1148 7 0 0) fun M1149 => F_X11_orRow_99_4 rc n M1149)
def F_X11_orRow_99 (rc : Nat → PM → Option PR) (M : PM)  : Option PR := cV (rc 1 M) fun M1150 => F_X11_orRow_99_4 rc FUEL M1150
set_option maxRecDepth 100000 in
theorem S_X11_orRow_99_4 {l : Launch} (hl : l.stackTraces = false) {rc : Nat → PM → Option PR} {gn : Nat} (hg : 5 ≤ gn) (hr0 : ∀ {M : PM}  {r : PR}, rc 0 M  = some r → PC l gn Y_X11_orRow [vR 99] M r) (hr1 : ∀ {M : PM}  {r : PR}, rc 1 M  = some r → PC l gn Y_X11_andRow [vR 99] M r) (hr2 : ∀ {M : PM}  {r : PR}, rc 2 M  = some r → PC l gn Y_X11_one [vR 99] M r) : ∀ (n : Nat) {M : PM}  {r : PR}, F_X11_orRow_99_4 rc n M  = some r → PW l (gn + 1) Y_X11_orRow k_X11_orRow_4 [vR 99] [] M r := by
  intro n
  induction n with
  | zero => intro M  r h; exact nomatch (show (none : Option PR) = some r from h)
  | succ n ih =>
    intro M  r h
    rw [F_X11_orRow_99_4] at h
    refine p_aload_n rfl ?_
    refine p_bipush cb_15 ?_
    refine p_bipush cb_18 ?_
    refine p_iconst cn_0 ?_
    refine p_iconst cn_0 ?_
    refine p_iconst cn_0 ?_
    refine p_cI (av := [_, _, _, _, _, _]) ⟨mok_X11_takes, Or.inl ⟨217, 99, 11, 0, _, rfl, rfl, rfl, gt_99, rfl, ins_X11_takes, Or.inl lk_X11_217⟩⟩ (by omega) (Nat.le_of_ble_eq_true rfl) rfl (fun _ h => pc_X11_takes_99 hl h) h (fun v1147 M1146 h => ?_)
    refine p_if_eq h 18 rfl rfl (fun _ h => ?_) (fun _ h => ?_)
    · exact p_ret rfl h
    · refine p_aload_n rfl ?_
      refine p_cV (av := [_]) ⟨mok_X11_andRow, Or.inl ⟨214, 99, 11, 0, _, rfl, rfl, rfl, gt_99, rfl, ins_X11_andRow, Or.inl lk_X11_214⟩⟩ (Nat.le_refl _) (Nat.le_of_ble_eq_true rfl) rfl (fun _ h => hr1 h) h (fun M1148 h => ?_)
      refine p_aload_n rfl ?_
      refine p_bipush cb_7 ?_
      refine p_iconst cn_0 ?_
      refine p_iconst cn_0 ?_
      refine p_cV (av := [_, _, _, _]) ⟨mok_X11_says, Or.inl ⟨220, 99, 11, 0, _, rfl, rfl, rfl, gt_99, rfl, ins_X11_says, Or.inl lk_X11_220⟩⟩ (by omega) (Nat.le_of_ble_eq_true rfl) rfl (fun _ h => pc_X11_says_99 hl h) h (fun M1149 h => ?_)
      refine p_goto 2 rfl rfl ?_
      exact p_fg (ih h) ⟨Or.inr rfl, trivial⟩
set_option maxRecDepth 100000 in
theorem S_X11_orRow_99 {l : Launch} (hl : l.stackTraces = false) {rc : Nat → PM → Option PR} {gn : Nat} (hg : 5 ≤ gn) (hr0 : ∀ {M : PM}  {r : PR}, rc 0 M  = some r → PC l gn Y_X11_orRow [vR 99] M r) (hr1 : ∀ {M : PM}  {r : PR}, rc 1 M  = some r → PC l gn Y_X11_andRow [vR 99] M r) (hr2 : ∀ {M : PM}  {r : PR}, rc 2 M  = some r → PC l gn Y_X11_one [vR 99] M r) {M : PM}  {r : PR} (h : F_X11_orRow_99 rc M  = some r) : PW l (gn + 1) Y_X11_orRow k_X11_orRow [vR 99] [] M r := by
  unfold F_X11_orRow_99 at h
  refine p_aload_n rfl ?_
  refine p_cV (av := [_]) ⟨mok_X11_andRow, Or.inl ⟨214, 99, 11, 0, _, rfl, rfl, rfl, gt_99, rfl, ins_X11_andRow, Or.inl lk_X11_214⟩⟩ (Nat.le_refl _) (Nat.le_of_ble_eq_true rfl) rfl (fun _ h => hr1 h) h (fun M1150 h => ?_)
  exact p_fg (S_X11_orRow_99_4 hl hg hr0 hr1 hr2 FUEL h) ⟨Or.inr rfl, trivial⟩
set_option maxRecDepth 100000 in
theorem pc_X11_orRow_99 {l : Launch} (hl : l.stackTraces = false) {rc : Nat → PM → Option PR} {gn : Nat} (hg : 5 ≤ gn) (hr0 : ∀ {M : PM}  {r : PR}, rc 0 M  = some r → PC l gn Y_X11_orRow [vR 99] M r) (hr1 : ∀ {M : PM}  {r : PR}, rc 1 M  = some r → PC l gn Y_X11_andRow [vR 99] M r) (hr2 : ∀ {M : PM}  {r : PR}, rc 2 M  = some r → PC l gn Y_X11_one [vR 99] M r) {M : PM}  {r : PR} (h : F_X11_orRow_99 rc M  = some r) : PC l (gn + 1) Y_X11_orRow [vR 99] M r := pc_of hl (by decide +kernel) cok_X11_orRow (Nat.le_of_ble_eq_true rfl) rfl (S_X11_orRow_99 hl hg hr0 hr1 hr2 h) rfl
def G_orow : Nat → Nat → PM → Option PR
  | 0, _, _ => none
  | n + 1, 0, M => F_X11_orRow_99 (G_orow n) M 
  | n + 1, 1, M => F_X11_andRow_99 (G_orow n) M 
  | n + 1, 2, M => F_X11_one_99 (G_orow n) M 
  | _ + 1, _, _ => none
set_option maxRecDepth 100000 in
theorem pcG_orow {l : Launch} (hl : l.stackTraces = false) : ∀ n : Nat, (∀ {M : PM}  {r : PR}, G_orow n 0 M  = some r → PC l (5 + n) Y_X11_orRow [vR 99] M r) ∧ (∀ {M : PM}  {r : PR}, G_orow n 1 M  = some r → PC l (5 + n) Y_X11_andRow [vR 99] M r) ∧ (∀ {M : PM}  {r : PR}, G_orow n 2 M  = some r → PC l (5 + n) Y_X11_one [vR 99] M r) := by
  intro n
  induction n with
  | zero => exact ⟨(by intros; rename_i h; exact nomatch (show (none : Option PR) = some _ from h)), (by intros; rename_i h; exact nomatch (show (none : Option PR) = some _ from h)), (by intros; rename_i h; exact nomatch (show (none : Option PR) = some _ from h))⟩
  | succ n ih =>
    obtain ⟨i0, i1, i2⟩ := ih
    exact ⟨(by intros; rename_i h; exact pc_X11_orRow_99 hl (rc := G_orow n) (gn := 5 + n) (Nat.le_add_right _ _) (fun h => i0 h) (fun h => i1 h) (fun h => i2 h) h), (by intros; rename_i h; exact pc_X11_andRow_99 hl (rc := G_orow n) (gn := 5 + n) (Nat.le_add_right _ _) (fun h => i0 h) (fun h => i1 h) (fun h => i2 h) h), (by intros; rename_i h; exact pc_X11_one_99 hl (rc := G_orow n) (gn := 5 + n) (Nat.le_add_right _ _) (fun h => i0 h) (fun h => i1 h) (fun h => i2 h) h)⟩
set_option maxRecDepth 100000 in
theorem pcg_orow_0 {l : Launch} (hl : l.stackTraces = false) {M : PM}  {r : PR} (h : G_orow 60 0 M  = some r) : PC l 65 Y_X11_orRow [vR 99] M r := (pcG_orow hl 60).1 h
set_option maxRecDepth 100000 in
theorem pcg_orow_1 {l : Launch} (hl : l.stackTraces = false) {M : PM}  {r : PR} (h : G_orow 60 1 M  = some r) : PC l 65 Y_X11_andRow [vR 99] M r := (pcG_orow hl 60).2.1 h
set_option maxRecDepth 100000 in
theorem pcg_orow_2 {l : Launch} (hl : l.stackTraces = false) {M : PM}  {r : PR} (h : G_orow 60 2 M  = some r) : PC l 65 Y_X11_one [vR 99] M r := (pcG_orow hl 60).2.2 h
def F_X11_wish_99_176 (k166 : PM → Int32 → Option PR) : Nat → PM → Int32 → Int32 → Option PR
  | 0, _, _, _ => none
  | n + 1, M, x2, x3 => (if 3 ≤ x3 then lt (x2 + 1) fun y1151 => k166 M y1151 else if ixOK x2 220 = true then if ixOK x2 220 = true then if x2.toNatClampNeg < 220 ∧ ixOK x3 3 = true then if x2.toNatClampNeg < 220 ∧ ixOK x3 3 = true then lt (x3 + 1) fun y1152 => F_X11_wish_99_176 k166 n (sG M 116 x2.toNatClampNeg x3.toNatClampNeg (mG M 117 x2.toNatClampNeg x3.toNatClampNeg)) x2 y1152 else none else none else none else none)
def F_X11_wish_99_166 : Nat → PM → Int32 → Option PR
  | 0, _, _ => none
  | n + 1, M, x2 => (if mI M 99 24 ≤ x2 then some (.inl (some (.int 1)), M) else F_X11_wish_99_176 (F_X11_wish_99_166 n) FUEL M x2 0)
def F_X11_wish_99_125 (M : PM)  : Option PR := (if mI (sI M 99 3 (mI M 99 6)) 99 5 = 0 then F_X11_wish_99_166 FUEL (sI (sI (sI M 99 3 (mI M 99 6)) 99 24 (mI (sI M 99 3 (mI M 99 6)) 99 25)) 99 27 (mI (sI (sI M 99 3 (mI M 99 6)) 99 24 (mI (sI M 99 3 (mI M 99 6)) 99 25)) 99 28)) 0 else some (.inl (some (.int ((mI (sI M 99 3 (mI M 99 6)) 99 5) - 10))), sI M 99 3 (mI M 99 6)))
def F_X11_wish_99_100 (M : PM)  : Option PR := (if mI M 99 5 = 0 then (if mI M 99 28 ≤ 100000 then F_X11_wish_99_125 M else cV (F_X11_wrong_99 M 4 (mI M 99 2)) fun M1153 => F_X11_wish_99_125 M1153) else F_X11_wish_99_125 M)
def F_X11_wish_99_30 (M : PM) (x1 : Int32) (t1 : Int32) : Option PR := cI (F_X11_bad_99 M t1 1 2) fun v1155 M1154 => (if v1155 = 0 then cV (F_X11_starts_99 M1154 x1) fun M1156 => if ixOK 5 6 = true then cV (G_orow 60 0 (sI (sI (sI M1156 99 25 0) 99 28 (mA (sI M1156 99 25 0) 103 (5 : Int32).toNatClampNeg)) 99 26 0)) fun M1157 => cV (F_X11_blanks_99 M1157) fun M1158 => (if mI M1158 99 5 = 0 then (if mI M1158 99 2 ≤ mI M1158 99 4 then F_X11_wish_99_100 M1158 else cV (F_X11_wrong_99 M1158 1 (mI M1158 99 4)) fun M1159 => F_X11_wish_99_100 M1159) else F_X11_wish_99_100 M1158) else none else some (.inl (some (.int 0)), M1154))
def F_X11_wish_99_25 (M : PM) (x1 : Int32) : Option PR := F_X11_wish_99_30 M x1 1
def F_X11_wish_99 (M : PM) (a1 : Int32) : Option PR := cI (F_X11_in (sI M 99 0 0) a1 0 (mI (sI M 99 0 0) 99 1)) fun v1161 M1160 => (if v1161 = 0 then F_X11_wish_99_25 M1160 a1 else (if a1 ≤ 200 then F_X11_wish_99_30 M1160 a1 0 else F_X11_wish_99_25 M1160 a1))
set_option maxRecDepth 100000 in
theorem S_X11_wish_99_176 {l : Launch} (hl : l.stackTraces = false) {k166 : PM → Int32 → Option PR} (hk166 : ∀ {M : PM} {x2 : Int32} {r : PR}, k166 M x2 = some r → PW l 66 Y_X11_wish k_X11_wish_166 [vR 99, jk, vI x2, jk] [] M r) : ∀ (n : Nat) {M : PM} {x2 : Int32} {x3 : Int32} {r : PR}, F_X11_wish_99_176 k166 n M x2 x3 = some r → PW l 66 Y_X11_wish k_X11_wish_176 [vR 99, jk, vI x2, vI x3] [] M r := by
  intro n
  induction n with
  | zero => intro M x2 x3 r h; exact nomatch (show (none : Option PR) = some r from h)
  | succ n ih =>
    intro M x2 x3 r h
    rw [F_X11_wish_99_176] at h
    refine p_iload_n rfl ?_
    refine p_iconst cn_3 ?_
    refine p_icmp_ge h 111 rfl rfl (fun _ h => ?_) (fun _ h => ?_)
    · have h := lt_h h
      refine p_iinc (Nat.le_of_ble_eq_true rfl) rfl (ci_1 _) rfl ?_
      refine p_goto 88 rfl rfl ?_
      exact p_fg (hk166 h) ⟨Or.inr rfl, Or.inl rfl, Or.inr rfl, Or.inl rfl, trivial⟩
    · refine p_aload_n rfl ?_
      refine p_getR fk_X11_64 gt_99 rfl rfl ?_
      refine p_iload_n rfl ?_
      refine p_aldG gt_116 h (fun h => ?_)
      refine p_iload_n rfl ?_
      refine p_aload_n rfl ?_
      refine p_getR fk_X11_67 gt_99 rfl rfl ?_
      refine p_iload_n rfl ?_
      refine p_aldG gt_117 h (fun h => ?_)
      refine p_iload_n rfl ?_
      refine p_ialdG gt_117 h (fun h => ?_)
      refine p_iastG gt_116 h (fun h => ?_)
      have h := lt_h h
      refine p_iinc (Nat.le_of_ble_eq_true rfl) rfl (ci_1 _) rfl ?_
      refine p_goto 94 rfl rfl ?_
      exact p_fg (ih h) ⟨Or.inr rfl, Or.inl rfl, Or.inr rfl, Or.inr rfl, trivial⟩
set_option maxRecDepth 100000 in
theorem S_X11_wish_99_166 {l : Launch} (hl : l.stackTraces = false) : ∀ (n : Nat) {M : PM} {x2 : Int32} {r : PR}, F_X11_wish_99_166  n M x2 = some r → PW l 66 Y_X11_wish k_X11_wish_166 [vR 99, jk, vI x2, jk] [] M r := by
  intro n
  induction n with
  | zero => intro M x2 r h; exact nomatch (show (none : Option PR) = some r from h)
  | succ n ih =>
    intro M x2 r h
    rw [F_X11_wish_99_166] at h
    refine p_iload_n rfl ?_
    refine p_aload_n rfl ?_
    refine p_getI fk_X11_193 gt_99 rfl ?_
    refine p_icmp_ge h 113 rfl rfl (fun _ h => ?_) (fun _ h => ?_)
    · refine p_iconst cn_1 ?_
      exact p_iret rfl h
    · refine p_iconst cn_0 ?_
      refine p_istore_n (Nat.le_of_ble_eq_true rfl) rfl ?_
      exact p_fg (S_X11_wish_99_176 hl (fun h => ih h) FUEL h) ⟨Or.inr rfl, Or.inl rfl, Or.inr rfl, Or.inr rfl, trivial⟩
set_option maxRecDepth 100000 in
theorem S_X11_wish_99_125 {l : Launch} (hl : l.stackTraces = false) {M : PM}  {r : PR} (h : F_X11_wish_99_125  M  = some r) : PW l 66 Y_X11_wish k_X11_wish_125 [vR 99, jk, jk, jk] [] M r := by
  unfold F_X11_wish_99_125 at h
  refine p_aload_n rfl ?_
  refine p_aload_n rfl ?_
  refine p_getI fk_X11_126 gt_99 rfl ?_
  refine p_putI fk_X11_9 gt_99 rfl ?_
  refine p_aload_n rfl ?_
  refine p_getI fk_X11_123 gt_99 rfl ?_
  refine p_if_eq h 78 rfl rfl (fun _ h => ?_) (fun _ h => ?_)
  · refine p_aload_n rfl ?_
    refine p_aload_n rfl ?_
    refine p_getI fk_X11_208 gt_99 rfl ?_
    refine p_putI fk_X11_193 gt_99 rfl ?_
    refine p_aload_n rfl ?_
    refine p_aload_n rfl ?_
    refine p_getI fk_X11_233 gt_99 rfl ?_
    refine p_putI fk_X11_104 gt_99 rfl ?_
    refine p_iconst cn_0 ?_
    refine p_istore_n (Nat.le_of_ble_eq_true rfl) rfl ?_
    exact p_fg (S_X11_wish_99_166 hl FUEL h) ⟨Or.inr rfl, Or.inl rfl, Or.inr rfl, Or.inl rfl, trivial⟩
  · refine p_aload_n rfl ?_
    refine p_getI fk_X11_123 gt_99 rfl ?_
    refine p_bipush cb_10 ?_
    refine p_isub ?_
    exact p_iret rfl h
set_option maxRecDepth 100000 in
theorem S_X11_wish_99_100 {l : Launch} (hl : l.stackTraces = false) {M : PM}  {r : PR} (h : F_X11_wish_99_100  M  = some r) : PW l 66 Y_X11_wish k_X11_wish_100 [vR 99, jk, jk, jk] [] M r := by
  unfold F_X11_wish_99_100 at h
  refine p_aload_n rfl ?_
  refine p_getI fk_X11_123 gt_99 rfl ?_
  refine p_if_ne h 66 rfl rfl (fun _ h => ?_) (fun _ h => ?_)
  · refine p_aload_n rfl ?_
    refine p_getI fk_X11_233 gt_99 rfl ?_
    refine p_ldc co_X11_163 ?_
    refine p_icmp_le h 66 rfl rfl (fun _ h => ?_) (fun _ h => ?_)
    · exact p_fg (S_X11_wish_99_125 hl h) ⟨Or.inr rfl, Or.inl rfl, Or.inl rfl, Or.inl rfl, trivial⟩
    · refine p_aload_n rfl ?_
      refine p_iconst cn_4 ?_
      refine p_aload_n rfl ?_
      refine p_getI fk_X11_113 gt_99 rfl ?_
      refine p_cV (av := [_, _, _]) ⟨mok_X11_wrong, Or.inl ⟨136, 99, 11, 0, _, rfl, rfl, rfl, gt_99, rfl, ins_X11_wrong, Or.inl lk_X11_136⟩⟩ (Nat.le_of_ble_eq_true rfl) (Nat.le_of_ble_eq_true rfl) rfl (fun _ h => pc_X11_wrong_99 hl h) h (fun M1153 h => ?_)
      exact p_fg (S_X11_wish_99_125 hl h) ⟨Or.inr rfl, Or.inl rfl, Or.inl rfl, Or.inl rfl, trivial⟩
  · exact p_fg (S_X11_wish_99_125 hl h) ⟨Or.inr rfl, Or.inl rfl, Or.inl rfl, Or.inl rfl, trivial⟩
set_option maxRecDepth 100000 in
theorem S_X11_wish_99_30 {l : Launch} (hl : l.stackTraces = false) {M : PM} {x1 : Int32} {t1 : Int32} {r : PR} (h : F_X11_wish_99_30  M x1 t1 = some r) : PW l 66 Y_X11_wish k_X11_wish_30 [vR 99, vI x1, jk, jk] [vI t1, vR 99] M r := by
  unfold F_X11_wish_99_30 at h
  refine p_iconst cn_1 ?_
  refine p_iconst cn_2 ?_
  refine p_cI (av := [_, _, _, _]) ⟨mok_X11_bad, Or.inl ⟨180, 99, 11, 0, _, rfl, rfl, rfl, gt_99, rfl, ins_X11_bad, Or.inl lk_X11_180⟩⟩ (Nat.le_of_ble_eq_true rfl) (Nat.le_of_ble_eq_true rfl) rfl (fun _ h => pc_X11_bad_99 hl h) h (fun v1155 M1154 h => ?_)
  refine p_if_eq h 22 rfl rfl (fun _ h => ?_) (fun _ h => ?_)
  · refine p_aload_n rfl ?_
    refine p_iload_n rfl ?_
    refine p_cV (av := [_, _]) ⟨mok_X11_starts, Or.inl ⟨184, 99, 11, 0, _, rfl, rfl, rfl, gt_99, rfl, ins_X11_starts, Or.inl lk_X11_184⟩⟩ (Nat.le_of_ble_eq_true rfl) (Nat.le_of_ble_eq_true rfl) rfl (fun _ h => pc_X11_starts_99 hl h) h (fun M1156 h => ?_)
    refine p_aload_n rfl ?_
    refine p_iconst cn_0 ?_
    refine p_putI fk_X11_208 gt_99 rfl ?_
    refine p_aload_n rfl ?_
    refine p_aload_n rfl ?_
    refine p_getR fk_X11_23 gt_99 rfl rfl ?_
    refine p_iconst cn_5 ?_
    refine p_iald gt_103 h (fun h => ?_)
    refine p_putI fk_X11_233 gt_99 rfl ?_
    refine p_aload_n rfl ?_
    refine p_iconst cn_0 ?_
    refine p_putI fk_X11_211 gt_99 rfl ?_
    refine p_aload_n rfl ?_
    refine p_cV (av := [_]) ⟨mok_X11_orRow, Or.inl ⟨230, 99, 11, 0, _, rfl, rfl, rfl, gt_99, rfl, ins_X11_orRow, Or.inl lk_X11_230⟩⟩ (Nat.le_of_ble_eq_true rfl) (Nat.le_of_ble_eq_true rfl) rfl (fun _ h => pcg_orow_0 hl h) h (fun M1157 h => ?_)
    refine p_aload_n rfl ?_
    refine p_cV (av := [_]) ⟨mok_X11_blanks, Or.inl ⟨129, 99, 11, 0, _, rfl, rfl, rfl, gt_99, rfl, ins_X11_blanks, Or.inl lk_X11_129⟩⟩ (Nat.le_of_ble_eq_true rfl) (Nat.le_of_ble_eq_true rfl) rfl (fun _ h => pc_X11_blanks_99 hl h) h (fun M1158 h => ?_)
    refine p_aload_n rfl ?_
    refine p_getI fk_X11_123 gt_99 rfl ?_
    refine p_if_ne h 54 rfl rfl (fun _ h => ?_) (fun _ h => ?_)
    · refine p_aload_n rfl ?_
      refine p_getI fk_X11_116 gt_99 rfl ?_
      refine p_aload_n rfl ?_
      refine p_getI fk_X11_113 gt_99 rfl ?_
      refine p_icmp_ge h 54 rfl rfl (fun _ h => ?_) (fun _ h => ?_)
      · exact p_fg (S_X11_wish_99_100 hl h) ⟨Or.inr rfl, Or.inl rfl, Or.inl rfl, Or.inl rfl, trivial⟩
      · refine p_aload_n rfl ?_
        refine p_iconst cn_1 ?_
        refine p_aload_n rfl ?_
        refine p_getI fk_X11_116 gt_99 rfl ?_
        refine p_cV (av := [_, _, _]) ⟨mok_X11_wrong, Or.inl ⟨136, 99, 11, 0, _, rfl, rfl, rfl, gt_99, rfl, ins_X11_wrong, Or.inl lk_X11_136⟩⟩ (Nat.le_of_ble_eq_true rfl) (Nat.le_of_ble_eq_true rfl) rfl (fun _ h => pc_X11_wrong_99 hl h) h (fun M1159 h => ?_)
        exact p_fg (S_X11_wish_99_100 hl h) ⟨Or.inr rfl, Or.inl rfl, Or.inl rfl, Or.inl rfl, trivial⟩
    · exact p_fg (S_X11_wish_99_100 hl h) ⟨Or.inr rfl, Or.inl rfl, Or.inl rfl, Or.inl rfl, trivial⟩
  · refine p_iconst cn_0 ?_
    exact p_iret rfl h
set_option maxRecDepth 100000 in
theorem S_X11_wish_99_25 {l : Launch} (hl : l.stackTraces = false) {M : PM} {x1 : Int32} {r : PR} (h : F_X11_wish_99_25  M x1 = some r) : PW l 66 Y_X11_wish k_X11_wish_25 [vR 99, vI x1, jk, jk] [vR 99] M r := by
  unfold F_X11_wish_99_25 at h
  refine p_iconst cn_1 ?_
  refine p_goto 16 rfl rfl ?_
  exact p_fg (S_X11_wish_99_30 hl h) ⟨Or.inr rfl, Or.inr rfl, Or.inl rfl, Or.inl rfl, trivial⟩
set_option maxRecDepth 100000 in
theorem S_X11_wish_99 {l : Launch} (hl : l.stackTraces = false) {M : PM} {a1 : Int32} {r : PR} (h : F_X11_wish_99 M a1 = some r) : PW l 66 Y_X11_wish k_X11_wish [vR 99, vI a1, jk, jk] [] M r := by
  unfold F_X11_wish_99 at h
  refine p_aload_n rfl ?_
  refine p_iconst cn_0 ?_
  refine p_putI fk_X11_107 gt_99 rfl ?_
  refine p_aload_n rfl ?_
  refine p_iload_n rfl ?_
  refine p_iconst cn_0 ?_
  refine p_aload_n rfl ?_
  refine p_getI fk_X11_110 gt_99 rfl ?_
  refine p_cI (av := [_, _, _]) ⟨mok_X11_in, Or.inr ⟨141, rfl, rfl, sta_X11_in, Or.inl lk_X11_141⟩⟩ (Nat.le_of_ble_eq_true rfl) (Nat.le_of_ble_eq_true rfl) rfl (fun _ h => pc_X11_in hl h) h (fun v1161 M1160 h => ?_)
  refine p_if_eq h 13 rfl rfl (fun _ h => ?_) (fun _ h => ?_)
  · exact p_fg (S_X11_wish_99_25 hl h) ⟨Or.inr rfl, Or.inr rfl, Or.inl rfl, Or.inl rfl, trivial⟩
  · refine p_iload_n rfl ?_
    refine p_sipush cs_200 ?_
    refine p_icmp_le h 15 rfl rfl (fun _ h => ?_) (fun _ h => ?_)
    · refine p_iconst cn_0 ?_
      exact p_fg (S_X11_wish_99_30 hl h) ⟨Or.inr rfl, Or.inr rfl, Or.inl rfl, Or.inl rfl, trivial⟩
    · exact p_fg (S_X11_wish_99_25 hl h) ⟨Or.inr rfl, Or.inr rfl, Or.inl rfl, Or.inl rfl, trivial⟩
set_option maxRecDepth 100000 in
theorem pc_X11_wish_99 {l : Launch} (hl : l.stackTraces = false) {M : PM} {a1 : Int32} {r : PR} (h : F_X11_wish_99 M a1 = some r) : PC l 66 Y_X11_wish [vR 99, vI a1] M r := pc_of hl (by decide +kernel) cok_X11_wish (Nat.le_of_ble_eq_true rfl) rfl (S_X11_wish_99 hl  h) rfl
def F_X11_fault_99 (M : PM)  : Option PR := some (.inl (some (.int (mI (sI M 99 0 0) 99 3))), sI M 99 0 0)
set_option maxRecDepth 100000 in
theorem S_X11_fault_99 {l : Launch} (hl : l.stackTraces = false) {M : PM}  {r : PR} (h : F_X11_fault_99 M  = some r) : PW l 0 Y_X11_fault k_X11_fault [vR 99] [] M r := by
  unfold F_X11_fault_99 at h
  refine p_aload_n rfl ?_
  refine p_iconst cn_0 ?_
  refine p_putI fk_X11_107 gt_99 rfl ?_
  refine p_aload_n rfl ?_
  refine p_getI fk_X11_9 gt_99 rfl ?_
  exact p_iret rfl h
set_option maxRecDepth 100000 in
theorem pc_X11_fault_99 {l : Launch} (hl : l.stackTraces = false) {M : PM}  {r : PR} (h : F_X11_fault_99 M  = some r) : PC l 0 Y_X11_fault [vR 99] M r := pc_of hl (by decide +kernel) cok_X11_fault (Nat.le_of_ble_eq_true rfl) rfl (S_X11_fault_99 hl  h) rfl
def F_X11_told_99_20 (M : PM) (x1 : Int32) (t1 : Int32) : Option PR := cI (F_X11_bad_99 M t1 1 2) fun v1163 M1162 => (if v1163 = 0 then if ixOK x1 6 = true then some (.inl (some (.int (mA M1162 103 x1.toNatClampNeg))), M1162) else none else some (.inl (some (.int 0)), M1162))
def F_X11_told_99 (M : PM) (a1 : Int32) : Option PR := cI (F_X11_in (sI M 99 0 0) a1 0 5) fun v1165 M1164 => (if v1165 = 0 then F_X11_told_99_20 M1164 a1 1 else F_X11_told_99_20 M1164 a1 0)
set_option maxRecDepth 100000 in
theorem S_X11_told_99_20 {l : Launch} (hl : l.stackTraces = false) {M : PM} {x1 : Int32} {t1 : Int32} {r : PR} (h : F_X11_told_99_20  M x1 t1 = some r) : PW l 1 Y_X11_told k_X11_told_20 [vR 99, vI x1] [vI t1, vR 99] M r := by
  unfold F_X11_told_99_20 at h
  refine p_iconst cn_1 ?_
  refine p_iconst cn_2 ?_
  refine p_cI (av := [_, _, _, _]) ⟨mok_X11_bad, Or.inl ⟨180, 99, 11, 0, _, rfl, rfl, rfl, gt_99, rfl, ins_X11_bad, Or.inl lk_X11_180⟩⟩ (Nat.le_of_ble_eq_true rfl) (Nat.le_of_ble_eq_true rfl) rfl (fun _ h => pc_X11_bad_99 hl h) h (fun v1163 M1162 h => ?_)
  refine p_if_eq h 18 rfl rfl (fun _ h => ?_) (fun _ h => ?_)
  · refine p_aload_n rfl ?_
    refine p_getR fk_X11_23 gt_99 rfl rfl ?_
    refine p_iload_n rfl ?_
    refine p_iald gt_103 h (fun h => ?_)
    exact p_iret rfl h
  · refine p_iconst cn_0 ?_
    exact p_iret rfl h
set_option maxRecDepth 100000 in
theorem S_X11_told_99 {l : Launch} (hl : l.stackTraces = false) {M : PM} {a1 : Int32} {r : PR} (h : F_X11_told_99 M a1 = some r) : PW l 1 Y_X11_told k_X11_told [vR 99, vI a1] [] M r := by
  unfold F_X11_told_99 at h
  refine p_aload_n rfl ?_
  refine p_iconst cn_0 ?_
  refine p_putI fk_X11_107 gt_99 rfl ?_
  refine p_aload_n rfl ?_
  refine p_iload_n rfl ?_
  refine p_iconst cn_0 ?_
  refine p_iconst cn_5 ?_
  refine p_cI (av := [_, _, _]) ⟨mok_X11_in, Or.inr ⟨141, rfl, rfl, sta_X11_in, Or.inl lk_X11_141⟩⟩ (Nat.le_of_ble_eq_true rfl) (Nat.le_of_ble_eq_true rfl) rfl (fun _ h => pc_X11_in hl h) h (fun v1165 M1164 h => ?_)
  refine p_if_ne h 11 rfl rfl (fun _ h => ?_) (fun _ h => ?_)
  · refine p_iconst cn_1 ?_
    refine p_goto 12 rfl rfl ?_
    exact p_fg (S_X11_told_99_20 hl h) ⟨Or.inr rfl, Or.inr rfl, trivial⟩
  · refine p_iconst cn_0 ?_
    exact p_fg (S_X11_told_99_20 hl h) ⟨Or.inr rfl, Or.inr rfl, trivial⟩
set_option maxRecDepth 100000 in
theorem pc_X11_told_99 {l : Launch} (hl : l.stackTraces = false) {M : PM} {a1 : Int32} {r : PR} (h : F_X11_told_99 M a1 = some r) : PC l 1 Y_X11_told [vR 99, vI a1] M r := pc_of hl (by decide +kernel) cok_X11_told (Nat.le_of_ble_eq_true rfl) rfl (S_X11_told_99 hl  h) rfl
def F_X11_isLaw_99 (M : PM) (a1 : Int32) : Option PR := if ixOK 0 6 = true then cI (F_X11_in M a1 0 ((mA M 103 (0 : Int32).toNatClampNeg) - 1)) fun v1167 M1166 => (if v1167 &&& 1 = v1167 then some (.inl (some (.int v1167)), M1166) else none) else none
set_option maxRecDepth 100000 in
theorem S_X11_isLaw_99 {l : Launch} (hl : l.stackTraces = false) {M : PM} {a1 : Int32} {r : PR} (h : F_X11_isLaw_99 M a1 = some r) : PW l 1 Y_X11_isLaw k_X11_isLaw [vR 99, vI a1] [] M r := by
  unfold F_X11_isLaw_99 at h
  refine p_iload_n rfl ?_
  refine p_iconst cn_0 ?_
  refine p_aload_n rfl ?_
  refine p_getR fk_X11_23 gt_99 rfl rfl ?_
  refine p_iconst cn_0 ?_
  refine p_iald gt_103 h (fun h => ?_)
  refine p_iconst cn_1 ?_
  refine p_isub ?_
  refine p_cI (av := [_, _, _]) ⟨mok_X11_in, Or.inr ⟨141, rfl, rfl, sta_X11_in, Or.inl lk_X11_141⟩⟩ (Nat.le_of_ble_eq_true rfl) (Nat.le_of_ble_eq_true rfl) rfl (fun _ h => pc_X11_in hl h) h (fun v1167 M1166 h => ?_)
  exact p_zret rfl h
set_option maxRecDepth 100000 in
theorem pc_X11_isLaw_99 {l : Launch} (hl : l.stackTraces = false) {M : PM} {a1 : Int32} {r : PR} (h : F_X11_isLaw_99 M a1 = some r) : PC l 1 Y_X11_isLaw [vR 99, vI a1] M r := pc_of hl (by decide +kernel) cok_X11_isLaw (Nat.le_of_ble_eq_true rfl) rfl (S_X11_isLaw_99 hl  h) rfl
def F_X11_law_99_42 (M : PM) (x1 : Int32) (x2 : Int32) (t1 : Int32) : Option PR := cI (F_X11_bad_99 M t1 2 2) fun v1169 M1168 => (if v1169 = 0 then (if x2 = 0 then if ixOK x1 12 = true then some (.inl (some (.int (mA M1168 107 x1.toNatClampNeg))), M1168) else none else if ixOK x1 12 = true then some (.inl (some (.int (mA M1168 109 x1.toNatClampNeg))), M1168) else none) else some (.inl (some (.int 0)), M1168))
def F_X11_law_99_19 (M : PM) (x1 : Int32) (x2 : Int32) (t1 : Int32) : Option PR := cI (F_X11_bad_99 M t1 1 1) fun v1171 M1170 => (if v1171 = 0 then cI (F_X11_in M1170 x2 0 1) fun v1173 M1172 => (if v1173 = 0 then F_X11_law_99_42 M1172 x1 x2 1 else F_X11_law_99_42 M1172 x1 x2 0) else some (.inl (some (.int 0)), M1170))
def F_X11_law_99 (M : PM) (a1 : Int32) (a2 : Int32) : Option PR := cI (F_X11_isLaw_99 (sI M 99 0 0) a1) fun v1175 M1174 => (if v1175 = 0 then F_X11_law_99_19 M1174 a1 a2 1 else F_X11_law_99_19 M1174 a1 a2 0)
set_option maxRecDepth 100000 in
theorem S_X11_law_99_42 {l : Launch} (hl : l.stackTraces = false) {M : PM} {x1 : Int32} {x2 : Int32} {t1 : Int32} {r : PR} (h : F_X11_law_99_42  M x1 x2 t1 = some r) : PW l 2 Y_X11_law k_X11_law_42 [vR 99, vI x1, vI x2] [vI t1, vR 99] M r := by
  unfold F_X11_law_99_42 at h
  refine p_iconst cn_2 ?_
  refine p_iconst cn_2 ?_
  refine p_cI (av := [_, _, _, _]) ⟨mok_X11_bad, Or.inl ⟨180, 99, 11, 0, _, rfl, rfl, rfl, gt_99, rfl, ins_X11_bad, Or.inl lk_X11_180⟩⟩ (Nat.le_of_ble_eq_true rfl) (Nat.le_of_ble_eq_true rfl) rfl (fun _ h => pc_X11_bad_99 hl h) h (fun v1169 M1168 h => ?_)
  refine p_if_eq h 30 rfl rfl (fun _ h => ?_) (fun _ h => ?_)
  · refine p_iload_n rfl ?_
    refine p_if_ne h 37 rfl rfl (fun _ h => ?_) (fun _ h => ?_)
    · refine p_aload_n rfl ?_
      refine p_getR fk_X11_35 gt_99 rfl rfl ?_
      refine p_iload_n rfl ?_
      refine p_iald gt_107 h (fun h => ?_)
      refine p_goto 41 rfl rfl ?_
      exact p_iret rfl h
    · refine p_aload_n rfl ?_
      refine p_getR fk_X11_41 gt_99 rfl rfl ?_
      refine p_iload_n rfl ?_
      refine p_iald gt_109 h (fun h => ?_)
      exact p_iret rfl h
  · refine p_iconst cn_0 ?_
    exact p_iret rfl h
set_option maxRecDepth 100000 in
theorem S_X11_law_99_19 {l : Launch} (hl : l.stackTraces = false) {M : PM} {x1 : Int32} {x2 : Int32} {t1 : Int32} {r : PR} (h : F_X11_law_99_19  M x1 x2 t1 = some r) : PW l 2 Y_X11_law k_X11_law_19 [vR 99, vI x1, vI x2] [vI t1, vR 99] M r := by
  unfold F_X11_law_99_19 at h
  refine p_iconst cn_1 ?_
  refine p_iconst cn_1 ?_
  refine p_cI (av := [_, _, _, _]) ⟨mok_X11_bad, Or.inl ⟨180, 99, 11, 0, _, rfl, rfl, rfl, gt_99, rfl, ins_X11_bad, Or.inl lk_X11_180⟩⟩ (Nat.le_of_ble_eq_true rfl) (Nat.le_of_ble_eq_true rfl) rfl (fun _ h => pc_X11_bad_99 hl h) h (fun v1171 M1170 h => ?_)
  refine p_if_ne h 28 rfl rfl (fun _ h => ?_) (fun _ h => ?_)
  · refine p_aload_n rfl ?_
    refine p_iload_n rfl ?_
    refine p_iconst cn_0 ?_
    refine p_iconst cn_1 ?_
    refine p_cI (av := [_, _, _]) ⟨mok_X11_in, Or.inr ⟨141, rfl, rfl, sta_X11_in, Or.inl lk_X11_141⟩⟩ (Nat.le_of_ble_eq_true rfl) (Nat.le_of_ble_eq_true rfl) rfl (fun _ h => pc_X11_in hl h) h (fun v1173 M1172 h => ?_)
    refine p_if_ne h 23 rfl rfl (fun _ h => ?_) (fun _ h => ?_)
    · refine p_iconst cn_1 ?_
      refine p_goto 24 rfl rfl ?_
      exact p_fg (S_X11_law_99_42 hl h) ⟨Or.inr rfl, Or.inr rfl, Or.inr rfl, trivial⟩
    · refine p_iconst cn_0 ?_
      exact p_fg (S_X11_law_99_42 hl h) ⟨Or.inr rfl, Or.inr rfl, Or.inr rfl, trivial⟩
  · refine p_iconst cn_0 ?_
    exact p_iret rfl h
set_option maxRecDepth 100000 in
theorem S_X11_law_99 {l : Launch} (hl : l.stackTraces = false) {M : PM} {a1 : Int32} {a2 : Int32} {r : PR} (h : F_X11_law_99 M a1 a2 = some r) : PW l 2 Y_X11_law k_X11_law [vR 99, vI a1, vI a2] [] M r := by
  unfold F_X11_law_99 at h
  refine p_aload_n rfl ?_
  refine p_iconst cn_0 ?_
  refine p_putI fk_X11_107 gt_99 rfl ?_
  refine p_aload_n rfl ?_
  refine p_aload_n rfl ?_
  refine p_iload_n rfl ?_
  refine p_cI (av := [_, _]) ⟨mok_X11_isLaw, Or.inl ⟨236, 99, 11, 0, _, rfl, rfl, rfl, gt_99, rfl, ins_X11_isLaw, Or.inl lk_X11_236⟩⟩ (Nat.le_of_ble_eq_true rfl) (Nat.le_of_ble_eq_true rfl) rfl (fun _ h => pc_X11_isLaw_99 hl h) h (fun v1175 M1174 h => ?_)
  refine p_if_ne h 10 rfl rfl (fun _ h => ?_) (fun _ h => ?_)
  · refine p_iconst cn_1 ?_
    refine p_goto 11 rfl rfl ?_
    exact p_fg (S_X11_law_99_19 hl h) ⟨Or.inr rfl, Or.inr rfl, Or.inr rfl, trivial⟩
  · refine p_iconst cn_0 ?_
    exact p_fg (S_X11_law_99_19 hl h) ⟨Or.inr rfl, Or.inr rfl, Or.inr rfl, trivial⟩
set_option maxRecDepth 100000 in
theorem pc_X11_law_99 {l : Launch} (hl : l.stackTraces = false) {M : PM} {a1 : Int32} {a2 : Int32} {r : PR} (h : F_X11_law_99 M a1 a2 = some r) : PC l 2 Y_X11_law [vR 99, vI a1, vI a2] M r := pc_of hl (by decide +kernel) cok_X11_law (Nat.le_of_ble_eq_true rfl) rfl (S_X11_law_99 hl  h) rfl
def F_X11_isHouse_99 (M : PM) (a1 : Int32) : Option PR := if ixOK 2 6 = true then cI (F_X11_in M a1 0 ((mA M 103 (2 : Int32).toNatClampNeg) - 1)) fun v1177 M1176 => (if v1177 &&& 1 = v1177 then some (.inl (some (.int v1177)), M1176) else none) else none
set_option maxRecDepth 100000 in
theorem S_X11_isHouse_99 {l : Launch} (hl : l.stackTraces = false) {M : PM} {a1 : Int32} {r : PR} (h : F_X11_isHouse_99 M a1 = some r) : PW l 1 Y_X11_isHouse k_X11_isHouse [vR 99, vI a1] [] M r := by
  unfold F_X11_isHouse_99 at h
  refine p_iload_n rfl ?_
  refine p_iconst cn_0 ?_
  refine p_aload_n rfl ?_
  refine p_getR fk_X11_23 gt_99 rfl rfl ?_
  refine p_iconst cn_2 ?_
  refine p_iald gt_103 h (fun h => ?_)
  refine p_iconst cn_1 ?_
  refine p_isub ?_
  refine p_cI (av := [_, _, _]) ⟨mok_X11_in, Or.inr ⟨141, rfl, rfl, sta_X11_in, Or.inl lk_X11_141⟩⟩ (Nat.le_of_ble_eq_true rfl) (Nat.le_of_ble_eq_true rfl) rfl (fun _ h => pc_X11_in hl h) h (fun v1177 M1176 h => ?_)
  exact p_zret rfl h
set_option maxRecDepth 100000 in
theorem pc_X11_isHouse_99 {l : Launch} (hl : l.stackTraces = false) {M : PM} {a1 : Int32} {r : PR} (h : F_X11_isHouse_99 M a1 = some r) : PC l 1 Y_X11_isHouse [vR 99, vI a1] M r := pc_of hl (by decide +kernel) cok_X11_isHouse (Nat.le_of_ble_eq_true rfl) rfl (S_X11_isHouse_99 hl  h) rfl
def F_X11_slip_99_27 (M : PM) (x1 : Int32) (x2 : Int32) (t1 : Int32) : Option PR := cI (F_X11_bad_99 M t1 1 1) fun v1179 M1178 => (if v1179 = 0 then if ixOK x1 10 = true then if x1.toNatClampNeg < 10 ∧ ixOK x2 12 = true then some (.inl (some (.int (mG M1178 115 x1.toNatClampNeg x2.toNatClampNeg))), M1178) else none else none else some (.inl (some (.int 0)), M1178))
def F_X11_slip_99_22 (M : PM) (x1 : Int32) (x2 : Int32) : Option PR := F_X11_slip_99_27 M x1 x2 1
def F_X11_slip_99 (M : PM) (a1 : Int32) (a2 : Int32) : Option PR := cI (F_X11_isHouse_99 (sI M 99 0 0) a1) fun v1181 M1180 => (if v1181 = 0 then F_X11_slip_99_22 M1180 a1 a2 else cI (F_X11_isLaw_99 M1180 a2) fun v1183 M1182 => (if v1183 = 0 then F_X11_slip_99_22 M1182 a1 a2 else F_X11_slip_99_27 M1182 a1 a2 0))
set_option maxRecDepth 100000 in
theorem S_X11_slip_99_27 {l : Launch} (hl : l.stackTraces = false) {M : PM} {x1 : Int32} {x2 : Int32} {t1 : Int32} {r : PR} (h : F_X11_slip_99_27  M x1 x2 t1 = some r) : PW l 2 Y_X11_slip k_X11_slip_27 [vR 99, vI x1, vI x2] [vI t1, vR 99] M r := by
  unfold F_X11_slip_99_27 at h
  refine p_iconst cn_1 ?_
  refine p_iconst cn_1 ?_
  refine p_cI (av := [_, _, _, _]) ⟨mok_X11_bad, Or.inl ⟨180, 99, 11, 0, _, rfl, rfl, rfl, gt_99, rfl, ins_X11_bad, Or.inl lk_X11_180⟩⟩ (Nat.le_of_ble_eq_true rfl) (Nat.le_of_ble_eq_true rfl) rfl (fun _ h => pc_X11_bad_99 hl h) h (fun v1179 M1178 h => ?_)
  refine p_if_eq h 21 rfl rfl (fun _ h => ?_) (fun _ h => ?_)
  · refine p_aload_n rfl ?_
    refine p_getR fk_X11_61 gt_99 rfl rfl ?_
    refine p_iload_n rfl ?_
    refine p_aldG gt_115 h (fun h => ?_)
    refine p_iload_n rfl ?_
    refine p_ialdG gt_115 h (fun h => ?_)
    exact p_iret rfl h
  · refine p_iconst cn_0 ?_
    exact p_iret rfl h
set_option maxRecDepth 100000 in
theorem S_X11_slip_99_22 {l : Launch} (hl : l.stackTraces = false) {M : PM} {x1 : Int32} {x2 : Int32} {r : PR} (h : F_X11_slip_99_22  M x1 x2 = some r) : PW l 2 Y_X11_slip k_X11_slip_22 [vR 99, vI x1, vI x2] [vR 99] M r := by
  unfold F_X11_slip_99_22 at h
  refine p_iconst cn_1 ?_
  refine p_goto 15 rfl rfl ?_
  exact p_fg (S_X11_slip_99_27 hl h) ⟨Or.inr rfl, Or.inr rfl, Or.inr rfl, trivial⟩
set_option maxRecDepth 100000 in
theorem S_X11_slip_99 {l : Launch} (hl : l.stackTraces = false) {M : PM} {a1 : Int32} {a2 : Int32} {r : PR} (h : F_X11_slip_99 M a1 a2 = some r) : PW l 2 Y_X11_slip k_X11_slip [vR 99, vI a1, vI a2] [] M r := by
  unfold F_X11_slip_99 at h
  refine p_aload_n rfl ?_
  refine p_iconst cn_0 ?_
  refine p_putI fk_X11_107 gt_99 rfl ?_
  refine p_aload_n rfl ?_
  refine p_aload_n rfl ?_
  refine p_iload_n rfl ?_
  refine p_cI (av := [_, _]) ⟨mok_X11_isHouse, Or.inl ⟨239, 99, 11, 0, _, rfl, rfl, rfl, gt_99, rfl, ins_X11_isHouse, Or.inl lk_X11_239⟩⟩ (Nat.le_of_ble_eq_true rfl) (Nat.le_of_ble_eq_true rfl) rfl (fun _ h => pc_X11_isHouse_99 hl h) h (fun v1181 M1180 h => ?_)
  refine p_if_eq h 12 rfl rfl (fun _ h => ?_) (fun _ h => ?_)
  · exact p_fg (S_X11_slip_99_22 hl h) ⟨Or.inr rfl, Or.inr rfl, Or.inr rfl, trivial⟩
  · refine p_aload_n rfl ?_
    refine p_iload_n rfl ?_
    refine p_cI (av := [_, _]) ⟨mok_X11_isLaw, Or.inl ⟨236, 99, 11, 0, _, rfl, rfl, rfl, gt_99, rfl, ins_X11_isLaw, Or.inl lk_X11_236⟩⟩ (Nat.le_of_ble_eq_true rfl) (Nat.le_of_ble_eq_true rfl) rfl (fun _ h => pc_X11_isLaw_99 hl h) h (fun v1183 M1182 h => ?_)
    refine p_if_ne h 14 rfl rfl (fun _ h => ?_) (fun _ h => ?_)
    · exact p_fg (S_X11_slip_99_22 hl h) ⟨Or.inr rfl, Or.inr rfl, Or.inr rfl, trivial⟩
    · refine p_iconst cn_0 ?_
      exact p_fg (S_X11_slip_99_27 hl h) ⟨Or.inr rfl, Or.inr rfl, Or.inr rfl, trivial⟩
set_option maxRecDepth 100000 in
theorem pc_X11_slip_99 {l : Launch} (hl : l.stackTraces = false) {M : PM} {a1 : Int32} {a2 : Int32} {r : PR} (h : F_X11_slip_99 M a1 a2 = some r) : PC l 2 Y_X11_slip [vR 99, vI a1, vI a2] M r := pc_of hl (by decide +kernel) cok_X11_slip (Nat.le_of_ble_eq_true rfl) rfl (S_X11_slip_99 hl  h) rfl
def F_X11_turn_99_52 (M : PM) (x1 : Int32) (x2 : Int32) (x3 : Int32) (t1 : Int32) : Option PR := cI (F_X11_bad_99 M t1 2 2) fun v1185 M1184 => (if v1185 = 0 then if ixOK x1 10 = true then if ixOK x1 10 = true then if x1.toNatClampNeg < 10 ∧ ixOK x2 12 = true then if ixOK x2 12 = true then if mA M1184 107 x2.toNatClampNeg = 0 then none else if x1.toNatClampNeg < 10 ∧ ixOK x2 12 = true then lt (sG M1184 115 x1.toNatClampNeg x2.toNatClampNeg (((mG M1184 115 x1.toNatClampNeg x2.toNatClampNeg) + x3) - ((mG M1184 115 x1.toNatClampNeg x2.toNatClampNeg) + x3) / (mA M1184 107 x2.toNatClampNeg) * (mA M1184 107 x2.toNatClampNeg))) fun M1186 => if ixOK x1 10 = true then if x1.toNatClampNeg < 10 ∧ ixOK x2 12 = true then some (.inl (some (.int (mG M1186 115 x1.toNatClampNeg x2.toNatClampNeg))), M1186) else none else none else none else none else none else none else none else some (.inl (some (.int 0)), M1184))
def F_X11_turn_99_27 (M : PM) (x1 : Int32) (x2 : Int32) (x3 : Int32) (t1 : Int32) : Option PR := cI (F_X11_bad_99 M t1 1 1) fun v1188 M1187 => (if v1188 = 0 then cI (F_X11_in M1187 x3 0 999) fun v1190 M1189 => (if v1190 = 0 then F_X11_turn_99_52 M1189 x1 x2 x3 1 else F_X11_turn_99_52 M1189 x1 x2 x3 0) else some (.inl (some (.int 0)), M1187))
def F_X11_turn_99_22 (M : PM) (x1 : Int32) (x2 : Int32) (x3 : Int32) : Option PR := F_X11_turn_99_27 M x1 x2 x3 1
def F_X11_turn_99 (M : PM) (a1 : Int32) (a2 : Int32) (a3 : Int32) : Option PR := cI (F_X11_isHouse_99 (sI M 99 0 0) a1) fun v1192 M1191 => (if v1192 = 0 then F_X11_turn_99_22 M1191 a1 a2 a3 else cI (F_X11_isLaw_99 M1191 a2) fun v1194 M1193 => (if v1194 = 0 then F_X11_turn_99_22 M1193 a1 a2 a3 else F_X11_turn_99_27 M1193 a1 a2 a3 0))
set_option maxRecDepth 100000 in
theorem S_X11_turn_99_52 {l : Launch} (hl : l.stackTraces = false) {M : PM} {x1 : Int32} {x2 : Int32} {x3 : Int32} {t1 : Int32} {r : PR} (h : F_X11_turn_99_52  M x1 x2 x3 t1 = some r) : PW l 2 Y_X11_turn k_X11_turn_52 [vR 99, vI x1, vI x2, vI x3] [vI t1, vR 99] M r := by
  unfold F_X11_turn_99_52 at h
  refine p_iconst cn_2 ?_
  refine p_iconst cn_2 ?_
  refine p_cI (av := [_, _, _, _]) ⟨mok_X11_bad, Or.inl ⟨180, 99, 11, 0, _, rfl, rfl, rfl, gt_99, rfl, ins_X11_bad, Or.inl lk_X11_180⟩⟩ (Nat.le_of_ble_eq_true rfl) (Nat.le_of_ble_eq_true rfl) rfl (fun _ h => pc_X11_bad_99 hl h) h (fun v1185 M1184 h => ?_)
  refine p_if_eq h 34 rfl rfl (fun _ h => ?_) (fun _ h => ?_)
  · refine p_aload_n rfl ?_
    refine p_getR fk_X11_61 gt_99 rfl rfl ?_
    refine p_iload_n rfl ?_
    refine p_aldG gt_115 h (fun h => ?_)
    refine p_iload_n rfl ?_
    refine p_aload_n rfl ?_
    refine p_getR fk_X11_61 gt_99 rfl rfl ?_
    refine p_iload_n rfl ?_
    refine p_aldG gt_115 h (fun h => ?_)
    refine p_iload_n rfl ?_
    refine p_ialdG gt_115 h (fun h => ?_)
    refine p_iload_n rfl ?_
    refine p_iadd ?_
    refine p_aload_n rfl ?_
    refine p_getR fk_X11_35 gt_99 rfl rfl ?_
    refine p_iload_n rfl ?_
    refine p_iald gt_107 h (fun h => ?_)
    refine p_irem h (fun h => ?_)
    refine p_iastG gt_115 h (fun h => ?_)
    have h := lt_h h
    refine p_aload_n rfl ?_
    refine p_getR fk_X11_61 gt_99 rfl rfl ?_
    refine p_iload_n rfl ?_
    refine p_aldG gt_115 h (fun h => ?_)
    refine p_iload_n rfl ?_
    refine p_ialdG gt_115 h (fun h => ?_)
    exact p_iret rfl h
  · refine p_iconst cn_0 ?_
    exact p_iret rfl h
set_option maxRecDepth 100000 in
theorem S_X11_turn_99_27 {l : Launch} (hl : l.stackTraces = false) {M : PM} {x1 : Int32} {x2 : Int32} {x3 : Int32} {t1 : Int32} {r : PR} (h : F_X11_turn_99_27  M x1 x2 x3 t1 = some r) : PW l 2 Y_X11_turn k_X11_turn_27 [vR 99, vI x1, vI x2, vI x3] [vI t1, vR 99] M r := by
  unfold F_X11_turn_99_27 at h
  refine p_iconst cn_1 ?_
  refine p_iconst cn_1 ?_
  refine p_cI (av := [_, _, _, _]) ⟨mok_X11_bad, Or.inl ⟨180, 99, 11, 0, _, rfl, rfl, rfl, gt_99, rfl, ins_X11_bad, Or.inl lk_X11_180⟩⟩ (Nat.le_of_ble_eq_true rfl) (Nat.le_of_ble_eq_true rfl) rfl (fun _ h => pc_X11_bad_99 hl h) h (fun v1188 M1187 h => ?_)
  refine p_if_ne h 32 rfl rfl (fun _ h => ?_) (fun _ h => ?_)
  · refine p_aload_n rfl ?_
    refine p_iload_n rfl ?_
    refine p_iconst cn_0 ?_
    refine p_sipush cs_999 ?_
    refine p_cI (av := [_, _, _]) ⟨mok_X11_in, Or.inr ⟨141, rfl, rfl, sta_X11_in, Or.inl lk_X11_141⟩⟩ (Nat.le_of_ble_eq_true rfl) (Nat.le_of_ble_eq_true rfl) rfl (fun _ h => pc_X11_in hl h) h (fun v1190 M1189 h => ?_)
    refine p_if_ne h 27 rfl rfl (fun _ h => ?_) (fun _ h => ?_)
    · refine p_iconst cn_1 ?_
      refine p_goto 28 rfl rfl ?_
      exact p_fg (S_X11_turn_99_52 hl h) ⟨Or.inr rfl, Or.inr rfl, Or.inr rfl, Or.inr rfl, trivial⟩
    · refine p_iconst cn_0 ?_
      exact p_fg (S_X11_turn_99_52 hl h) ⟨Or.inr rfl, Or.inr rfl, Or.inr rfl, Or.inr rfl, trivial⟩
  · refine p_iconst cn_0 ?_
    exact p_iret rfl h
set_option maxRecDepth 100000 in
theorem S_X11_turn_99_22 {l : Launch} (hl : l.stackTraces = false) {M : PM} {x1 : Int32} {x2 : Int32} {x3 : Int32} {r : PR} (h : F_X11_turn_99_22  M x1 x2 x3 = some r) : PW l 2 Y_X11_turn k_X11_turn_22 [vR 99, vI x1, vI x2, vI x3] [vR 99] M r := by
  unfold F_X11_turn_99_22 at h
  refine p_iconst cn_1 ?_
  refine p_goto 15 rfl rfl ?_
  exact p_fg (S_X11_turn_99_27 hl h) ⟨Or.inr rfl, Or.inr rfl, Or.inr rfl, Or.inr rfl, trivial⟩
set_option maxRecDepth 100000 in
theorem S_X11_turn_99 {l : Launch} (hl : l.stackTraces = false) {M : PM} {a1 : Int32} {a2 : Int32} {a3 : Int32} {r : PR} (h : F_X11_turn_99 M a1 a2 a3 = some r) : PW l 2 Y_X11_turn k_X11_turn [vR 99, vI a1, vI a2, vI a3] [] M r := by
  unfold F_X11_turn_99 at h
  refine p_aload_n rfl ?_
  refine p_iconst cn_0 ?_
  refine p_putI fk_X11_107 gt_99 rfl ?_
  refine p_aload_n rfl ?_
  refine p_aload_n rfl ?_
  refine p_iload_n rfl ?_
  refine p_cI (av := [_, _]) ⟨mok_X11_isHouse, Or.inl ⟨239, 99, 11, 0, _, rfl, rfl, rfl, gt_99, rfl, ins_X11_isHouse, Or.inl lk_X11_239⟩⟩ (Nat.le_of_ble_eq_true rfl) (Nat.le_of_ble_eq_true rfl) rfl (fun _ h => pc_X11_isHouse_99 hl h) h (fun v1192 M1191 h => ?_)
  refine p_if_eq h 12 rfl rfl (fun _ h => ?_) (fun _ h => ?_)
  · exact p_fg (S_X11_turn_99_22 hl h) ⟨Or.inr rfl, Or.inr rfl, Or.inr rfl, Or.inr rfl, trivial⟩
  · refine p_aload_n rfl ?_
    refine p_iload_n rfl ?_
    refine p_cI (av := [_, _]) ⟨mok_X11_isLaw, Or.inl ⟨236, 99, 11, 0, _, rfl, rfl, rfl, gt_99, rfl, ins_X11_isLaw, Or.inl lk_X11_236⟩⟩ (Nat.le_of_ble_eq_true rfl) (Nat.le_of_ble_eq_true rfl) rfl (fun _ h => pc_X11_isLaw_99 hl h) h (fun v1194 M1193 h => ?_)
    refine p_if_ne h 14 rfl rfl (fun _ h => ?_) (fun _ h => ?_)
    · exact p_fg (S_X11_turn_99_22 hl h) ⟨Or.inr rfl, Or.inr rfl, Or.inr rfl, Or.inr rfl, trivial⟩
    · refine p_iconst cn_0 ?_
      exact p_fg (S_X11_turn_99_27 hl h) ⟨Or.inr rfl, Or.inr rfl, Or.inr rfl, Or.inr rfl, trivial⟩
set_option maxRecDepth 100000 in
theorem pc_X11_turn_99 {l : Launch} (hl : l.stackTraces = false) {M : PM} {a1 : Int32} {a2 : Int32} {a3 : Int32} {r : PR} (h : F_X11_turn_99 M a1 a2 a3 = some r) : PC l 2 Y_X11_turn [vR 99, vI a1, vI a2, vI a3] M r := pc_of hl (by decide +kernel) cok_X11_turn (Nat.le_of_ble_eq_true rfl) rfl (S_X11_turn_99 hl  h) rfl
def F_X11_isDay (M : PM) (a0 : Int32) : Option PR := cI (F_X11_in M a0 0 999999999) fun v1196 M1195 => (if v1196 &&& 1 = v1196 then some (.inl (some (.int v1196)), M1195) else none)
set_option maxRecDepth 100000 in
theorem S_X11_isDay {l : Launch} (hl : l.stackTraces = false) {M : PM} {a0 : Int32} {r : PR} (h : F_X11_isDay M a0 = some r) : PW l 1 Y_X11_isDay k_X11_isDay [vI a0] [] M r := by
  unfold F_X11_isDay at h
  refine p_iload_n rfl ?_
  refine p_iconst cn_0 ?_
  refine p_ldc co_X11_242 ?_
  refine p_cI (av := [_, _, _]) ⟨mok_X11_in, Or.inr ⟨141, rfl, rfl, sta_X11_in, Or.inl lk_X11_141⟩⟩ (Nat.le_of_ble_eq_true rfl) (Nat.le_of_ble_eq_true rfl) rfl (fun _ h => pc_X11_in hl h) h (fun v1196 M1195 h => ?_)
  exact p_zret rfl h
set_option maxRecDepth 100000 in
theorem pc_X11_isDay {l : Launch} (hl : l.stackTraces = false) {M : PM} {a0 : Int32} {r : PR} (h : F_X11_isDay M a0 = some r) : PC l 1 Y_X11_isDay [vI a0] M r := pc_of hl (by decide +kernel) cok_X11_isDay (Nat.le_of_ble_eq_true rfl) rfl (S_X11_isDay hl  h) rfl
def F_X11_turnedOn_99_30 (k4 : PM → Int32 → Int32 → Int32 → Option PR) (M : PM) (x1 : Int32) (x3 : Int32) (t0 : Int32) (t1 : Int32) : Option PR := lt (t0 - t1) fun y1197 => lt (x3 + 1) fun y1198 => k4 M x1 y1197 y1198
def F_X11_turnedOn_99_4 : Nat → PM → Int32 → Int32 → Int32 → Option PR
  | 0, _, _, _, _ => none
  | n + 1, M, x1, x2, x3 => if ixOK 3 6 = true then (if mA M 103 (3 : Int32).toNatClampNeg ≤ x3 then some (.inl (some (.int x2)), M) else if ixOK x3 3 = true then (if x1 ≤ mA M 105 x3.toNatClampNeg then F_X11_turnedOn_99_30 (F_X11_turnedOn_99_4 n) M x1 x3 x2 0 else F_X11_turnedOn_99_30 (F_X11_turnedOn_99_4 n) M x1 x3 x2 1) else none) else none
def F_X11_turnedOn_99 (M : PM) (a1 : Int32) : Option PR := F_X11_turnedOn_99_4 FUEL M a1 a1 0
set_option maxRecDepth 100000 in
theorem S_X11_turnedOn_99_30 {l : Launch} (hl : l.stackTraces = false) {k4 : PM → Int32 → Int32 → Int32 → Option PR} (hk4 : ∀ {M : PM} {x1 : Int32} {x2 : Int32} {x3 : Int32} {r : PR}, k4 M x1 x2 x3 = some r → PW l 0 Y_X11_turnedOn k_X11_turnedOn_4 [vR 99, vI x1, vI x2, vI x3] [] M r) {M : PM} {x1 : Int32} {x3 : Int32} {t0 : Int32} {t1 : Int32} {r : PR} (h : F_X11_turnedOn_99_30 k4 M x1 x3 t0 t1 = some r) : PW l 0 Y_X11_turnedOn k_X11_turnedOn_30 [vR 99, vI x1, jk, vI x3] [vI t1, vI t0] M r := by
  unfold F_X11_turnedOn_99_30 at h
  refine p_isub ?_
  have h := lt_h h
  refine p_istore_n (Nat.le_of_ble_eq_true rfl) rfl ?_
  have h := lt_h h
  refine p_iinc (Nat.le_of_ble_eq_true rfl) rfl (ci_1 _) rfl ?_
  refine p_goto 4 rfl rfl ?_
  exact p_fg (hk4 h) ⟨Or.inr rfl, Or.inr rfl, Or.inr rfl, Or.inr rfl, trivial⟩
set_option maxRecDepth 100000 in
theorem S_X11_turnedOn_99_4 {l : Launch} (hl : l.stackTraces = false) : ∀ (n : Nat) {M : PM} {x1 : Int32} {x2 : Int32} {x3 : Int32} {r : PR}, F_X11_turnedOn_99_4  n M x1 x2 x3 = some r → PW l 0 Y_X11_turnedOn k_X11_turnedOn_4 [vR 99, vI x1, vI x2, vI x3] [] M r := by
  intro n
  induction n with
  | zero => intro M x1 x2 x3 r h; exact nomatch (show (none : Option PR) = some r from h)
  | succ n ih =>
    intro M x1 x2 x3 r h
    rw [F_X11_turnedOn_99_4] at h
    refine p_iload_n rfl ?_
    refine p_aload_n rfl ?_
    refine p_getR fk_X11_23 gt_99 rfl rfl ?_
    refine p_iconst cn_3 ?_
    refine p_iald gt_103 h (fun h => ?_)
    refine p_icmp_ge h 24 rfl rfl (fun _ h => ?_) (fun _ h => ?_)
    · refine p_iload_n rfl ?_
      exact p_iret rfl h
    · refine p_iload_n rfl ?_
      refine p_aload_n rfl ?_
      refine p_getR fk_X11_29 gt_99 rfl rfl ?_
      refine p_iload_n rfl ?_
      refine p_iald gt_105 h (fun h => ?_)
      refine p_iload_n rfl ?_
      refine p_icmp_ge h 19 rfl rfl (fun _ h => ?_) (fun _ h => ?_)
      · refine p_iconst cn_0 ?_
        exact p_fg (S_X11_turnedOn_99_30 hl (fun h => ih h) h) ⟨Or.inr rfl, Or.inr rfl, Or.inl rfl, Or.inr rfl, trivial⟩
      · refine p_iconst cn_1 ?_
        refine p_goto 20 rfl rfl ?_
        exact p_fg (S_X11_turnedOn_99_30 hl (fun h => ih h) h) ⟨Or.inr rfl, Or.inr rfl, Or.inl rfl, Or.inr rfl, trivial⟩
set_option maxRecDepth 100000 in
theorem S_X11_turnedOn_99 {l : Launch} (hl : l.stackTraces = false) {M : PM} {a1 : Int32} {r : PR} (h : F_X11_turnedOn_99 M a1 = some r) : PW l 0 Y_X11_turnedOn k_X11_turnedOn [vR 99, vI a1, jk, jk] [] M r := by
  unfold F_X11_turnedOn_99 at h
  refine p_iload_n rfl ?_
  refine p_istore_n (Nat.le_of_ble_eq_true rfl) rfl ?_
  refine p_iconst cn_0 ?_
  refine p_istore_n (Nat.le_of_ble_eq_true rfl) rfl ?_
  exact p_fg (S_X11_turnedOn_99_4 hl FUEL h) ⟨Or.inr rfl, Or.inr rfl, Or.inr rfl, Or.inr rfl, trivial⟩
set_option maxRecDepth 100000 in
theorem pc_X11_turnedOn_99 {l : Launch} (hl : l.stackTraces = false) {M : PM} {a1 : Int32} {r : PR} (h : F_X11_turnedOn_99 M a1 = some r) : PC l 0 Y_X11_turnedOn [vR 99, vI a1] M r := pc_of hl (by decide +kernel) cok_X11_turnedOn (Nat.le_of_ble_eq_true rfl) rfl (S_X11_turnedOn_99 hl  h) rfl
def F_X11_turned_99_18 (M : PM) (x1 : Int32) (t1 : Int32) : Option PR := cI (F_X11_bad_99 M t1 1 0) fun v1200 M1199 => (if v1200 = 0 then cI (F_X11_turnedOn_99 M1199 x1) fun v1202 M1201 => some (.inl (some (.int v1202)), M1201) else some (.inl (some (.int 0)), M1199))
def F_X11_turned_99 (M : PM) (a1 : Int32) : Option PR := cI (F_X11_isDay (sI M 99 0 0) a1) fun v1204 M1203 => (if v1204 = 0 then F_X11_turned_99_18 M1203 a1 1 else F_X11_turned_99_18 M1203 a1 0)
set_option maxRecDepth 100000 in
theorem S_X11_turned_99_18 {l : Launch} (hl : l.stackTraces = false) {M : PM} {x1 : Int32} {t1 : Int32} {r : PR} (h : F_X11_turned_99_18  M x1 t1 = some r) : PW l 2 Y_X11_turned k_X11_turned_18 [vR 99, vI x1] [vI t1, vR 99] M r := by
  unfold F_X11_turned_99_18 at h
  refine p_iconst cn_1 ?_
  refine p_iconst cn_0 ?_
  refine p_cI (av := [_, _, _, _]) ⟨mok_X11_bad, Or.inl ⟨180, 99, 11, 0, _, rfl, rfl, rfl, gt_99, rfl, ins_X11_bad, Or.inl lk_X11_180⟩⟩ (Nat.le_of_ble_eq_true rfl) (Nat.le_of_ble_eq_true rfl) rfl (fun _ h => pc_X11_bad_99 hl h) h (fun v1200 M1199 h => ?_)
  refine p_if_eq h 16 rfl rfl (fun _ h => ?_) (fun _ h => ?_)
  · refine p_aload_n rfl ?_
    refine p_iload_n rfl ?_
    refine p_cI (av := [_, _]) ⟨mok_X11_turnedOn, Or.inl ⟨250, 99, 11, 0, _, rfl, rfl, rfl, gt_99, rfl, ins_X11_turnedOn, Or.inl lk_X11_250⟩⟩ (Nat.le_of_ble_eq_true rfl) (Nat.le_of_ble_eq_true rfl) rfl (fun _ h => pc_X11_turnedOn_99 hl h) h (fun v1202 M1201 h => ?_)
    exact p_iret rfl h
  · refine p_iconst cn_0 ?_
    exact p_iret rfl h
set_option maxRecDepth 100000 in
theorem S_X11_turned_99 {l : Launch} (hl : l.stackTraces = false) {M : PM} {a1 : Int32} {r : PR} (h : F_X11_turned_99 M a1 = some r) : PW l 2 Y_X11_turned k_X11_turned [vR 99, vI a1] [] M r := by
  unfold F_X11_turned_99 at h
  refine p_aload_n rfl ?_
  refine p_iconst cn_0 ?_
  refine p_putI fk_X11_107 gt_99 rfl ?_
  refine p_aload_n rfl ?_
  refine p_iload_n rfl ?_
  refine p_cI (av := [_]) ⟨mok_X11_isDay, Or.inr ⟨247, rfl, rfl, sta_X11_isDay, Or.inl lk_X11_247⟩⟩ (Nat.le_of_ble_eq_true rfl) (Nat.le_of_ble_eq_true rfl) rfl (fun _ h => pc_X11_isDay hl h) h (fun v1204 M1203 h => ?_)
  refine p_if_ne h 9 rfl rfl (fun _ h => ?_) (fun _ h => ?_)
  · refine p_iconst cn_1 ?_
    refine p_goto 10 rfl rfl ?_
    exact p_fg (S_X11_turned_99_18 hl h) ⟨Or.inr rfl, Or.inr rfl, trivial⟩
  · refine p_iconst cn_0 ?_
    exact p_fg (S_X11_turned_99_18 hl h) ⟨Or.inr rfl, Or.inr rfl, trivial⟩
set_option maxRecDepth 100000 in
theorem pc_X11_turned_99 {l : Launch} (hl : l.stackTraces = false) {M : PM} {a1 : Int32} {r : PR} (h : F_X11_turned_99 M a1 = some r) : PC l 2 Y_X11_turned [vR 99, vI a1] M r := pc_of hl (by decide +kernel) cok_X11_turned (Nat.le_of_ble_eq_true rfl) rfl (S_X11_turned_99 hl  h) rfl
def F_X11_holdsAt_99 (M : PM) (a1 : Int32) (a2 : Int32) : Option PR := if ixOK a1 12 = true then if mA M 107 a1.toNatClampNeg = 0 then none else if ixOK a1 12 = true then (if a2 - a2 / (mA M 107 a1.toNatClampNeg) * (mA M 107 a1.toNatClampNeg) = mA M 109 a1.toNatClampNeg then (if (1 : Int32) &&& 1 = 1 then some (.inl (some (.int 1)), M) else none) else (if (0 : Int32) &&& 1 = 0 then some (.inl (some (.int 0)), M) else none)) else none else none
set_option maxRecDepth 100000 in
theorem S_X11_holdsAt_99 {l : Launch} (hl : l.stackTraces = false) {M : PM} {a1 : Int32} {a2 : Int32} {r : PR} (h : F_X11_holdsAt_99 M a1 a2 = some r) : PW l 0 Y_X11_holdsAt k_X11_holdsAt [vR 99, vI a1, vI a2] [] M r := by
  unfold F_X11_holdsAt_99 at h
  refine p_iload_n rfl ?_
  refine p_aload_n rfl ?_
  refine p_getR fk_X11_35 gt_99 rfl rfl ?_
  refine p_iload_n rfl ?_
  refine p_iald gt_107 h (fun h => ?_)
  refine p_irem h (fun h => ?_)
  refine p_aload_n rfl ?_
  refine p_getR fk_X11_41 gt_99 rfl rfl ?_
  refine p_iload_n rfl ?_
  refine p_iald gt_109 h (fun h => ?_)
  refine p_icmp_ne h 13 rfl rfl (fun _ h => ?_) (fun _ h => ?_)
  · refine p_iconst cn_1 ?_
    refine p_goto 14 rfl rfl ?_
    exact p_zret rfl h
  · refine p_iconst cn_0 ?_
    exact p_zret rfl h
set_option maxRecDepth 100000 in
theorem pc_X11_holdsAt_99 {l : Launch} (hl : l.stackTraces = false) {M : PM} {a1 : Int32} {a2 : Int32} {r : PR} (h : F_X11_holdsAt_99 M a1 a2 = some r) : PC l 0 Y_X11_holdsAt [vR 99, vI a1, vI a2] M r := pc_of hl (by decide +kernel) cok_X11_holdsAt (Nat.le_of_ble_eq_true rfl) rfl (S_X11_holdsAt_99 hl  h) rfl
def F_X11_bitsAt_99_31 (k4 : PM → Int32 → Int32 → Int32 → Option PR) (M : PM) (x1 : Int32) (x3 : Int32) (t0 : Int32) (t1 : Int32) : Option PR := lt (t0 ||| t1) fun y1205 => lt (x3 + 1) fun y1206 => k4 M x1 y1205 y1206
def F_X11_bitsAt_99_4 : Nat → PM → Int32 → Int32 → Int32 → Option PR
  | 0, _, _, _, _ => none
  | n + 1, M, x1, x2, x3 => if ixOK 0 6 = true then (if mA M 103 (0 : Int32).toNatClampNeg ≤ x3 then some (.inl (some (.int x2)), M) else cI (F_X11_holdsAt_99 M x3 x1) fun v1208 M1207 => (if v1208 = 0 then F_X11_bitsAt_99_31 (F_X11_bitsAt_99_4 n) M1207 x1 x3 x2 0 else F_X11_bitsAt_99_31 (F_X11_bitsAt_99_4 n) M1207 x1 x3 x2 (1 <<< (x3 &&& 31)))) else none
def F_X11_bitsAt_99 (M : PM) (a1 : Int32) : Option PR := F_X11_bitsAt_99_4 FUEL M a1 0 0
set_option maxRecDepth 100000 in
theorem S_X11_bitsAt_99_31 {l : Launch} (hl : l.stackTraces = false) {k4 : PM → Int32 → Int32 → Int32 → Option PR} (hk4 : ∀ {M : PM} {x1 : Int32} {x2 : Int32} {x3 : Int32} {r : PR}, k4 M x1 x2 x3 = some r → PW l 1 Y_X11_bitsAt k_X11_bitsAt_4 [vR 99, vI x1, vI x2, vI x3] [] M r) {M : PM} {x1 : Int32} {x3 : Int32} {t0 : Int32} {t1 : Int32} {r : PR} (h : F_X11_bitsAt_99_31 k4 M x1 x3 t0 t1 = some r) : PW l 1 Y_X11_bitsAt k_X11_bitsAt_31 [vR 99, vI x1, jk, vI x3] [vI t1, vI t0] M r := by
  unfold F_X11_bitsAt_99_31 at h
  refine p_ior ?_
  have h := lt_h h
  refine p_istore_n (Nat.le_of_ble_eq_true rfl) rfl ?_
  have h := lt_h h
  refine p_iinc (Nat.le_of_ble_eq_true rfl) rfl (ci_1 _) rfl ?_
  refine p_goto 4 rfl rfl ?_
  exact p_fg (hk4 h) ⟨Or.inr rfl, Or.inr rfl, Or.inr rfl, Or.inr rfl, trivial⟩
set_option maxRecDepth 100000 in
theorem S_X11_bitsAt_99_4 {l : Launch} (hl : l.stackTraces = false) : ∀ (n : Nat) {M : PM} {x1 : Int32} {x2 : Int32} {x3 : Int32} {r : PR}, F_X11_bitsAt_99_4  n M x1 x2 x3 = some r → PW l 1 Y_X11_bitsAt k_X11_bitsAt_4 [vR 99, vI x1, vI x2, vI x3] [] M r := by
  intro n
  induction n with
  | zero => intro M x1 x2 x3 r h; exact nomatch (show (none : Option PR) = some r from h)
  | succ n ih =>
    intro M x1 x2 x3 r h
    rw [F_X11_bitsAt_99_4] at h
    refine p_iload_n rfl ?_
    refine p_aload_n rfl ?_
    refine p_getR fk_X11_23 gt_99 rfl rfl ?_
    refine p_iconst cn_0 ?_
    refine p_iald gt_103 h (fun h => ?_)
    refine p_icmp_ge h 25 rfl rfl (fun _ h => ?_) (fun _ h => ?_)
    · refine p_iload_n rfl ?_
      exact p_iret rfl h
    · refine p_iload_n rfl ?_
      refine p_aload_n rfl ?_
      refine p_iload_n rfl ?_
      refine p_iload_n rfl ?_
      refine p_cI (av := [_, _, _]) ⟨mok_X11_holdsAt, Or.inl ⟨243, 99, 11, 0, _, rfl, rfl, rfl, gt_99, rfl, ins_X11_holdsAt, Or.inl lk_X11_243⟩⟩ (Nat.le_of_ble_eq_true rfl) (Nat.le_of_ble_eq_true rfl) rfl (fun _ h => pc_X11_holdsAt_99 hl h) h (fun v1208 M1207 h => ?_)
      refine p_if_eq h 20 rfl rfl (fun _ h => ?_) (fun _ h => ?_)
      · refine p_iconst cn_0 ?_
        exact p_fg (S_X11_bitsAt_99_31 hl (fun h => ih h) h) ⟨Or.inr rfl, Or.inr rfl, Or.inl rfl, Or.inr rfl, trivial⟩
      · refine p_iconst cn_1 ?_
        refine p_iload_n rfl ?_
        refine p_ishl ?_
        refine p_goto 21 rfl rfl ?_
        exact p_fg (S_X11_bitsAt_99_31 hl (fun h => ih h) h) ⟨Or.inr rfl, Or.inr rfl, Or.inl rfl, Or.inr rfl, trivial⟩
set_option maxRecDepth 100000 in
theorem S_X11_bitsAt_99 {l : Launch} (hl : l.stackTraces = false) {M : PM} {a1 : Int32} {r : PR} (h : F_X11_bitsAt_99 M a1 = some r) : PW l 1 Y_X11_bitsAt k_X11_bitsAt [vR 99, vI a1, jk, jk] [] M r := by
  unfold F_X11_bitsAt_99 at h
  refine p_iconst cn_0 ?_
  refine p_istore_n (Nat.le_of_ble_eq_true rfl) rfl ?_
  refine p_iconst cn_0 ?_
  refine p_istore_n (Nat.le_of_ble_eq_true rfl) rfl ?_
  exact p_fg (S_X11_bitsAt_99_4 hl FUEL h) ⟨Or.inr rfl, Or.inr rfl, Or.inr rfl, Or.inr rfl, trivial⟩
set_option maxRecDepth 100000 in
theorem pc_X11_bitsAt_99 {l : Launch} (hl : l.stackTraces = false) {M : PM} {a1 : Int32} {r : PR} (h : F_X11_bitsAt_99 M a1 = some r) : PC l 1 Y_X11_bitsAt [vR 99, vI a1] M r := pc_of hl (by decide +kernel) cok_X11_bitsAt (Nat.le_of_ble_eq_true rfl) rfl (S_X11_bitsAt_99 hl  h) rfl
def F_X11_holds_99_18 (M : PM) (x1 : Int32) (t1 : Int32) : Option PR := cI (F_X11_bad_99 M t1 1 0) fun v1210 M1209 => (if v1210 = 0 then cI (F_X11_turnedOn_99 M1209 x1) fun v1212 M1211 => cI (F_X11_bitsAt_99 M1211 v1212) fun v1214 M1213 => some (.inl (some (.int v1214)), M1213) else some (.inl (some (.int 0)), M1209))
def F_X11_holds_99 (M : PM) (a1 : Int32) : Option PR := cI (F_X11_isDay (sI M 99 0 0) a1) fun v1216 M1215 => (if v1216 = 0 then F_X11_holds_99_18 M1215 a1 1 else F_X11_holds_99_18 M1215 a1 0)
set_option maxRecDepth 100000 in
theorem S_X11_holds_99_18 {l : Launch} (hl : l.stackTraces = false) {M : PM} {x1 : Int32} {t1 : Int32} {r : PR} (h : F_X11_holds_99_18  M x1 t1 = some r) : PW l 2 Y_X11_holds k_X11_holds_18 [vR 99, vI x1] [vI t1, vR 99] M r := by
  unfold F_X11_holds_99_18 at h
  refine p_iconst cn_1 ?_
  refine p_iconst cn_0 ?_
  refine p_cI (av := [_, _, _, _]) ⟨mok_X11_bad, Or.inl ⟨180, 99, 11, 0, _, rfl, rfl, rfl, gt_99, rfl, ins_X11_bad, Or.inl lk_X11_180⟩⟩ (Nat.le_of_ble_eq_true rfl) (Nat.le_of_ble_eq_true rfl) rfl (fun _ h => pc_X11_bad_99 hl h) h (fun v1210 M1209 h => ?_)
  refine p_if_eq h 16 rfl rfl (fun _ h => ?_) (fun _ h => ?_)
  · refine p_aload_n rfl ?_
    refine p_aload_n rfl ?_
    refine p_iload_n rfl ?_
    refine p_cI (av := [_, _]) ⟨mok_X11_turnedOn, Or.inl ⟨250, 99, 11, 0, _, rfl, rfl, rfl, gt_99, rfl, ins_X11_turnedOn, Or.inl lk_X11_250⟩⟩ (Nat.le_of_ble_eq_true rfl) (Nat.le_of_ble_eq_true rfl) rfl (fun _ h => pc_X11_turnedOn_99 hl h) h (fun v1212 M1211 h => ?_)
    refine p_cI (av := [_, _]) ⟨mok_X11_bitsAt, Or.inl ⟨253, 99, 11, 0, _, rfl, rfl, rfl, gt_99, rfl, ins_X11_bitsAt, Or.inl lk_X11_253⟩⟩ (Nat.le_of_ble_eq_true rfl) (Nat.le_of_ble_eq_true rfl) rfl (fun _ h => pc_X11_bitsAt_99 hl h) h (fun v1214 M1213 h => ?_)
    exact p_iret rfl h
  · refine p_iconst cn_0 ?_
    exact p_iret rfl h
set_option maxRecDepth 100000 in
theorem S_X11_holds_99 {l : Launch} (hl : l.stackTraces = false) {M : PM} {a1 : Int32} {r : PR} (h : F_X11_holds_99 M a1 = some r) : PW l 2 Y_X11_holds k_X11_holds [vR 99, vI a1] [] M r := by
  unfold F_X11_holds_99 at h
  refine p_aload_n rfl ?_
  refine p_iconst cn_0 ?_
  refine p_putI fk_X11_107 gt_99 rfl ?_
  refine p_aload_n rfl ?_
  refine p_iload_n rfl ?_
  refine p_cI (av := [_]) ⟨mok_X11_isDay, Or.inr ⟨247, rfl, rfl, sta_X11_isDay, Or.inl lk_X11_247⟩⟩ (Nat.le_of_ble_eq_true rfl) (Nat.le_of_ble_eq_true rfl) rfl (fun _ h => pc_X11_isDay hl h) h (fun v1216 M1215 h => ?_)
  refine p_if_ne h 9 rfl rfl (fun _ h => ?_) (fun _ h => ?_)
  · refine p_iconst cn_1 ?_
    refine p_goto 10 rfl rfl ?_
    exact p_fg (S_X11_holds_99_18 hl h) ⟨Or.inr rfl, Or.inr rfl, trivial⟩
  · refine p_iconst cn_0 ?_
    exact p_fg (S_X11_holds_99_18 hl h) ⟨Or.inr rfl, Or.inr rfl, trivial⟩
set_option maxRecDepth 100000 in
theorem pc_X11_holds_99 {l : Launch} (hl : l.stackTraces = false) {M : PM} {a1 : Int32} {r : PR} (h : F_X11_holds_99 M a1 = some r) : PC l 2 Y_X11_holds [vR 99, vI a1] M r := pc_of hl (by decide +kernel) cok_X11_holds (Nat.le_of_ble_eq_true rfl) rfl (S_X11_holds_99 hl  h) rfl
def F_X11_inHouseAt_99 (M : PM) (a1 : Int32) (a2 : Int32) (a3 : Int32) : Option PR := if ixOK a1 10 = true then if a1.toNatClampNeg < 10 ∧ ixOK a2 12 = true then if ixOK a2 12 = true then if mA M 107 a2.toNatClampNeg = 0 then none else if ixOK a2 12 = true then (if (a3 + (mG M 115 a1.toNatClampNeg a2.toNatClampNeg)) - (a3 + (mG M 115 a1.toNatClampNeg a2.toNatClampNeg)) / (mA M 107 a2.toNatClampNeg) * (mA M 107 a2.toNatClampNeg) = mA M 109 a2.toNatClampNeg then (if (1 : Int32) &&& 1 = 1 then some (.inl (some (.int 1)), M) else none) else (if (0 : Int32) &&& 1 = 0 then some (.inl (some (.int 0)), M) else none)) else none else none else none else none
set_option maxRecDepth 100000 in
theorem S_X11_inHouseAt_99 {l : Launch} (hl : l.stackTraces = false) {M : PM} {a1 : Int32} {a2 : Int32} {a3 : Int32} {r : PR} (h : F_X11_inHouseAt_99 M a1 a2 a3 = some r) : PW l 0 Y_X11_inHouseAt k_X11_inHouseAt [vR 99, vI a1, vI a2, vI a3] [] M r := by
  unfold F_X11_inHouseAt_99 at h
  refine p_iload_n rfl ?_
  refine p_aload_n rfl ?_
  refine p_getR fk_X11_61 gt_99 rfl rfl ?_
  refine p_iload_n rfl ?_
  refine p_aldG gt_115 h (fun h => ?_)
  refine p_iload_n rfl ?_
  refine p_ialdG gt_115 h (fun h => ?_)
  refine p_iadd ?_
  refine p_aload_n rfl ?_
  refine p_getR fk_X11_35 gt_99 rfl rfl ?_
  refine p_iload_n rfl ?_
  refine p_iald gt_107 h (fun h => ?_)
  refine p_irem h (fun h => ?_)
  refine p_aload_n rfl ?_
  refine p_getR fk_X11_41 gt_99 rfl rfl ?_
  refine p_iload_n rfl ?_
  refine p_iald gt_109 h (fun h => ?_)
  refine p_icmp_ne h 20 rfl rfl (fun _ h => ?_) (fun _ h => ?_)
  · refine p_iconst cn_1 ?_
    refine p_goto 21 rfl rfl ?_
    exact p_zret rfl h
  · refine p_iconst cn_0 ?_
    exact p_zret rfl h
set_option maxRecDepth 100000 in
theorem pc_X11_inHouseAt_99 {l : Launch} (hl : l.stackTraces = false) {M : PM} {a1 : Int32} {a2 : Int32} {a3 : Int32} {r : PR} (h : F_X11_inHouseAt_99 M a1 a2 a3 = some r) : PC l 0 Y_X11_inHouseAt [vR 99, vI a1, vI a2, vI a3] M r := pc_of hl (by decide +kernel) cok_X11_inHouseAt (Nat.le_of_ble_eq_true rfl) rfl (S_X11_inHouseAt_99 hl  h) rfl
def F_X11_inHouseBits_99_36 (k5 : PM → Int32 → Int32 → Int32 → Int32 → Option PR) (M : PM) (x1 : Int32) (x2 : Int32) (x4 : Int32) (t0 : Int32) (t1 : Int32) : Option PR := lt (t0 ||| t1) fun y1217 => lt (x4 + 1) fun y1218 => k5 M x1 x2 y1217 y1218
def F_X11_inHouseBits_99_5 : Nat → PM → Int32 → Int32 → Int32 → Int32 → Option PR
  | 0, _, _, _, _, _ => none
  | n + 1, M, x1, x2, x3, x4 => if ixOK 0 6 = true then (if mA M 103 (0 : Int32).toNatClampNeg ≤ x4 then some (.inl (some (.int x3)), M) else cI (F_X11_inHouseAt_99 M x1 x4 x2) fun v1220 M1219 => (if v1220 = 0 then F_X11_inHouseBits_99_36 (F_X11_inHouseBits_99_5 n) M1219 x1 x2 x4 x3 0 else F_X11_inHouseBits_99_36 (F_X11_inHouseBits_99_5 n) M1219 x1 x2 x4 x3 (1 <<< (x4 &&& 31)))) else none
def F_X11_inHouseBits_99 (M : PM) (a1 : Int32) (a2 : Int32) : Option PR := F_X11_inHouseBits_99_5 FUEL M a1 a2 0 0
set_option maxRecDepth 100000 in
theorem S_X11_inHouseBits_99_36 {l : Launch} (hl : l.stackTraces = false) {k5 : PM → Int32 → Int32 → Int32 → Int32 → Option PR} (hk5 : ∀ {M : PM} {x1 : Int32} {x2 : Int32} {x3 : Int32} {x4 : Int32} {r : PR}, k5 M x1 x2 x3 x4 = some r → PW l 1 Y_X11_inHouseBits k_X11_inHouseBits_5 [vR 99, vI x1, vI x2, vI x3, vI x4] [] M r) {M : PM} {x1 : Int32} {x2 : Int32} {x4 : Int32} {t0 : Int32} {t1 : Int32} {r : PR} (h : F_X11_inHouseBits_99_36 k5 M x1 x2 x4 t0 t1 = some r) : PW l 1 Y_X11_inHouseBits k_X11_inHouseBits_36 [vR 99, vI x1, vI x2, jk, vI x4] [vI t1, vI t0] M r := by
  unfold F_X11_inHouseBits_99_36 at h
  refine p_ior ?_
  have h := lt_h h
  refine p_istore_n (Nat.le_of_ble_eq_true rfl) rfl ?_
  have h := lt_h h
  refine p_iinc (Nat.le_of_ble_eq_true rfl) rfl (ci_1 _) rfl ?_
  refine p_goto 4 rfl rfl ?_
  exact p_fg (hk5 h) ⟨Or.inr rfl, Or.inr rfl, Or.inr rfl, Or.inr rfl, Or.inr rfl, trivial⟩
set_option maxRecDepth 100000 in
theorem S_X11_inHouseBits_99_5 {l : Launch} (hl : l.stackTraces = false) : ∀ (n : Nat) {M : PM} {x1 : Int32} {x2 : Int32} {x3 : Int32} {x4 : Int32} {r : PR}, F_X11_inHouseBits_99_5  n M x1 x2 x3 x4 = some r → PW l 1 Y_X11_inHouseBits k_X11_inHouseBits_5 [vR 99, vI x1, vI x2, vI x3, vI x4] [] M r := by
  intro n
  induction n with
  | zero => intro M x1 x2 x3 x4 r h; exact nomatch (show (none : Option PR) = some r from h)
  | succ n ih =>
    intro M x1 x2 x3 x4 r h
    rw [F_X11_inHouseBits_99_5] at h
    refine p_iload rfl ?_
    refine p_aload_n rfl ?_
    refine p_getR fk_X11_23 gt_99 rfl rfl ?_
    refine p_iconst cn_0 ?_
    refine p_iald gt_103 h (fun h => ?_)
    refine p_icmp_ge h 26 rfl rfl (fun _ h => ?_) (fun _ h => ?_)
    · refine p_iload_n rfl ?_
      exact p_iret rfl h
    · refine p_iload_n rfl ?_
      refine p_aload_n rfl ?_
      refine p_iload_n rfl ?_
      refine p_iload rfl ?_
      refine p_iload_n rfl ?_
      refine p_cI (av := [_, _, _, _]) ⟨mok_X11_inHouseAt, Or.inl ⟨256, 99, 11, 0, _, rfl, rfl, rfl, gt_99, rfl, ins_X11_inHouseAt, Or.inl lk_X11_256⟩⟩ (Nat.le_of_ble_eq_true rfl) (Nat.le_of_ble_eq_true rfl) rfl (fun _ h => pc_X11_inHouseAt_99 hl h) h (fun v1220 M1219 h => ?_)
      refine p_if_eq h 21 rfl rfl (fun _ h => ?_) (fun _ h => ?_)
      · refine p_iconst cn_0 ?_
        exact p_fg (S_X11_inHouseBits_99_36 hl (fun h => ih h) h) ⟨Or.inr rfl, Or.inr rfl, Or.inr rfl, Or.inl rfl, Or.inr rfl, trivial⟩
      · refine p_iconst cn_1 ?_
        refine p_iload rfl ?_
        refine p_ishl ?_
        refine p_goto 22 rfl rfl ?_
        exact p_fg (S_X11_inHouseBits_99_36 hl (fun h => ih h) h) ⟨Or.inr rfl, Or.inr rfl, Or.inr rfl, Or.inl rfl, Or.inr rfl, trivial⟩
set_option maxRecDepth 100000 in
theorem S_X11_inHouseBits_99 {l : Launch} (hl : l.stackTraces = false) {M : PM} {a1 : Int32} {a2 : Int32} {r : PR} (h : F_X11_inHouseBits_99 M a1 a2 = some r) : PW l 1 Y_X11_inHouseBits k_X11_inHouseBits [vR 99, vI a1, vI a2, jk, jk] [] M r := by
  unfold F_X11_inHouseBits_99 at h
  refine p_iconst cn_0 ?_
  refine p_istore_n (Nat.le_of_ble_eq_true rfl) rfl ?_
  refine p_iconst cn_0 ?_
  refine p_istore (Nat.le_of_ble_eq_true rfl) rfl ?_
  exact p_fg (S_X11_inHouseBits_99_5 hl FUEL h) ⟨Or.inr rfl, Or.inr rfl, Or.inr rfl, Or.inr rfl, Or.inr rfl, trivial⟩
set_option maxRecDepth 100000 in
theorem pc_X11_inHouseBits_99 {l : Launch} (hl : l.stackTraces = false) {M : PM} {a1 : Int32} {a2 : Int32} {r : PR} (h : F_X11_inHouseBits_99 M a1 a2 = some r) : PC l 1 Y_X11_inHouseBits [vR 99, vI a1, vI a2] M r := pc_of hl (by decide +kernel) cok_X11_inHouseBits (Nat.le_of_ble_eq_true rfl) rfl (S_X11_inHouseBits_99 hl  h) rfl
def F_X11_inHouse_99_40 (M : PM) (x1 : Int32) (x2 : Int32) (t1 : Int32) : Option PR := cI (F_X11_bad_99 M t1 2 1) fun v1222 M1221 => (if v1222 = 0 then cI (F_X11_turnedOn_99 M1221 x1) fun v1224 M1223 => cI (F_X11_inHouseBits_99 M1223 x2 v1224) fun v1226 M1225 => some (.inl (some (.int v1226)), M1225) else some (.inl (some (.int 0)), M1221))
def F_X11_inHouse_99_18 (M : PM) (x1 : Int32) (x2 : Int32) (t1 : Int32) : Option PR := cI (F_X11_bad_99 M t1 1 0) fun v1228 M1227 => (if v1228 = 0 then cI (F_X11_isHouse_99 M1227 x2) fun v1230 M1229 => (if v1230 = 0 then F_X11_inHouse_99_40 M1229 x1 x2 1 else F_X11_inHouse_99_40 M1229 x1 x2 0) else some (.inl (some (.int 0)), M1227))
def F_X11_inHouse_99 (M : PM) (a1 : Int32) (a2 : Int32) : Option PR := cI (F_X11_isDay (sI M 99 0 0) a1) fun v1232 M1231 => (if v1232 = 0 then F_X11_inHouse_99_18 M1231 a1 a2 1 else F_X11_inHouse_99_18 M1231 a1 a2 0)
set_option maxRecDepth 100000 in
theorem S_X11_inHouse_99_40 {l : Launch} (hl : l.stackTraces = false) {M : PM} {x1 : Int32} {x2 : Int32} {t1 : Int32} {r : PR} (h : F_X11_inHouse_99_40  M x1 x2 t1 = some r) : PW l 2 Y_X11_inHouse k_X11_inHouse_40 [vR 99, vI x1, vI x2] [vI t1, vR 99] M r := by
  unfold F_X11_inHouse_99_40 at h
  refine p_iconst cn_2 ?_
  refine p_iconst cn_1 ?_
  refine p_cI (av := [_, _, _, _]) ⟨mok_X11_bad, Or.inl ⟨180, 99, 11, 0, _, rfl, rfl, rfl, gt_99, rfl, ins_X11_bad, Or.inl lk_X11_180⟩⟩ (Nat.le_of_ble_eq_true rfl) (Nat.le_of_ble_eq_true rfl) rfl (fun _ h => pc_X11_bad_99 hl h) h (fun v1222 M1221 h => ?_)
  refine p_if_eq h 28 rfl rfl (fun _ h => ?_) (fun _ h => ?_)
  · refine p_aload_n rfl ?_
    refine p_iload_n rfl ?_
    refine p_aload_n rfl ?_
    refine p_iload_n rfl ?_
    refine p_cI (av := [_, _]) ⟨mok_X11_turnedOn, Or.inl ⟨250, 99, 11, 0, _, rfl, rfl, rfl, gt_99, rfl, ins_X11_turnedOn, Or.inl lk_X11_250⟩⟩ (Nat.le_of_ble_eq_true rfl) (Nat.le_of_ble_eq_true rfl) rfl (fun _ h => pc_X11_turnedOn_99 hl h) h (fun v1224 M1223 h => ?_)
    refine p_cI (av := [_, _, _]) ⟨mok_X11_inHouseBits, Or.inl ⟨259, 99, 11, 0, _, rfl, rfl, rfl, gt_99, rfl, ins_X11_inHouseBits, Or.inl lk_X11_259⟩⟩ (Nat.le_of_ble_eq_true rfl) (Nat.le_of_ble_eq_true rfl) rfl (fun _ h => pc_X11_inHouseBits_99 hl h) h (fun v1226 M1225 h => ?_)
    exact p_iret rfl h
  · refine p_iconst cn_0 ?_
    exact p_iret rfl h
set_option maxRecDepth 100000 in
theorem S_X11_inHouse_99_18 {l : Launch} (hl : l.stackTraces = false) {M : PM} {x1 : Int32} {x2 : Int32} {t1 : Int32} {r : PR} (h : F_X11_inHouse_99_18  M x1 x2 t1 = some r) : PW l 2 Y_X11_inHouse k_X11_inHouse_18 [vR 99, vI x1, vI x2] [vI t1, vR 99] M r := by
  unfold F_X11_inHouse_99_18 at h
  refine p_iconst cn_1 ?_
  refine p_iconst cn_0 ?_
  refine p_cI (av := [_, _, _, _]) ⟨mok_X11_bad, Or.inl ⟨180, 99, 11, 0, _, rfl, rfl, rfl, gt_99, rfl, ins_X11_bad, Or.inl lk_X11_180⟩⟩ (Nat.le_of_ble_eq_true rfl) (Nat.le_of_ble_eq_true rfl) rfl (fun _ h => pc_X11_bad_99 hl h) h (fun v1228 M1227 h => ?_)
  refine p_if_ne h 26 rfl rfl (fun _ h => ?_) (fun _ h => ?_)
  · refine p_aload_n rfl ?_
    refine p_aload_n rfl ?_
    refine p_iload_n rfl ?_
    refine p_cI (av := [_, _]) ⟨mok_X11_isHouse, Or.inl ⟨239, 99, 11, 0, _, rfl, rfl, rfl, gt_99, rfl, ins_X11_isHouse, Or.inl lk_X11_239⟩⟩ (Nat.le_of_ble_eq_true rfl) (Nat.le_of_ble_eq_true rfl) rfl (fun _ h => pc_X11_isHouse_99 hl h) h (fun v1230 M1229 h => ?_)
    refine p_if_ne h 21 rfl rfl (fun _ h => ?_) (fun _ h => ?_)
    · refine p_iconst cn_1 ?_
      refine p_goto 22 rfl rfl ?_
      exact p_fg (S_X11_inHouse_99_40 hl h) ⟨Or.inr rfl, Or.inr rfl, Or.inr rfl, trivial⟩
    · refine p_iconst cn_0 ?_
      exact p_fg (S_X11_inHouse_99_40 hl h) ⟨Or.inr rfl, Or.inr rfl, Or.inr rfl, trivial⟩
  · refine p_iconst cn_0 ?_
    exact p_iret rfl h
set_option maxRecDepth 100000 in
theorem S_X11_inHouse_99 {l : Launch} (hl : l.stackTraces = false) {M : PM} {a1 : Int32} {a2 : Int32} {r : PR} (h : F_X11_inHouse_99 M a1 a2 = some r) : PW l 2 Y_X11_inHouse k_X11_inHouse [vR 99, vI a1, vI a2] [] M r := by
  unfold F_X11_inHouse_99 at h
  refine p_aload_n rfl ?_
  refine p_iconst cn_0 ?_
  refine p_putI fk_X11_107 gt_99 rfl ?_
  refine p_aload_n rfl ?_
  refine p_iload_n rfl ?_
  refine p_cI (av := [_]) ⟨mok_X11_isDay, Or.inr ⟨247, rfl, rfl, sta_X11_isDay, Or.inl lk_X11_247⟩⟩ (Nat.le_of_ble_eq_true rfl) (Nat.le_of_ble_eq_true rfl) rfl (fun _ h => pc_X11_isDay hl h) h (fun v1232 M1231 h => ?_)
  refine p_if_ne h 9 rfl rfl (fun _ h => ?_) (fun _ h => ?_)
  · refine p_iconst cn_1 ?_
    refine p_goto 10 rfl rfl ?_
    exact p_fg (S_X11_inHouse_99_18 hl h) ⟨Or.inr rfl, Or.inr rfl, Or.inr rfl, trivial⟩
  · refine p_iconst cn_0 ?_
    exact p_fg (S_X11_inHouse_99_18 hl h) ⟨Or.inr rfl, Or.inr rfl, Or.inr rfl, trivial⟩
set_option maxRecDepth 100000 in
theorem pc_X11_inHouse_99 {l : Launch} (hl : l.stackTraces = false) {M : PM} {a1 : Int32} {a2 : Int32} {r : PR} (h : F_X11_inHouse_99 M a1 a2 = some r) : PC l 2 Y_X11_inHouse [vR 99, vI a1, vI a2] M r := pc_of hl (by decide +kernel) cok_X11_inHouse (Nat.le_of_ble_eq_true rfl) rfl (S_X11_inHouse_99 hl  h) rfl
def F_X11_clashes_99_71 (k39 : PM → Int32 → Int32 → Int32 → Option PR) (M : PM) (x3 : Int32) (x4 : Int32) (t0 : Int32) (t1 : Int32) : Option PR := lt (t0 + t1) fun y1233 => lt (x4 + 1) fun y1234 => k39 M y1233 x3 y1234
def F_X11_clashes_99_39 : Nat → PM → Int32 → Int32 → Int32 → Option PR
  | 0, _, _, _, _ => none
  | n + 1, M, x2, x3, x4 => if ixOK 2 6 = true then (if mA M 103 (2 : Int32).toNatClampNeg ≤ x4 then some (.inl (some (.int x2)), M) else cI (F_X11_inHouseBits_99 M x4 x3) fun v1236 M1235 => cI (F_X11_bitsAt_99 M1235 x3) fun v1238 M1237 => (if v1236 = v1238 then F_X11_clashes_99_71 (F_X11_clashes_99_39 n) M1237 x3 x4 x2 0 else F_X11_clashes_99_71 (F_X11_clashes_99_39 n) M1237 x3 x4 x2 1)) else none
def F_X11_clashes_99_18 (M : PM) (x1 : Int32) (t1 : Int32) : Option PR := cI (F_X11_bad_99 M t1 1 0) fun v1240 M1239 => (if v1240 = 0 then cI (F_X11_turnedOn_99 M1239 x1) fun v1242 M1241 => F_X11_clashes_99_39 FUEL M1241 0 v1242 0 else some (.inl (some (.int 0)), M1239))
def F_X11_clashes_99 (M : PM) (a1 : Int32) : Option PR := cI (F_X11_isDay (sI M 99 0 0) a1) fun v1244 M1243 => (if v1244 = 0 then F_X11_clashes_99_18 M1243 a1 1 else F_X11_clashes_99_18 M1243 a1 0)
set_option maxRecDepth 100000 in
theorem S_X11_clashes_99_71 {l : Launch} (hl : l.stackTraces = false) {k39 : PM → Int32 → Int32 → Int32 → Option PR} (hk39 : ∀ {M : PM} {x2 : Int32} {x3 : Int32} {x4 : Int32} {r : PR}, k39 M x2 x3 x4 = some r → PW l 2 Y_X11_clashes k_X11_clashes_39 [vR 99, jk, vI x2, vI x3, vI x4] [] M r) {M : PM} {x3 : Int32} {x4 : Int32} {t0 : Int32} {t1 : Int32} {r : PR} (h : F_X11_clashes_99_71 k39 M x3 x4 t0 t1 = some r) : PW l 2 Y_X11_clashes k_X11_clashes_71 [vR 99, jk, jk, vI x3, vI x4] [vI t1, vI t0] M r := by
  unfold F_X11_clashes_99_71 at h
  refine p_iadd ?_
  have h := lt_h h
  refine p_istore_n (Nat.le_of_ble_eq_true rfl) rfl ?_
  have h := lt_h h
  refine p_iinc (Nat.le_of_ble_eq_true rfl) rfl (ci_1 _) rfl ?_
  refine p_goto 24 rfl rfl ?_
  exact p_fg (hk39 h) ⟨Or.inr rfl, Or.inl rfl, Or.inr rfl, Or.inr rfl, Or.inr rfl, trivial⟩
set_option maxRecDepth 100000 in
theorem S_X11_clashes_99_39 {l : Launch} (hl : l.stackTraces = false) : ∀ (n : Nat) {M : PM} {x2 : Int32} {x3 : Int32} {x4 : Int32} {r : PR}, F_X11_clashes_99_39  n M x2 x3 x4 = some r → PW l 2 Y_X11_clashes k_X11_clashes_39 [vR 99, jk, vI x2, vI x3, vI x4] [] M r := by
  intro n
  induction n with
  | zero => intro M x2 x3 x4 r h; exact nomatch (show (none : Option PR) = some r from h)
  | succ n ih =>
    intro M x2 x3 x4 r h
    rw [F_X11_clashes_99_39] at h
    refine p_iload rfl ?_
    refine p_aload_n rfl ?_
    refine p_getR fk_X11_23 gt_99 rfl rfl ?_
    refine p_iconst cn_2 ?_
    refine p_iald gt_103 h (fun h => ?_)
    refine p_icmp_ge h 46 rfl rfl (fun _ h => ?_) (fun _ h => ?_)
    · refine p_iload_n rfl ?_
      exact p_iret rfl h
    · refine p_iload_n rfl ?_
      refine p_aload_n rfl ?_
      refine p_iload rfl ?_
      refine p_iload_n rfl ?_
      refine p_cI (av := [_, _, _]) ⟨mok_X11_inHouseBits, Or.inl ⟨259, 99, 11, 0, _, rfl, rfl, rfl, gt_99, rfl, ins_X11_inHouseBits, Or.inl lk_X11_259⟩⟩ (Nat.le_of_ble_eq_true rfl) (Nat.le_of_ble_eq_true rfl) rfl (fun _ h => pc_X11_inHouseBits_99 hl h) h (fun v1236 M1235 h => ?_)
      refine p_aload_n rfl ?_
      refine p_iload_n rfl ?_
      refine p_cI (av := [_, _]) ⟨mok_X11_bitsAt, Or.inl ⟨253, 99, 11, 0, _, rfl, rfl, rfl, gt_99, rfl, ins_X11_bitsAt, Or.inl lk_X11_253⟩⟩ (Nat.le_of_ble_eq_true rfl) (Nat.le_of_ble_eq_true rfl) rfl (fun _ h => pc_X11_bitsAt_99 hl h) h (fun v1238 M1237 h => ?_)
      refine p_icmp_ne h 41 rfl rfl (fun _ h => ?_) (fun _ h => ?_)
      · refine p_iconst cn_0 ?_
        refine p_goto 42 rfl rfl ?_
        exact p_fg (S_X11_clashes_99_71 hl (fun h => ih h) h) ⟨Or.inr rfl, Or.inl rfl, Or.inl rfl, Or.inr rfl, Or.inr rfl, trivial⟩
      · refine p_iconst cn_1 ?_
        exact p_fg (S_X11_clashes_99_71 hl (fun h => ih h) h) ⟨Or.inr rfl, Or.inl rfl, Or.inl rfl, Or.inr rfl, Or.inr rfl, trivial⟩
set_option maxRecDepth 100000 in
theorem S_X11_clashes_99_18 {l : Launch} (hl : l.stackTraces = false) {M : PM} {x1 : Int32} {t1 : Int32} {r : PR} (h : F_X11_clashes_99_18  M x1 t1 = some r) : PW l 2 Y_X11_clashes k_X11_clashes_18 [vR 99, vI x1, jk, jk, jk] [vI t1, vR 99] M r := by
  unfold F_X11_clashes_99_18 at h
  refine p_iconst cn_1 ?_
  refine p_iconst cn_0 ?_
  refine p_cI (av := [_, _, _, _]) ⟨mok_X11_bad, Or.inl ⟨180, 99, 11, 0, _, rfl, rfl, rfl, gt_99, rfl, ins_X11_bad, Or.inl lk_X11_180⟩⟩ (Nat.le_of_ble_eq_true rfl) (Nat.le_of_ble_eq_true rfl) rfl (fun _ h => pc_X11_bad_99 hl h) h (fun v1240 M1239 h => ?_)
  refine p_if_eq h 16 rfl rfl (fun _ h => ?_) (fun _ h => ?_)
  · refine p_iconst cn_0 ?_
    refine p_istore_n (Nat.le_of_ble_eq_true rfl) rfl ?_
    refine p_aload_n rfl ?_
    refine p_iload_n rfl ?_
    refine p_cI (av := [_, _]) ⟨mok_X11_turnedOn, Or.inl ⟨250, 99, 11, 0, _, rfl, rfl, rfl, gt_99, rfl, ins_X11_turnedOn, Or.inl lk_X11_250⟩⟩ (Nat.le_of_ble_eq_true rfl) (Nat.le_of_ble_eq_true rfl) rfl (fun _ h => pc_X11_turnedOn_99 hl h) h (fun v1242 M1241 h => ?_)
    refine p_istore_n (Nat.le_of_ble_eq_true rfl) rfl ?_
    refine p_iconst cn_0 ?_
    refine p_istore (Nat.le_of_ble_eq_true rfl) rfl ?_
    exact p_fg (S_X11_clashes_99_39 hl FUEL h) ⟨Or.inr rfl, Or.inl rfl, Or.inr rfl, Or.inr rfl, Or.inr rfl, trivial⟩
  · refine p_iconst cn_0 ?_
    exact p_iret rfl h
set_option maxRecDepth 100000 in
theorem S_X11_clashes_99 {l : Launch} (hl : l.stackTraces = false) {M : PM} {a1 : Int32} {r : PR} (h : F_X11_clashes_99 M a1 = some r) : PW l 2 Y_X11_clashes k_X11_clashes [vR 99, vI a1, jk, jk, jk] [] M r := by
  unfold F_X11_clashes_99 at h
  refine p_aload_n rfl ?_
  refine p_iconst cn_0 ?_
  refine p_putI fk_X11_107 gt_99 rfl ?_
  refine p_aload_n rfl ?_
  refine p_iload_n rfl ?_
  refine p_cI (av := [_]) ⟨mok_X11_isDay, Or.inr ⟨247, rfl, rfl, sta_X11_isDay, Or.inl lk_X11_247⟩⟩ (Nat.le_of_ble_eq_true rfl) (Nat.le_of_ble_eq_true rfl) rfl (fun _ h => pc_X11_isDay hl h) h (fun v1244 M1243 h => ?_)
  refine p_if_ne h 9 rfl rfl (fun _ h => ?_) (fun _ h => ?_)
  · refine p_iconst cn_1 ?_
    refine p_goto 10 rfl rfl ?_
    exact p_fg (S_X11_clashes_99_18 hl h) ⟨Or.inr rfl, Or.inr rfl, Or.inl rfl, Or.inl rfl, Or.inl rfl, trivial⟩
  · refine p_iconst cn_0 ?_
    exact p_fg (S_X11_clashes_99_18 hl h) ⟨Or.inr rfl, Or.inr rfl, Or.inl rfl, Or.inl rfl, Or.inl rfl, trivial⟩
set_option maxRecDepth 100000 in
theorem pc_X11_clashes_99 {l : Launch} (hl : l.stackTraces = false) {M : PM} {a1 : Int32} {r : PR} (h : F_X11_clashes_99 M a1 = some r) : PC l 2 Y_X11_clashes [vR 99, vI a1] M r := pc_of hl (by decide +kernel) cok_X11_clashes (Nat.le_of_ble_eq_true rfl) rfl (S_X11_clashes_99 hl  h) rfl
def F_X11_otherHoldsAt_99 (M : PM) (a1 : Int32) (a2 : Int32) : Option PR := if ixOK a1 6 = true then if mA M 111 a1.toNatClampNeg = 0 then none else if ixOK a1 6 = true then (if a2 - a2 / (mA M 111 a1.toNatClampNeg) * (mA M 111 a1.toNatClampNeg) = mA M 113 a1.toNatClampNeg then (if (1 : Int32) &&& 1 = 1 then some (.inl (some (.int 1)), M) else none) else (if (0 : Int32) &&& 1 = 0 then some (.inl (some (.int 0)), M) else none)) else none else none
set_option maxRecDepth 100000 in
theorem S_X11_otherHoldsAt_99 {l : Launch} (hl : l.stackTraces = false) {M : PM} {a1 : Int32} {a2 : Int32} {r : PR} (h : F_X11_otherHoldsAt_99 M a1 a2 = some r) : PW l 0 Y_X11_otherHoldsAt k_X11_otherHoldsAt [vR 99, vI a1, vI a2] [] M r := by
  unfold F_X11_otherHoldsAt_99 at h
  refine p_iload_n rfl ?_
  refine p_aload_n rfl ?_
  refine p_getR fk_X11_47 gt_99 rfl rfl ?_
  refine p_iload_n rfl ?_
  refine p_iald gt_111 h (fun h => ?_)
  refine p_irem h (fun h => ?_)
  refine p_aload_n rfl ?_
  refine p_getR fk_X11_53 gt_99 rfl rfl ?_
  refine p_iload_n rfl ?_
  refine p_iald gt_113 h (fun h => ?_)
  refine p_icmp_ne h 13 rfl rfl (fun _ h => ?_) (fun _ h => ?_)
  · refine p_iconst cn_1 ?_
    refine p_goto 14 rfl rfl ?_
    exact p_zret rfl h
  · refine p_iconst cn_0 ?_
    exact p_zret rfl h
set_option maxRecDepth 100000 in
theorem pc_X11_otherHoldsAt_99 {l : Launch} (hl : l.stackTraces = false) {M : PM} {a1 : Int32} {a2 : Int32} {r : PR} (h : F_X11_otherHoldsAt_99 M a1 a2 = some r) : PC l 0 Y_X11_otherHoldsAt [vR 99, vI a1, vI a2] M r := pc_of hl (by decide +kernel) cok_X11_otherHoldsAt (Nat.le_of_ble_eq_true rfl) rfl (S_X11_otherHoldsAt_99 hl  h) rfl
def F_X11_ones_4 : Nat → PM → Int32 → Int32 → Int32 → Option PR
  | 0, _, _, _, _ => none
  | n + 1, M, x0, x1, x2 => (if 12 ≤ x2 then some (.inl (some (.int x1)), M) else lt (x1 + ((x0 >>> (x2 &&& 31)) &&& 1)) fun y1245 => lt (x2 + 1) fun y1246 => F_X11_ones_4 n M x0 y1245 y1246)
def F_X11_ones (M : PM) (a0 : Int32) : Option PR := F_X11_ones_4 FUEL M a0 0 0
set_option maxRecDepth 100000 in
theorem S_X11_ones_4 {l : Launch} (hl : l.stackTraces = false) : ∀ (n : Nat) {M : PM} {x0 : Int32} {x1 : Int32} {x2 : Int32} {r : PR}, F_X11_ones_4  n M x0 x1 x2 = some r → PW l 0 Y_X11_ones k_X11_ones_4 [vI x0, vI x1, vI x2] [] M r := by
  intro n
  induction n with
  | zero => intro M x0 x1 x2 r h; exact nomatch (show (none : Option PR) = some r from h)
  | succ n ih =>
    intro M x0 x1 x2 r h
    rw [F_X11_ones_4] at h
    refine p_iload_n rfl ?_
    refine p_bipush cb_12 ?_
    refine p_icmp_ge h 17 rfl rfl (fun _ h => ?_) (fun _ h => ?_)
    · refine p_iload_n rfl ?_
      exact p_iret rfl h
    · refine p_iload_n rfl ?_
      refine p_iload_n rfl ?_
      refine p_iload_n rfl ?_
      refine p_ishr ?_
      refine p_iconst cn_1 ?_
      refine p_iand ?_
      refine p_iadd ?_
      have h := lt_h h
      refine p_istore_n (Nat.le_of_ble_eq_true rfl) rfl ?_
      have h := lt_h h
      refine p_iinc (Nat.le_of_ble_eq_true rfl) rfl (ci_1 _) rfl ?_
      refine p_goto 4 rfl rfl ?_
      exact p_fg (ih h) ⟨Or.inr rfl, Or.inr rfl, Or.inr rfl, trivial⟩
set_option maxRecDepth 100000 in
theorem S_X11_ones {l : Launch} (hl : l.stackTraces = false) {M : PM} {a0 : Int32} {r : PR} (h : F_X11_ones M a0 = some r) : PW l 0 Y_X11_ones k_X11_ones [vI a0, jk, jk] [] M r := by
  unfold F_X11_ones at h
  refine p_iconst cn_0 ?_
  refine p_istore_n (Nat.le_of_ble_eq_true rfl) rfl ?_
  refine p_iconst cn_0 ?_
  refine p_istore_n (Nat.le_of_ble_eq_true rfl) rfl ?_
  exact p_fg (S_X11_ones_4 hl FUEL h) ⟨Or.inr rfl, Or.inr rfl, Or.inr rfl, trivial⟩
set_option maxRecDepth 100000 in
theorem pc_X11_ones {l : Launch} (hl : l.stackTraces = false) {M : PM} {a0 : Int32} {r : PR} (h : F_X11_ones M a0 = some r) : PC l 0 Y_X11_ones [vI a0] M r := pc_of hl (by decide +kernel) cok_X11_ones (Nat.le_of_ble_eq_true rfl) rfl (S_X11_ones hl  h) rfl
def F_X11_isSuch_99_328 (k11 : PM → Int32 → Int32 → Int32 → Int32 → Option PR) (M : PM) (x1 : Int32) (x2 : Int32) (x4 : Int32) (t0 : Int32) (t1 : Int32) : Option PR := lt (t0 + t1) fun y1247 => lt (x4 + 1) fun y1248 => k11 M x1 x2 y1247 y1248
def F_X11_isSuch_99_292 (k11 : PM → Int32 → Int32 → Int32 → Int32 → Option PR) (M : PM) (x1 : Int32) (x2 : Int32) (x3 : Int32) (x4 : Int32) : Option PR := if ixOK x4 220 = true then if x4.toNatClampNeg < 220 ∧ ixOK 0 3 = true then (if 5 ≤ mG M 116 x4.toNatClampNeg (0 : Int32).toNatClampNeg then if ixOK x4 220 = true then if x4.toNatClampNeg < 220 ∧ ixOK 0 3 = true then (if mG M 116 x4.toNatClampNeg (0 : Int32).toNatClampNeg = 5 then F_X11_isSuch_99_328 k11 M x1 x2 x4 x3 0 else F_X11_isSuch_99_328 k11 M x1 x2 x4 x3 (-1)) else none else none else F_X11_isSuch_99_328 k11 M x1 x2 x4 x3 1) else none else none
def F_X11_isSuch_99_131 (k11 : PM → Int32 → Int32 → Int32 → Int32 → Option PR) (M : PM) (x1 : Int32) (x2 : Int32) (x3 : Int32) (x4 : Int32) (t1 : Int32) (t2 : Int32) : Option PR := if ixOK t1 220 = true then F_X11_isSuch_99_292 k11 (sA M 118 t1.toNatClampNeg (t2 &&& 1)) x1 x2 x3 x4 else none
def F_X11_isSuch_99_154 (k11 : PM → Int32 → Int32 → Int32 → Int32 → Option PR) (M : PM) (x1 : Int32) (x2 : Int32) (x3 : Int32) (x4 : Int32) (t1 : Int32) (t2 : Int32) : Option PR := if ixOK t1 220 = true then F_X11_isSuch_99_292 k11 (sA M 118 t1.toNatClampNeg (t2 &&& 1)) x1 x2 x3 x4 else none
def F_X11_isSuch_99_215 (k11 : PM → Int32 → Int32 → Int32 → Int32 → Option PR) (M : PM) (x1 : Int32) (x2 : Int32) (x3 : Int32) (x4 : Int32) (t1 : Int32) (t2 : Int32) : Option PR := if ixOK t1 220 = true then F_X11_isSuch_99_292 k11 (sA M 118 t1.toNatClampNeg (t2 &&& 1)) x1 x2 x3 x4 else none
def F_X11_isSuch_99_253 (k11 : PM → Int32 → Int32 → Int32 → Int32 → Option PR) (M : PM) (x1 : Int32) (x2 : Int32) (x3 : Int32) (x4 : Int32) (t1 : Int32) (t2 : Int32) : Option PR := if ixOK t1 220 = true then F_X11_isSuch_99_292 k11 (sA M 118 t1.toNatClampNeg (t2 &&& 1)) x1 x2 x3 x4 else none
def F_X11_isSuch_99_252 (k11 : PM → Int32 → Int32 → Int32 → Int32 → Option PR) (M : PM) (x1 : Int32) (x2 : Int32) (x3 : Int32) (x4 : Int32) (t1 : Int32) : Option PR := F_X11_isSuch_99_253 k11 M x1 x2 x3 x4 t1 0
def F_X11_isSuch_99_291 (k11 : PM → Int32 → Int32 → Int32 → Int32 → Option PR) (M : PM) (x1 : Int32) (x2 : Int32) (x3 : Int32) (x4 : Int32) (t1 : Int32) (t2 : Int32) : Option PR := if ixOK t1 220 = true then F_X11_isSuch_99_292 k11 (sA M 118 t1.toNatClampNeg (t2 &&& 1)) x1 x2 x3 x4 else none
def F_X11_isSuch_99_286 (k11 : PM → Int32 → Int32 → Int32 → Int32 → Option PR) (M : PM) (x1 : Int32) (x2 : Int32) (x3 : Int32) (x4 : Int32) (t1 : Int32) : Option PR := F_X11_isSuch_99_291 k11 M x1 x2 x3 x4 t1 1
def F_X11_isSuch_99_11 : Nat → PM → Int32 → Int32 → Int32 → Int32 → Option PR
  | 0, _, _, _, _, _ => none
  | n + 1, M, x1, x2, x3, x4 => (if mI M 99 24 ≤ x4 then (if x3 = 0 then (if (1 : Int32) &&& 1 = 1 then some (.inl (some (.int 1)), M) else none) else if ixOK 0 220 = true then (if mA M 118 (0 : Int32).toNatClampNeg = 0 then (if (0 : Int32) &&& 1 = 0 then some (.inl (some (.int 0)), M) else none) else (if (1 : Int32) &&& 1 = 1 then some (.inl (some (.int 1)), M) else none)) else none) else if ixOK x4 220 = true then if x4.toNatClampNeg < 220 ∧ ixOK 1 3 = true then lt (mG M 116 x4.toNatClampNeg (1 : Int32).toNatClampNeg) fun y1249 => if ixOK x4 220 = true then if x4.toNatClampNeg < 220 ∧ ixOK 2 3 = true then lt (mG M 116 x4.toNatClampNeg (2 : Int32).toNatClampNeg) fun y1250 => if ixOK x4 220 = true then if x4.toNatClampNeg < 220 ∧ ixOK 0 3 = true then (if mG M 116 x4.toNatClampNeg (0 : Int32).toNatClampNeg = 0 then cI (F_X11_holdsAt_99 M y1249 x2) fun v1252 M1251 => if ixOK x3 220 = true then F_X11_isSuch_99_292 (F_X11_isSuch_99_11 n) (sA M1251 118 x3.toNatClampNeg (v1252 &&& 1)) x1 x2 x3 x4 else none else if mG M 116 x4.toNatClampNeg (0 : Int32).toNatClampNeg = 1 then cI (F_X11_bitsAt_99 M x2) fun v1254 M1253 => cI (F_X11_ones M1253 v1254) fun v1256 M1255 => (if v1256 = y1249 then F_X11_isSuch_99_131 (F_X11_isSuch_99_11 n) M1255 x1 x2 x3 x4 x3 1 else F_X11_isSuch_99_131 (F_X11_isSuch_99_11 n) M1255 x1 x2 x3 x4 x3 0) else if mG M 116 x4.toNatClampNeg (0 : Int32).toNatClampNeg = 2 then if y1249 = 0 then none else (if x1 - x1 / y1249 * y1249 = y1250 then F_X11_isSuch_99_154 (F_X11_isSuch_99_11 n) M x1 x2 x3 x4 x3 1 else F_X11_isSuch_99_154 (F_X11_isSuch_99_11 n) M x1 x2 x3 x4 x3 0) else if mG M 116 x4.toNatClampNeg (0 : Int32).toNatClampNeg = 3 then cI (F_X11_inHouseAt_99 M y1249 y1250 x2) fun v1258 M1257 => if ixOK x3 220 = true then F_X11_isSuch_99_292 (F_X11_isSuch_99_11 n) (sA M1257 118 x3.toNatClampNeg (v1258 &&& 1)) x1 x2 x3 x4 else none else if mG M 116 x4.toNatClampNeg (0 : Int32).toNatClampNeg = 4 then cI (F_X11_otherHoldsAt_99 M y1249 x2) fun v1260 M1259 => if ixOK x3 220 = true then F_X11_isSuch_99_292 (F_X11_isSuch_99_11 n) (sA M1259 118 x3.toNatClampNeg (v1260 &&& 1)) x1 x2 x3 x4 else none else if mG M 116 x4.toNatClampNeg (0 : Int32).toNatClampNeg = 5 then if ixOK (x3 - 1) 220 = true then (if mA M 118 (x3 - 1).toNatClampNeg = 0 then F_X11_isSuch_99_215 (F_X11_isSuch_99_11 n) M x1 x2 x3 x4 (x3 - 1) 1 else F_X11_isSuch_99_215 (F_X11_isSuch_99_11 n) M x1 x2 x3 x4 (x3 - 1) 0) else none else if mG M 116 x4.toNatClampNeg (0 : Int32).toNatClampNeg = 6 then if ixOK (x3 - 2) 220 = true then (if mA M 118 (x3 - 2).toNatClampNeg = 0 then F_X11_isSuch_99_252 (F_X11_isSuch_99_11 n) M x1 x2 x3 x4 (x3 - 2) else if ixOK (x3 - 1) 220 = true then (if mA M 118 (x3 - 1).toNatClampNeg = 0 then F_X11_isSuch_99_252 (F_X11_isSuch_99_11 n) M x1 x2 x3 x4 (x3 - 2) else F_X11_isSuch_99_253 (F_X11_isSuch_99_11 n) M x1 x2 x3 x4 (x3 - 2) 1) else none) else none else if ixOK (x3 - 2) 220 = true then (if mA M 118 (x3 - 2).toNatClampNeg = 0 then if ixOK (x3 - 1) 220 = true then (if mA M 118 (x3 - 1).toNatClampNeg = 0 then F_X11_isSuch_99_291 (F_X11_isSuch_99_11 n) M x1 x2 x3 x4 (x3 - 2) 0 else F_X11_isSuch_99_286 (F_X11_isSuch_99_11 n) M x1 x2 x3 x4 (x3 - 2)) else none else F_X11_isSuch_99_286 (F_X11_isSuch_99_11 n) M x1 x2 x3 x4 (x3 - 2)) else none) else none else none else none else none else none else none)
def F_X11_isSuch_99 (M : PM) (a1 : Int32) : Option PR := cI (F_X11_turnedOn_99 M a1) fun v1262 M1261 => F_X11_isSuch_99_11 FUEL M1261 a1 v1262 0 0
set_option maxRecDepth 100000 in
theorem S_X11_isSuch_99_328 {l : Launch} (hl : l.stackTraces = false) {k11 : PM → Int32 → Int32 → Int32 → Int32 → Option PR} (hk11 : ∀ {M : PM} {x1 : Int32} {x2 : Int32} {x3 : Int32} {x4 : Int32} {r : PR}, k11 M x1 x2 x3 x4 = some r → PW l 2 Y_X11_isSuch k_X11_isSuch_11 [vR 99, vI x1, vI x2, vI x3, vI x4, jk, jk] [] M r) {M : PM} {x1 : Int32} {x2 : Int32} {x4 : Int32} {t0 : Int32} {t1 : Int32} {r : PR} (h : F_X11_isSuch_99_328 k11 M x1 x2 x4 t0 t1 = some r) : PW l 2 Y_X11_isSuch k_X11_isSuch_328 [vR 99, vI x1, vI x2, jk, vI x4, jk, jk] [vI t1, vI t0] M r := by
  unfold F_X11_isSuch_99_328 at h
  refine p_iadd ?_
  have h := lt_h h
  refine p_istore_n (Nat.le_of_ble_eq_true rfl) rfl ?_
  have h := lt_h h
  refine p_iinc (Nat.le_of_ble_eq_true rfl) rfl (ci_1 _) rfl ?_
  refine p_goto 8 rfl rfl ?_
  exact p_fg (hk11 h) ⟨Or.inr rfl, Or.inr rfl, Or.inr rfl, Or.inr rfl, Or.inr rfl, Or.inl rfl, Or.inl rfl, trivial⟩
set_option maxRecDepth 100000 in
theorem S_X11_isSuch_99_292 {l : Launch} (hl : l.stackTraces = false) {k11 : PM → Int32 → Int32 → Int32 → Int32 → Option PR} (hk11 : ∀ {M : PM} {x1 : Int32} {x2 : Int32} {x3 : Int32} {x4 : Int32} {r : PR}, k11 M x1 x2 x3 x4 = some r → PW l 2 Y_X11_isSuch k_X11_isSuch_11 [vR 99, vI x1, vI x2, vI x3, vI x4, jk, jk] [] M r) {M : PM} {x1 : Int32} {x2 : Int32} {x3 : Int32} {x4 : Int32} {r : PR} (h : F_X11_isSuch_99_292 k11 M x1 x2 x3 x4 = some r) : PW l 2 Y_X11_isSuch k_X11_isSuch_292 [vR 99, vI x1, vI x2, vI x3, vI x4, jk, jk] [] M r := by
  unfold F_X11_isSuch_99_292 at h
  refine p_iload_n rfl ?_
  refine p_aload_n rfl ?_
  refine p_getR fk_X11_64 gt_99 rfl rfl ?_
  refine p_iload rfl ?_
  refine p_aldG gt_116 h (fun h => ?_)
  refine p_iconst cn_0 ?_
  refine p_ialdG gt_116 h (fun h => ?_)
  refine p_iconst cn_5 ?_
  refine p_icmp_ge h 163 rfl rfl (fun _ h => ?_) (fun _ h => ?_)
  · refine p_aload_n rfl ?_
    refine p_getR fk_X11_64 gt_99 rfl rfl ?_
    refine p_iload rfl ?_
    refine p_aldG gt_116 h (fun h => ?_)
    refine p_iconst cn_0 ?_
    refine p_ialdG gt_116 h (fun h => ?_)
    refine p_iconst cn_5 ?_
    refine p_icmp_ne h 173 rfl rfl (fun _ h => ?_) (fun _ h => ?_)
    · refine p_iconst cn_0 ?_
      refine p_goto 174 rfl rfl ?_
      exact p_fg (S_X11_isSuch_99_328 hl hk11 h) ⟨Or.inr rfl, Or.inr rfl, Or.inr rfl, Or.inl rfl, Or.inr rfl, Or.inl rfl, Or.inl rfl, trivial⟩
    · refine p_iconst cn_m1 ?_
      exact p_fg (S_X11_isSuch_99_328 hl hk11 h) ⟨Or.inr rfl, Or.inr rfl, Or.inr rfl, Or.inl rfl, Or.inr rfl, Or.inl rfl, Or.inl rfl, trivial⟩
  · refine p_iconst cn_1 ?_
    refine p_goto 174 rfl rfl ?_
    exact p_fg (S_X11_isSuch_99_328 hl hk11 h) ⟨Or.inr rfl, Or.inr rfl, Or.inr rfl, Or.inl rfl, Or.inr rfl, Or.inl rfl, Or.inl rfl, trivial⟩
set_option maxRecDepth 100000 in
theorem S_X11_isSuch_99_131 {l : Launch} (hl : l.stackTraces = false) {k11 : PM → Int32 → Int32 → Int32 → Int32 → Option PR} (hk11 : ∀ {M : PM} {x1 : Int32} {x2 : Int32} {x3 : Int32} {x4 : Int32} {r : PR}, k11 M x1 x2 x3 x4 = some r → PW l 2 Y_X11_isSuch k_X11_isSuch_11 [vR 99, vI x1, vI x2, vI x3, vI x4, jk, jk] [] M r) {M : PM} {x1 : Int32} {x2 : Int32} {x3 : Int32} {x4 : Int32} {t1 : Int32} {t2 : Int32} {r : PR} (h : F_X11_isSuch_99_131 k11 M x1 x2 x3 x4 t1 t2 = some r) : PW l 2 Y_X11_isSuch k_X11_isSuch_131 [vR 99, vI x1, vI x2, vI x3, vI x4, jk, jk] [vI t2, vI t1, vR 118] M r := by
  unfold F_X11_isSuch_99_131 at h
  refine p_zast gt_118 h (fun h => ?_)
  refine p_goto 152 rfl rfl ?_
  exact p_fg (S_X11_isSuch_99_292 hl hk11 h) ⟨Or.inr rfl, Or.inr rfl, Or.inr rfl, Or.inr rfl, Or.inr rfl, Or.inl rfl, Or.inl rfl, trivial⟩
set_option maxRecDepth 100000 in
theorem S_X11_isSuch_99_154 {l : Launch} (hl : l.stackTraces = false) {k11 : PM → Int32 → Int32 → Int32 → Int32 → Option PR} (hk11 : ∀ {M : PM} {x1 : Int32} {x2 : Int32} {x3 : Int32} {x4 : Int32} {r : PR}, k11 M x1 x2 x3 x4 = some r → PW l 2 Y_X11_isSuch k_X11_isSuch_11 [vR 99, vI x1, vI x2, vI x3, vI x4, jk, jk] [] M r) {M : PM} {x1 : Int32} {x2 : Int32} {x3 : Int32} {x4 : Int32} {t1 : Int32} {t2 : Int32} {r : PR} (h : F_X11_isSuch_99_154 k11 M x1 x2 x3 x4 t1 t2 = some r) : PW l 2 Y_X11_isSuch k_X11_isSuch_154 [vR 99, vI x1, vI x2, vI x3, vI x4, jk, jk] [vI t2, vI t1, vR 118] M r := by
  unfold F_X11_isSuch_99_154 at h
  refine p_zast gt_118 h (fun h => ?_)
  refine p_goto 152 rfl rfl ?_
  exact p_fg (S_X11_isSuch_99_292 hl hk11 h) ⟨Or.inr rfl, Or.inr rfl, Or.inr rfl, Or.inr rfl, Or.inr rfl, Or.inl rfl, Or.inl rfl, trivial⟩
set_option maxRecDepth 100000 in
theorem S_X11_isSuch_99_215 {l : Launch} (hl : l.stackTraces = false) {k11 : PM → Int32 → Int32 → Int32 → Int32 → Option PR} (hk11 : ∀ {M : PM} {x1 : Int32} {x2 : Int32} {x3 : Int32} {x4 : Int32} {r : PR}, k11 M x1 x2 x3 x4 = some r → PW l 2 Y_X11_isSuch k_X11_isSuch_11 [vR 99, vI x1, vI x2, vI x3, vI x4, jk, jk] [] M r) {M : PM} {x1 : Int32} {x2 : Int32} {x3 : Int32} {x4 : Int32} {t1 : Int32} {t2 : Int32} {r : PR} (h : F_X11_isSuch_99_215 k11 M x1 x2 x3 x4 t1 t2 = some r) : PW l 2 Y_X11_isSuch k_X11_isSuch_215 [vR 99, vI x1, vI x2, vI x3, vI x4, jk, jk] [vI t2, vI t1, vR 118] M r := by
  unfold F_X11_isSuch_99_215 at h
  refine p_zast gt_118 h (fun h => ?_)
  refine p_goto 152 rfl rfl ?_
  exact p_fg (S_X11_isSuch_99_292 hl hk11 h) ⟨Or.inr rfl, Or.inr rfl, Or.inr rfl, Or.inr rfl, Or.inr rfl, Or.inl rfl, Or.inl rfl, trivial⟩
set_option maxRecDepth 100000 in
theorem S_X11_isSuch_99_253 {l : Launch} (hl : l.stackTraces = false) {k11 : PM → Int32 → Int32 → Int32 → Int32 → Option PR} (hk11 : ∀ {M : PM} {x1 : Int32} {x2 : Int32} {x3 : Int32} {x4 : Int32} {r : PR}, k11 M x1 x2 x3 x4 = some r → PW l 2 Y_X11_isSuch k_X11_isSuch_11 [vR 99, vI x1, vI x2, vI x3, vI x4, jk, jk] [] M r) {M : PM} {x1 : Int32} {x2 : Int32} {x3 : Int32} {x4 : Int32} {t1 : Int32} {t2 : Int32} {r : PR} (h : F_X11_isSuch_99_253 k11 M x1 x2 x3 x4 t1 t2 = some r) : PW l 2 Y_X11_isSuch k_X11_isSuch_253 [vR 99, vI x1, vI x2, vI x3, vI x4, jk, jk] [vI t2, vI t1, vR 118] M r := by
  unfold F_X11_isSuch_99_253 at h
  refine p_zast gt_118 h (fun h => ?_)
  refine p_goto 152 rfl rfl ?_
  exact p_fg (S_X11_isSuch_99_292 hl hk11 h) ⟨Or.inr rfl, Or.inr rfl, Or.inr rfl, Or.inr rfl, Or.inr rfl, Or.inl rfl, Or.inl rfl, trivial⟩
set_option maxRecDepth 100000 in
theorem S_X11_isSuch_99_252 {l : Launch} (hl : l.stackTraces = false) {k11 : PM → Int32 → Int32 → Int32 → Int32 → Option PR} (hk11 : ∀ {M : PM} {x1 : Int32} {x2 : Int32} {x3 : Int32} {x4 : Int32} {r : PR}, k11 M x1 x2 x3 x4 = some r → PW l 2 Y_X11_isSuch k_X11_isSuch_11 [vR 99, vI x1, vI x2, vI x3, vI x4, jk, jk] [] M r) {M : PM} {x1 : Int32} {x2 : Int32} {x3 : Int32} {x4 : Int32} {t1 : Int32} {r : PR} (h : F_X11_isSuch_99_252 k11 M x1 x2 x3 x4 t1 = some r) : PW l 2 Y_X11_isSuch k_X11_isSuch_252 [vR 99, vI x1, vI x2, vI x3, vI x4, jk, jk] [vI t1, vR 118] M r := by
  unfold F_X11_isSuch_99_252 at h
  refine p_iconst cn_0 ?_
  exact p_fg (S_X11_isSuch_99_253 hl hk11 h) ⟨Or.inr rfl, Or.inr rfl, Or.inr rfl, Or.inr rfl, Or.inr rfl, Or.inl rfl, Or.inl rfl, trivial⟩
set_option maxRecDepth 100000 in
theorem S_X11_isSuch_99_291 {l : Launch} (hl : l.stackTraces = false) {k11 : PM → Int32 → Int32 → Int32 → Int32 → Option PR} (hk11 : ∀ {M : PM} {x1 : Int32} {x2 : Int32} {x3 : Int32} {x4 : Int32} {r : PR}, k11 M x1 x2 x3 x4 = some r → PW l 2 Y_X11_isSuch k_X11_isSuch_11 [vR 99, vI x1, vI x2, vI x3, vI x4, jk, jk] [] M r) {M : PM} {x1 : Int32} {x2 : Int32} {x3 : Int32} {x4 : Int32} {t1 : Int32} {t2 : Int32} {r : PR} (h : F_X11_isSuch_99_291 k11 M x1 x2 x3 x4 t1 t2 = some r) : PW l 2 Y_X11_isSuch k_X11_isSuch_291 [vR 99, vI x1, vI x2, vI x3, vI x4, jk, jk] [vI t2, vI t1, vR 118] M r := by
  unfold F_X11_isSuch_99_291 at h
  refine p_zast gt_118 h (fun h => ?_)
  exact p_fg (S_X11_isSuch_99_292 hl hk11 h) ⟨Or.inr rfl, Or.inr rfl, Or.inr rfl, Or.inr rfl, Or.inr rfl, Or.inl rfl, Or.inl rfl, trivial⟩
set_option maxRecDepth 100000 in
theorem S_X11_isSuch_99_286 {l : Launch} (hl : l.stackTraces = false) {k11 : PM → Int32 → Int32 → Int32 → Int32 → Option PR} (hk11 : ∀ {M : PM} {x1 : Int32} {x2 : Int32} {x3 : Int32} {x4 : Int32} {r : PR}, k11 M x1 x2 x3 x4 = some r → PW l 2 Y_X11_isSuch k_X11_isSuch_11 [vR 99, vI x1, vI x2, vI x3, vI x4, jk, jk] [] M r) {M : PM} {x1 : Int32} {x2 : Int32} {x3 : Int32} {x4 : Int32} {t1 : Int32} {r : PR} (h : F_X11_isSuch_99_286 k11 M x1 x2 x3 x4 t1 = some r) : PW l 2 Y_X11_isSuch k_X11_isSuch_286 [vR 99, vI x1, vI x2, vI x3, vI x4, jk, jk] [vI t1, vR 118] M r := by
  unfold F_X11_isSuch_99_286 at h
  refine p_iconst cn_1 ?_
  refine p_goto 151 rfl rfl ?_
  exact p_fg (S_X11_isSuch_99_291 hl hk11 h) ⟨Or.inr rfl, Or.inr rfl, Or.inr rfl, Or.inr rfl, Or.inr rfl, Or.inl rfl, Or.inl rfl, trivial⟩
set_option maxRecDepth 100000 in
theorem S_X11_isSuch_99_11 {l : Launch} (hl : l.stackTraces = false) : ∀ (n : Nat) {M : PM} {x1 : Int32} {x2 : Int32} {x3 : Int32} {x4 : Int32} {r : PR}, F_X11_isSuch_99_11  n M x1 x2 x3 x4 = some r → PW l 2 Y_X11_isSuch k_X11_isSuch_11 [vR 99, vI x1, vI x2, vI x3, vI x4, jk, jk] [] M r := by
  intro n
  induction n with
  | zero => intro M x1 x2 x3 x4 r h; exact nomatch (show (none : Option PR) = some r from h)
  | succ n ih =>
    intro M x1 x2 x3 x4 r h
    rw [F_X11_isSuch_99_11] at h
    refine p_iload rfl ?_
    refine p_aload_n rfl ?_
    refine p_getI fk_X11_193 gt_99 rfl ?_
    refine p_icmp_ge h 178 rfl rfl (fun _ h => ?_) (fun _ h => ?_)
    · refine p_iload_n rfl ?_
      refine p_if_eq h 185 rfl rfl (fun _ h => ?_) (fun _ h => ?_)
      · refine p_iconst cn_1 ?_
        refine p_goto 188 rfl rfl ?_
        exact p_zret rfl h
      · refine p_aload_n rfl ?_
        refine p_getR fk_X11_70 gt_99 rfl rfl ?_
        refine p_iconst cn_0 ?_
        refine p_zald gt_118 h (fun h => ?_)
        refine p_if_eq h 187 rfl rfl (fun _ h => ?_) (fun _ h => ?_)
        · refine p_iconst cn_0 ?_
          exact p_zret rfl h
        · refine p_iconst cn_1 ?_
          refine p_goto 188 rfl rfl ?_
          exact p_zret rfl h
    · refine p_aload_n rfl ?_
      refine p_getR fk_X11_64 gt_99 rfl rfl ?_
      refine p_iload rfl ?_
      refine p_aldG gt_116 h (fun h => ?_)
      refine p_iconst cn_1 ?_
      refine p_ialdG gt_116 h (fun h => ?_)
      have h := lt_h h
      refine p_istore (Nat.le_of_ble_eq_true rfl) rfl ?_
      refine p_aload_n rfl ?_
      refine p_getR fk_X11_64 gt_99 rfl rfl ?_
      refine p_iload rfl ?_
      refine p_aldG gt_116 h (fun h => ?_)
      refine p_iconst cn_2 ?_
      refine p_ialdG gt_116 h (fun h => ?_)
      have h := lt_h h
      refine p_istore (Nat.le_of_ble_eq_true rfl) rfl ?_
      refine p_aload_n rfl ?_
      refine p_getR fk_X11_64 gt_99 rfl rfl ?_
      refine p_iload rfl ?_
      refine p_aldG gt_116 h (fun h => ?_)
      refine p_iconst cn_0 ?_
      refine p_ialdG gt_116 h (fun h => ?_)
      refine p_ts7 h 33 rfl rfl 42 rfl rfl 56 rfl rfl 69 rfl rfl 79 rfl rfl 88 rfl rfl 105 rfl rfl 129 rfl rfl (fun _ h => ?_) (fun _ h => ?_) (fun _ h => ?_) (fun _ h => ?_) (fun _ h => ?_) (fun _ h => ?_) (fun _ h => ?_) (fun h => ?_)
      · refine p_aload_n rfl ?_
        refine p_getR fk_X11_70 gt_99 rfl rfl ?_
        refine p_iload_n rfl ?_
        refine p_aload_n rfl ?_
        refine p_iload rfl ?_
        refine p_iload_n rfl ?_
        refine p_cI (av := [_, _, _]) ⟨mok_X11_holdsAt, Or.inl ⟨243, 99, 11, 0, _, rfl, rfl, rfl, gt_99, rfl, ins_X11_holdsAt, Or.inl lk_X11_243⟩⟩ (Nat.le_of_ble_eq_true rfl) (Nat.le_of_ble_eq_true rfl) rfl (fun _ h => pc_X11_holdsAt_99 hl h) h (fun v1252 M1251 h => ?_)
        refine p_zast gt_118 h (fun h => ?_)
        refine p_goto 152 rfl rfl ?_
        exact p_fg (S_X11_isSuch_99_292 hl (fun h => ih h) h) ⟨Or.inr rfl, Or.inr rfl, Or.inr rfl, Or.inr rfl, Or.inr rfl, Or.inl rfl, Or.inl rfl, trivial⟩
      · refine p_aload_n rfl ?_
        refine p_getR fk_X11_70 gt_99 rfl rfl ?_
        refine p_iload_n rfl ?_
        refine p_aload_n rfl ?_
        refine p_iload_n rfl ?_
        refine p_cI (av := [_, _]) ⟨mok_X11_bitsAt, Or.inl ⟨253, 99, 11, 0, _, rfl, rfl, rfl, gt_99, rfl, ins_X11_bitsAt, Or.inl lk_X11_253⟩⟩ (Nat.le_of_ble_eq_true rfl) (Nat.le_of_ble_eq_true rfl) rfl (fun _ h => pc_X11_bitsAt_99 hl h) h (fun v1254 M1253 h => ?_)
        refine p_cI (av := [_]) ⟨mok_X11_ones, Or.inr ⟨262, rfl, rfl, sta_X11_ones, Or.inl lk_X11_262⟩⟩ (Nat.le_of_ble_eq_true rfl) (Nat.le_of_ble_eq_true rfl) rfl (fun _ h => pc_X11_ones hl h) h (fun v1256 M1255 h => ?_)
        refine p_iload rfl ?_
        refine p_icmp_ne h 53 rfl rfl (fun _ h => ?_) (fun _ h => ?_)
        · refine p_iconst cn_1 ?_
          refine p_goto 54 rfl rfl ?_
          exact p_fg (S_X11_isSuch_99_131 hl (fun h => ih h) h) ⟨Or.inr rfl, Or.inr rfl, Or.inr rfl, Or.inr rfl, Or.inr rfl, Or.inl rfl, Or.inl rfl, trivial⟩
        · refine p_iconst cn_0 ?_
          exact p_fg (S_X11_isSuch_99_131 hl (fun h => ih h) h) ⟨Or.inr rfl, Or.inr rfl, Or.inr rfl, Or.inr rfl, Or.inr rfl, Or.inl rfl, Or.inl rfl, trivial⟩
      · refine p_aload_n rfl ?_
        refine p_getR fk_X11_70 gt_99 rfl rfl ?_
        refine p_iload_n rfl ?_
        refine p_iload_n rfl ?_
        refine p_iload rfl ?_
        refine p_irem h (fun h => ?_)
        refine p_iload rfl ?_
        refine p_icmp_ne h 66 rfl rfl (fun _ h => ?_) (fun _ h => ?_)
        · refine p_iconst cn_1 ?_
          refine p_goto 67 rfl rfl ?_
          exact p_fg (S_X11_isSuch_99_154 hl (fun h => ih h) h) ⟨Or.inr rfl, Or.inr rfl, Or.inr rfl, Or.inr rfl, Or.inr rfl, Or.inl rfl, Or.inl rfl, trivial⟩
        · refine p_iconst cn_0 ?_
          exact p_fg (S_X11_isSuch_99_154 hl (fun h => ih h) h) ⟨Or.inr rfl, Or.inr rfl, Or.inr rfl, Or.inr rfl, Or.inr rfl, Or.inl rfl, Or.inl rfl, trivial⟩
      · refine p_aload_n rfl ?_
        refine p_getR fk_X11_70 gt_99 rfl rfl ?_
        refine p_iload_n rfl ?_
        refine p_aload_n rfl ?_
        refine p_iload rfl ?_
        refine p_iload rfl ?_
        refine p_iload_n rfl ?_
        refine p_cI (av := [_, _, _, _]) ⟨mok_X11_inHouseAt, Or.inl ⟨256, 99, 11, 0, _, rfl, rfl, rfl, gt_99, rfl, ins_X11_inHouseAt, Or.inl lk_X11_256⟩⟩ (Nat.le_of_ble_eq_true rfl) (Nat.le_of_ble_eq_true rfl) rfl (fun _ h => pc_X11_inHouseAt_99 hl h) h (fun v1258 M1257 h => ?_)
        refine p_zast gt_118 h (fun h => ?_)
        refine p_goto 152 rfl rfl ?_
        exact p_fg (S_X11_isSuch_99_292 hl (fun h => ih h) h) ⟨Or.inr rfl, Or.inr rfl, Or.inr rfl, Or.inr rfl, Or.inr rfl, Or.inl rfl, Or.inl rfl, trivial⟩
      · refine p_aload_n rfl ?_
        refine p_getR fk_X11_70 gt_99 rfl rfl ?_
        refine p_iload_n rfl ?_
        refine p_aload_n rfl ?_
        refine p_iload rfl ?_
        refine p_iload_n rfl ?_
        refine p_cI (av := [_, _, _]) ⟨mok_X11_otherHoldsAt, Or.inl ⟨265, 99, 11, 0, _, rfl, rfl, rfl, gt_99, rfl, ins_X11_otherHoldsAt, Or.inl lk_X11_265⟩⟩ (Nat.le_of_ble_eq_true rfl) (Nat.le_of_ble_eq_true rfl) rfl (fun _ h => pc_X11_otherHoldsAt_99 hl h) h (fun v1260 M1259 h => ?_)
        refine p_zast gt_118 h (fun h => ?_)
        refine p_goto 152 rfl rfl ?_
        exact p_fg (S_X11_isSuch_99_292 hl (fun h => ih h) h) ⟨Or.inr rfl, Or.inr rfl, Or.inr rfl, Or.inr rfl, Or.inr rfl, Or.inl rfl, Or.inl rfl, trivial⟩
      · refine p_aload_n rfl ?_
        refine p_getR fk_X11_70 gt_99 rfl rfl ?_
        refine p_iload_n rfl ?_
        refine p_iconst cn_1 ?_
        refine p_isub ?_
        refine p_aload_n rfl ?_
        refine p_getR fk_X11_70 gt_99 rfl rfl ?_
        refine p_iload_n rfl ?_
        refine p_iconst cn_1 ?_
        refine p_isub ?_
        refine p_zald gt_118 h (fun h => ?_)
        refine p_if_ne h 102 rfl rfl (fun _ h => ?_) (fun _ h => ?_)
        · refine p_iconst cn_1 ?_
          refine p_goto 103 rfl rfl ?_
          exact p_fg (S_X11_isSuch_99_215 hl (fun h => ih h) h) ⟨Or.inr rfl, Or.inr rfl, Or.inr rfl, Or.inr rfl, Or.inr rfl, Or.inl rfl, Or.inl rfl, trivial⟩
        · refine p_iconst cn_0 ?_
          exact p_fg (S_X11_isSuch_99_215 hl (fun h => ih h) h) ⟨Or.inr rfl, Or.inr rfl, Or.inr rfl, Or.inr rfl, Or.inr rfl, Or.inl rfl, Or.inl rfl, trivial⟩
      · refine p_aload_n rfl ?_
        refine p_getR fk_X11_70 gt_99 rfl rfl ?_
        refine p_iload_n rfl ?_
        refine p_iconst cn_2 ?_
        refine p_isub ?_
        refine p_aload_n rfl ?_
        refine p_getR fk_X11_70 gt_99 rfl rfl ?_
        refine p_iload_n rfl ?_
        refine p_iconst cn_2 ?_
        refine p_isub ?_
        refine p_zald gt_118 h (fun h => ?_)
        refine p_if_eq h 126 rfl rfl (fun _ h => ?_) (fun _ h => ?_)
        · exact p_fg (S_X11_isSuch_99_252 hl (fun h => ih h) h) ⟨Or.inr rfl, Or.inr rfl, Or.inr rfl, Or.inr rfl, Or.inr rfl, Or.inl rfl, Or.inl rfl, trivial⟩
        · refine p_aload_n rfl ?_
          refine p_getR fk_X11_70 gt_99 rfl rfl ?_
          refine p_iload_n rfl ?_
          refine p_iconst cn_1 ?_
          refine p_isub ?_
          refine p_zald gt_118 h (fun h => ?_)
          refine p_if_eq h 126 rfl rfl (fun _ h => ?_) (fun _ h => ?_)
          · exact p_fg (S_X11_isSuch_99_252 hl (fun h => ih h) h) ⟨Or.inr rfl, Or.inr rfl, Or.inr rfl, Or.inr rfl, Or.inr rfl, Or.inl rfl, Or.inl rfl, trivial⟩
          · refine p_iconst cn_1 ?_
            refine p_goto 127 rfl rfl ?_
            exact p_fg (S_X11_isSuch_99_253 hl (fun h => ih h) h) ⟨Or.inr rfl, Or.inr rfl, Or.inr rfl, Or.inr rfl, Or.inr rfl, Or.inl rfl, Or.inl rfl, trivial⟩
      · refine p_aload_n rfl ?_
        refine p_getR fk_X11_70 gt_99 rfl rfl ?_
        refine p_iload_n rfl ?_
        refine p_iconst cn_2 ?_
        refine p_isub ?_
        refine p_aload_n rfl ?_
        refine p_getR fk_X11_70 gt_99 rfl rfl ?_
        refine p_iload_n rfl ?_
        refine p_iconst cn_2 ?_
        refine p_isub ?_
        refine p_zald gt_118 h (fun h => ?_)
        refine p_if_ne h 148 rfl rfl (fun _ h => ?_) (fun _ h => ?_)
        · refine p_aload_n rfl ?_
          refine p_getR fk_X11_70 gt_99 rfl rfl ?_
          refine p_iload_n rfl ?_
          refine p_iconst cn_1 ?_
          refine p_isub ?_
          refine p_zald gt_118 h (fun h => ?_)
          refine p_if_eq h 150 rfl rfl (fun _ h => ?_) (fun _ h => ?_)
          · refine p_iconst cn_0 ?_
            exact p_fg (S_X11_isSuch_99_291 hl (fun h => ih h) h) ⟨Or.inr rfl, Or.inr rfl, Or.inr rfl, Or.inr rfl, Or.inr rfl, Or.inl rfl, Or.inl rfl, trivial⟩
          · exact p_fg (S_X11_isSuch_99_286 hl (fun h => ih h) h) ⟨Or.inr rfl, Or.inr rfl, Or.inr rfl, Or.inr rfl, Or.inr rfl, Or.inl rfl, Or.inl rfl, trivial⟩
        · exact p_fg (S_X11_isSuch_99_286 hl (fun h => ih h) h) ⟨Or.inr rfl, Or.inr rfl, Or.inr rfl, Or.inr rfl, Or.inr rfl, Or.inl rfl, Or.inl rfl, trivial⟩
set_option maxRecDepth 100000 in
theorem S_X11_isSuch_99 {l : Launch} (hl : l.stackTraces = false) {M : PM} {a1 : Int32} {r : PR} (h : F_X11_isSuch_99 M a1 = some r) : PW l 2 Y_X11_isSuch k_X11_isSuch [vR 99, vI a1, jk, jk, jk, jk, jk] [] M r := by
  unfold F_X11_isSuch_99 at h
  refine p_aload_n rfl ?_
  refine p_iload_n rfl ?_
  refine p_cI (av := [_, _]) ⟨mok_X11_turnedOn, Or.inl ⟨250, 99, 11, 0, _, rfl, rfl, rfl, gt_99, rfl, ins_X11_turnedOn, Or.inl lk_X11_250⟩⟩ (Nat.le_of_ble_eq_true rfl) (Nat.le_of_ble_eq_true rfl) rfl (fun _ h => pc_X11_turnedOn_99 hl h) h (fun v1262 M1261 h => ?_)
  refine p_istore_n (Nat.le_of_ble_eq_true rfl) rfl ?_
  refine p_iconst cn_0 ?_
  refine p_istore_n (Nat.le_of_ble_eq_true rfl) rfl ?_
  refine p_iconst cn_0 ?_
  refine p_istore (Nat.le_of_ble_eq_true rfl) rfl ?_
  exact p_fg (S_X11_isSuch_99_11 hl FUEL h) ⟨Or.inr rfl, Or.inr rfl, Or.inr rfl, Or.inr rfl, Or.inr rfl, Or.inl rfl, Or.inl rfl, trivial⟩
set_option maxRecDepth 100000 in
theorem pc_X11_isSuch_99 {l : Launch} (hl : l.stackTraces = false) {M : PM} {a1 : Int32} {r : PR} (h : F_X11_isSuch_99 M a1 = some r) : PC l 2 Y_X11_isSuch [vR 99, vI a1] M r := pc_of hl (by decide +kernel) cok_X11_isSuch (Nat.le_of_ble_eq_true rfl) rfl (S_X11_isSuch_99 hl  h) rfl
def F_X11_such_99_18 (M : PM) (x1 : Int32) (t1 : Int32) : Option PR := cI (F_X11_bad_99 M t1 1 0) fun v1264 M1263 => (if v1264 = 0 then cI (F_X11_isSuch_99 M1263 x1) fun v1266 M1265 => (if v1266 &&& 1 = v1266 then some (.inl (some (.int v1266)), M1265) else none) else (if (0 : Int32) &&& 1 = 0 then some (.inl (some (.int 0)), M1263) else none))
def F_X11_such_99 (M : PM) (a1 : Int32) : Option PR := cI (F_X11_isDay (sI M 99 0 0) a1) fun v1268 M1267 => (if v1268 = 0 then F_X11_such_99_18 M1267 a1 1 else F_X11_such_99_18 M1267 a1 0)
set_option maxRecDepth 100000 in
theorem S_X11_such_99_18 {l : Launch} (hl : l.stackTraces = false) {M : PM} {x1 : Int32} {t1 : Int32} {r : PR} (h : F_X11_such_99_18  M x1 t1 = some r) : PW l 3 Y_X11_such k_X11_such_18 [vR 99, vI x1] [vI t1, vR 99] M r := by
  unfold F_X11_such_99_18 at h
  refine p_iconst cn_1 ?_
  refine p_iconst cn_0 ?_
  refine p_cI (av := [_, _, _, _]) ⟨mok_X11_bad, Or.inl ⟨180, 99, 11, 0, _, rfl, rfl, rfl, gt_99, rfl, ins_X11_bad, Or.inl lk_X11_180⟩⟩ (Nat.le_of_ble_eq_true rfl) (Nat.le_of_ble_eq_true rfl) rfl (fun _ h => pc_X11_bad_99 hl h) h (fun v1264 M1263 h => ?_)
  refine p_if_eq h 16 rfl rfl (fun _ h => ?_) (fun _ h => ?_)
  · refine p_aload_n rfl ?_
    refine p_iload_n rfl ?_
    refine p_cI (av := [_, _]) ⟨mok_X11_isSuch, Or.inl ⟨268, 99, 11, 0, _, rfl, rfl, rfl, gt_99, rfl, ins_X11_isSuch, Or.inl lk_X11_268⟩⟩ (Nat.le_of_ble_eq_true rfl) (Nat.le_of_ble_eq_true rfl) rfl (fun _ h => pc_X11_isSuch_99 hl h) h (fun v1266 M1265 h => ?_)
    exact p_zret rfl h
  · refine p_iconst cn_0 ?_
    exact p_zret rfl h
set_option maxRecDepth 100000 in
theorem S_X11_such_99 {l : Launch} (hl : l.stackTraces = false) {M : PM} {a1 : Int32} {r : PR} (h : F_X11_such_99 M a1 = some r) : PW l 3 Y_X11_such k_X11_such [vR 99, vI a1] [] M r := by
  unfold F_X11_such_99 at h
  refine p_aload_n rfl ?_
  refine p_iconst cn_0 ?_
  refine p_putI fk_X11_107 gt_99 rfl ?_
  refine p_aload_n rfl ?_
  refine p_iload_n rfl ?_
  refine p_cI (av := [_]) ⟨mok_X11_isDay, Or.inr ⟨247, rfl, rfl, sta_X11_isDay, Or.inl lk_X11_247⟩⟩ (Nat.le_of_ble_eq_true rfl) (Nat.le_of_ble_eq_true rfl) rfl (fun _ h => pc_X11_isDay hl h) h (fun v1268 M1267 h => ?_)
  refine p_if_ne h 9 rfl rfl (fun _ h => ?_) (fun _ h => ?_)
  · refine p_iconst cn_1 ?_
    refine p_goto 10 rfl rfl ?_
    exact p_fg (S_X11_such_99_18 hl h) ⟨Or.inr rfl, Or.inr rfl, trivial⟩
  · refine p_iconst cn_0 ?_
    exact p_fg (S_X11_such_99_18 hl h) ⟨Or.inr rfl, Or.inr rfl, trivial⟩
set_option maxRecDepth 100000 in
theorem pc_X11_such_99 {l : Launch} (hl : l.stackTraces = false) {M : PM} {a1 : Int32} {r : PR} (h : F_X11_such_99 M a1 = some r) : PC l 3 Y_X11_such [vR 99, vI a1] M r := pc_of hl (by decide +kernel) cok_X11_such (Nat.le_of_ble_eq_true rfl) rfl (S_X11_such_99 hl  h) rfl
def F_X11_bound_12 (M : PM) (x1 : Int32) (t0 : Int32) : Option PR := (if t0 ≤ 999999999 - x1 then some (.inl (some (.int (t0 + x1))), M) else some (.inl (some (.int 999999999)), M))
def F_X11_bound (M : PM) (a0 : Int32) (a1 : Int32) : Option PR := (if a0 ≤ 100000 then F_X11_bound_12 M a1 100000 else F_X11_bound_12 M a1 a0)
set_option maxRecDepth 100000 in
theorem S_X11_bound_12 {l : Launch} (hl : l.stackTraces = false) {M : PM} {x1 : Int32} {t0 : Int32} {r : PR} (h : F_X11_bound_12  M x1 t0 = some r) : PW l 0 Y_X11_bound k_X11_bound_12 [jk, vI x1, jk] [vI t0] M r := by
  unfold F_X11_bound_12 at h
  refine p_istore_n (Nat.le_of_ble_eq_true rfl) rfl ?_
  refine p_iload_n rfl ?_
  refine p_ldc co_X11_242 ?_
  refine p_iload_n rfl ?_
  refine p_isub ?_
  refine p_icmp_le h 14 rfl rfl (fun _ h => ?_) (fun _ h => ?_)
  · refine p_iload_n rfl ?_
    refine p_iload_n rfl ?_
    refine p_iadd ?_
    exact p_iret rfl h
  · refine p_ldc co_X11_242 ?_
    refine p_goto 17 rfl rfl ?_
    exact p_iret rfl h
set_option maxRecDepth 100000 in
theorem S_X11_bound {l : Launch} (hl : l.stackTraces = false) {M : PM} {a0 : Int32} {a1 : Int32} {r : PR} (h : F_X11_bound M a0 a1 = some r) : PW l 0 Y_X11_bound k_X11_bound [vI a0, vI a1, jk] [] M r := by
  unfold F_X11_bound at h
  refine p_iload_n rfl ?_
  refine p_ldc co_X11_163 ?_
  refine p_icmp_le h 5 rfl rfl (fun _ h => ?_) (fun _ h => ?_)
  · refine p_ldc co_X11_163 ?_
    exact p_fg (S_X11_bound_12 hl h) ⟨Or.inl rfl, Or.inr rfl, Or.inl rfl, trivial⟩
  · refine p_iload_n rfl ?_
    refine p_goto 6 rfl rfl ?_
    exact p_fg (S_X11_bound_12 hl h) ⟨Or.inl rfl, Or.inr rfl, Or.inl rfl, trivial⟩
set_option maxRecDepth 100000 in
theorem pc_X11_bound {l : Launch} (hl : l.stackTraces = false) {M : PM} {a0 : Int32} {a1 : Int32} {r : PR} (h : F_X11_bound M a0 a1 = some r) : PC l 0 Y_X11_bound [vI a0, vI a1] M r := pc_of hl (by decide +kernel) cok_X11_bound (Nat.le_of_ble_eq_true rfl) rfl (S_X11_bound hl  h) rfl
def F_X11_next_99_39 : Nat → PM → Int32 → Int32 → Option PR
  | 0, _, _, _ => none
  | n + 1, M, x2, x3 => (if x2 < x3 then some (.inl (some (.int (-1))), M) else cI (F_X11_isSuch_99 M x3) fun v1270 M1269 => (if v1270 = 0 then lt (x3 + 1) fun y1271 => F_X11_next_99_39 n M1269 x2 y1271 else some (.inl (some (.int x3)), M1269)))
def F_X11_next_99_18 (M : PM) (x1 : Int32) (t1 : Int32) : Option PR := cI (F_X11_bad_99 M t1 1 0) fun v1273 M1272 => (if v1273 = 0 then cI (F_X11_bound M1272 x1 (mI M1272 99 27)) fun v1275 M1274 => F_X11_next_99_39 FUEL M1274 v1275 x1 else some (.inl (some (.int 0)), M1272))
def F_X11_next_99 (M : PM) (a1 : Int32) : Option PR := cI (F_X11_isDay (sI M 99 0 0) a1) fun v1277 M1276 => (if v1277 = 0 then F_X11_next_99_18 M1276 a1 1 else F_X11_next_99_18 M1276 a1 0)
set_option maxRecDepth 100000 in
theorem S_X11_next_99_39 {l : Launch} (hl : l.stackTraces = false) : ∀ (n : Nat) {M : PM} {x2 : Int32} {x3 : Int32} {r : PR}, F_X11_next_99_39  n M x2 x3 = some r → PW l 3 Y_X11_next k_X11_next_39 [vR 99, jk, vI x2, vI x3] [] M r := by
  intro n
  induction n with
  | zero => intro M x2 x3 r h; exact nomatch (show (none : Option PR) = some r from h)
  | succ n ih =>
    intro M x2 x3 r h
    rw [F_X11_next_99_39] at h
    refine p_iload_n rfl ?_
    refine p_iload_n rfl ?_
    refine p_icmp_gt h 34 rfl rfl (fun _ h => ?_) (fun _ h => ?_)
    · refine p_iconst cn_m1 ?_
      exact p_iret rfl h
    · refine p_aload_n rfl ?_
      refine p_iload_n rfl ?_
      refine p_cI (av := [_, _]) ⟨mok_X11_isSuch, Or.inl ⟨268, 99, 11, 0, _, rfl, rfl, rfl, gt_99, rfl, ins_X11_isSuch, Or.inl lk_X11_268⟩⟩ (Nat.le_of_ble_eq_true rfl) (Nat.le_of_ble_eq_true rfl) rfl (fun _ h => pc_X11_isSuch_99 hl h) h (fun v1270 M1269 h => ?_)
      refine p_if_eq h 32 rfl rfl (fun _ h => ?_) (fun _ h => ?_)
      · have h := lt_h h
        refine p_iinc (Nat.le_of_ble_eq_true rfl) rfl (ci_1 _) rfl ?_
        refine p_goto 23 rfl rfl ?_
        exact p_fg (ih h) ⟨Or.inr rfl, Or.inl rfl, Or.inr rfl, Or.inr rfl, trivial⟩
      · refine p_iload_n rfl ?_
        exact p_iret rfl h
set_option maxRecDepth 100000 in
theorem S_X11_next_99_18 {l : Launch} (hl : l.stackTraces = false) {M : PM} {x1 : Int32} {t1 : Int32} {r : PR} (h : F_X11_next_99_18  M x1 t1 = some r) : PW l 3 Y_X11_next k_X11_next_18 [vR 99, vI x1, jk, jk] [vI t1, vR 99] M r := by
  unfold F_X11_next_99_18 at h
  refine p_iconst cn_1 ?_
  refine p_iconst cn_0 ?_
  refine p_cI (av := [_, _, _, _]) ⟨mok_X11_bad, Or.inl ⟨180, 99, 11, 0, _, rfl, rfl, rfl, gt_99, rfl, ins_X11_bad, Or.inl lk_X11_180⟩⟩ (Nat.le_of_ble_eq_true rfl) (Nat.le_of_ble_eq_true rfl) rfl (fun _ h => pc_X11_bad_99 hl h) h (fun v1273 M1272 h => ?_)
  refine p_if_eq h 16 rfl rfl (fun _ h => ?_) (fun _ h => ?_)
  · refine p_iload_n rfl ?_
    refine p_aload_n rfl ?_
    refine p_getI fk_X11_104 gt_99 rfl ?_
    refine p_cI (av := [_, _]) ⟨mok_X11_bound, Or.inr ⟨271, rfl, rfl, sta_X11_bound, Or.inl lk_X11_271⟩⟩ (Nat.le_of_ble_eq_true rfl) (Nat.le_of_ble_eq_true rfl) rfl (fun _ h => pc_X11_bound hl h) h (fun v1275 M1274 h => ?_)
    refine p_istore_n (Nat.le_of_ble_eq_true rfl) rfl ?_
    refine p_iload_n rfl ?_
    refine p_istore_n (Nat.le_of_ble_eq_true rfl) rfl ?_
    exact p_fg (S_X11_next_99_39 hl FUEL h) ⟨Or.inr rfl, Or.inl rfl, Or.inr rfl, Or.inr rfl, trivial⟩
  · refine p_iconst cn_0 ?_
    exact p_iret rfl h
set_option maxRecDepth 100000 in
theorem S_X11_next_99 {l : Launch} (hl : l.stackTraces = false) {M : PM} {a1 : Int32} {r : PR} (h : F_X11_next_99 M a1 = some r) : PW l 3 Y_X11_next k_X11_next [vR 99, vI a1, jk, jk] [] M r := by
  unfold F_X11_next_99 at h
  refine p_aload_n rfl ?_
  refine p_iconst cn_0 ?_
  refine p_putI fk_X11_107 gt_99 rfl ?_
  refine p_aload_n rfl ?_
  refine p_iload_n rfl ?_
  refine p_cI (av := [_]) ⟨mok_X11_isDay, Or.inr ⟨247, rfl, rfl, sta_X11_isDay, Or.inl lk_X11_247⟩⟩ (Nat.le_of_ble_eq_true rfl) (Nat.le_of_ble_eq_true rfl) rfl (fun _ h => pc_X11_isDay hl h) h (fun v1277 M1276 h => ?_)
  refine p_if_ne h 9 rfl rfl (fun _ h => ?_) (fun _ h => ?_)
  · refine p_iconst cn_1 ?_
    refine p_goto 10 rfl rfl ?_
    exact p_fg (S_X11_next_99_18 hl h) ⟨Or.inr rfl, Or.inr rfl, Or.inl rfl, Or.inl rfl, trivial⟩
  · refine p_iconst cn_0 ?_
    exact p_fg (S_X11_next_99_18 hl h) ⟨Or.inr rfl, Or.inr rfl, Or.inl rfl, Or.inl rfl, trivial⟩
set_option maxRecDepth 100000 in
theorem pc_X11_next_99 {l : Launch} (hl : l.stackTraces = false) {M : PM} {a1 : Int32} {r : PR} (h : F_X11_next_99 M a1 = some r) : PC l 3 Y_X11_next [vR 99, vI a1] M r := pc_of hl (by decide +kernel) cok_X11_next (Nat.le_of_ble_eq_true rfl) rfl (S_X11_next_99 hl  h) rfl
def F_X11_areLaws_99 (M : PM) (a1 : Int32) : Option PR := if ixOK 0 6 = true then cI (F_X11_in M a1 0 ((1 <<< ((mA M 103 (0 : Int32).toNatClampNeg) &&& 31)) - 1)) fun v1279 M1278 => (if v1279 &&& 1 = v1279 then some (.inl (some (.int v1279)), M1278) else none) else none
set_option maxRecDepth 100000 in
theorem S_X11_areLaws_99 {l : Launch} (hl : l.stackTraces = false) {M : PM} {a1 : Int32} {r : PR} (h : F_X11_areLaws_99 M a1 = some r) : PW l 1 Y_X11_areLaws k_X11_areLaws [vR 99, vI a1] [] M r := by
  unfold F_X11_areLaws_99 at h
  refine p_iload_n rfl ?_
  refine p_iconst cn_0 ?_
  refine p_iconst cn_1 ?_
  refine p_aload_n rfl ?_
  refine p_getR fk_X11_23 gt_99 rfl rfl ?_
  refine p_iconst cn_0 ?_
  refine p_iald gt_103 h (fun h => ?_)
  refine p_ishl ?_
  refine p_iconst cn_1 ?_
  refine p_isub ?_
  refine p_cI (av := [_, _, _]) ⟨mok_X11_in, Or.inr ⟨141, rfl, rfl, sta_X11_in, Or.inl lk_X11_141⟩⟩ (Nat.le_of_ble_eq_true rfl) (Nat.le_of_ble_eq_true rfl) rfl (fun _ h => pc_X11_in hl h) h (fun v1279 M1278 h => ?_)
  exact p_zret rfl h
set_option maxRecDepth 100000 in
theorem pc_X11_areLaws_99 {l : Launch} (hl : l.stackTraces = false) {M : PM} {a1 : Int32} {r : PR} (h : F_X11_areLaws_99 M a1 = some r) : PC l 1 Y_X11_areLaws [vR 99, vI a1] M r := pc_of hl (by decide +kernel) cok_X11_areLaws (Nat.le_of_ble_eq_true rfl) rfl (S_X11_areLaws_99 hl  h) rfl
def F_X11_canBe (M : PM) (a0 : Int32) (a1 : Int32) (a2 : Int32) (a3 : Int32) : Option PR := cI (F_X11_common M a0 a2) fun v1281 M1280 => if v1281 = 0 then none else (if (a1 - a3) - (a1 - a3) / v1281 * v1281 = 0 then (if (1 : Int32) &&& 1 = 1 then some (.inl (some (.int 1)), M1280) else none) else (if (0 : Int32) &&& 1 = 0 then some (.inl (some (.int 0)), M1280) else none))
set_option maxRecDepth 100000 in
theorem S_X11_canBe {l : Launch} (hl : l.stackTraces = false) {M : PM} {a0 : Int32} {a1 : Int32} {a2 : Int32} {a3 : Int32} {r : PR} (h : F_X11_canBe M a0 a1 a2 a3 = some r) : PW l 1 Y_X11_canBe k_X11_canBe [vI a0, vI a1, vI a2, vI a3] [] M r := by
  unfold F_X11_canBe at h
  refine p_iload_n rfl ?_
  refine p_iload_n rfl ?_
  refine p_isub ?_
  refine p_iload_n rfl ?_
  refine p_iload_n rfl ?_
  refine p_cI (av := [_, _]) ⟨mok_X11_common, Or.inr ⟨164, rfl, rfl, sta_X11_common, Or.inl lk_X11_164⟩⟩ (Nat.le_of_ble_eq_true rfl) (Nat.le_of_ble_eq_true rfl) rfl (fun _ h => pc_X11_common hl h) h (fun v1281 M1280 h => ?_)
  refine p_irem h (fun h => ?_)
  refine p_if_ne h 10 rfl rfl (fun _ h => ?_) (fun _ h => ?_)
  · refine p_iconst cn_1 ?_
    refine p_goto 11 rfl rfl ?_
    exact p_zret rfl h
  · refine p_iconst cn_0 ?_
    exact p_zret rfl h
set_option maxRecDepth 100000 in
theorem pc_X11_canBe {l : Launch} (hl : l.stackTraces = false) {M : PM} {a0 : Int32} {a1 : Int32} {a2 : Int32} {a3 : Int32} {r : PR} (h : F_X11_canBe M a0 a1 a2 a3 = some r) : PC l 1 Y_X11_canBe [vI a0, vI a1, vI a2, vI a3] M r := pc_of hl (by decide +kernel) cok_X11_canBe (Nat.le_of_ble_eq_true rfl) rfl (S_X11_canBe hl  h) rfl
def F_X11_canBoth_99 (M : PM) (a1 : Int32) (a2 : Int32) : Option PR := if ixOK a1 12 = true then if ixOK a1 12 = true then if ixOK a2 12 = true then if ixOK a2 12 = true then cI (F_X11_canBe M (mA M 107 a1.toNatClampNeg) (mA M 109 a1.toNatClampNeg) (mA M 107 a2.toNatClampNeg) (mA M 109 a2.toNatClampNeg)) fun v1283 M1282 => (if v1283 &&& 1 = v1283 then some (.inl (some (.int v1283)), M1282) else none) else none else none else none else none
set_option maxRecDepth 100000 in
theorem S_X11_canBoth_99 {l : Launch} (hl : l.stackTraces = false) {M : PM} {a1 : Int32} {a2 : Int32} {r : PR} (h : F_X11_canBoth_99 M a1 a2 = some r) : PW l 2 Y_X11_canBoth k_X11_canBoth [vR 99, vI a1, vI a2] [] M r := by
  unfold F_X11_canBoth_99 at h
  refine p_aload_n rfl ?_
  refine p_getR fk_X11_35 gt_99 rfl rfl ?_
  refine p_iload_n rfl ?_
  refine p_iald gt_107 h (fun h => ?_)
  refine p_aload_n rfl ?_
  refine p_getR fk_X11_41 gt_99 rfl rfl ?_
  refine p_iload_n rfl ?_
  refine p_iald gt_109 h (fun h => ?_)
  refine p_aload_n rfl ?_
  refine p_getR fk_X11_35 gt_99 rfl rfl ?_
  refine p_iload_n rfl ?_
  refine p_iald gt_107 h (fun h => ?_)
  refine p_aload_n rfl ?_
  refine p_getR fk_X11_41 gt_99 rfl rfl ?_
  refine p_iload_n rfl ?_
  refine p_iald gt_109 h (fun h => ?_)
  refine p_cI (av := [_, _, _, _]) ⟨mok_X11_canBe, Or.inr ⟨274, rfl, rfl, sta_X11_canBe, Or.inl lk_X11_274⟩⟩ (Nat.le_of_ble_eq_true rfl) (Nat.le_of_ble_eq_true rfl) rfl (fun _ h => pc_X11_canBe hl h) h (fun v1283 M1282 h => ?_)
  exact p_zret rfl h
set_option maxRecDepth 100000 in
theorem pc_X11_canBoth_99 {l : Launch} (hl : l.stackTraces = false) {M : PM} {a1 : Int32} {a2 : Int32} {r : PR} (h : F_X11_canBoth_99 M a1 a2 = some r) : PC l 2 Y_X11_canBoth [vR 99, vI a1, vI a2] M r := pc_of hl (by decide +kernel) cok_X11_canBoth (Nat.le_of_ble_eq_true rfl) rfl (S_X11_canBoth_99 hl  h) rfl
def F_X11_neverOf_99_60 (k2 : PM → Int32 → Int32 → Option PR) (k16 : PM → Int32 → Int32 → Int32 → Option PR) (M : PM) (x1 : Int32) (x2 : Int32) (x3 : Int32) : Option PR := lt (x3 + 1) fun y1284 => k16 M x1 x2 y1284
def F_X11_neverOf_99_16 (k2 : PM → Int32 → Int32 → Option PR) : Nat → PM → Int32 → Int32 → Int32 → Option PR
  | 0, _, _, _, _ => none
  | n + 1, M, x1, x2, x3 => if ixOK 0 6 = true then (if mA M 103 (0 : Int32).toNatClampNeg ≤ x3 then lt (x2 + 1) fun y1285 => k2 M x1 y1285 else (if (x1 >>> (x2 &&& 31)) &&& 1 = 1 then (if (x1 >>> (x3 &&& 31)) &&& 1 = 1 then cI (F_X11_canBoth_99 M x2 x3) fun v1287 M1286 => (if v1287 = 0 then some (.inl (some (.int ((100 * x2) + x3))), M1286) else F_X11_neverOf_99_60 k2 (F_X11_neverOf_99_16 k2 n) M1286 x1 x2 x3) else F_X11_neverOf_99_60 k2 (F_X11_neverOf_99_16 k2 n) M x1 x2 x3) else F_X11_neverOf_99_60 k2 (F_X11_neverOf_99_16 k2 n) M x1 x2 x3)) else none
def F_X11_neverOf_99_2 : Nat → PM → Int32 → Int32 → Option PR
  | 0, _, _, _ => none
  | n + 1, M, x1, x2 => if ixOK 0 6 = true then (if mA M 103 (0 : Int32).toNatClampNeg ≤ x2 then some (.inl (some (.int (-1))), M) else lt (x2 + 1) fun y1288 => F_X11_neverOf_99_16 (F_X11_neverOf_99_2 n) FUEL M x1 x2 y1288) else none
def F_X11_neverOf_99 (M : PM) (a1 : Int32) : Option PR := F_X11_neverOf_99_2 FUEL M a1 0
set_option maxRecDepth 100000 in
theorem S_X11_neverOf_99_60 {l : Launch} (hl : l.stackTraces = false) {k2 : PM → Int32 → Int32 → Option PR} {k16 : PM → Int32 → Int32 → Int32 → Option PR} (hk2 : ∀ {M : PM} {x1 : Int32} {x2 : Int32} {r : PR}, k2 M x1 x2 = some r → PW l 3 Y_X11_neverOf k_X11_neverOf_2 [vR 99, vI x1, vI x2, jk] [] M r) (hk16 : ∀ {M : PM} {x1 : Int32} {x2 : Int32} {x3 : Int32} {r : PR}, k16 M x1 x2 x3 = some r → PW l 3 Y_X11_neverOf k_X11_neverOf_16 [vR 99, vI x1, vI x2, vI x3] [] M r) {M : PM} {x1 : Int32} {x2 : Int32} {x3 : Int32} {r : PR} (h : F_X11_neverOf_99_60 k2 k16 M x1 x2 x3 = some r) : PW l 3 Y_X11_neverOf k_X11_neverOf_60 [vR 99, vI x1, vI x2, vI x3] [] M r := by
  unfold F_X11_neverOf_99_60 at h
  have h := lt_h h
  refine p_iinc (Nat.le_of_ble_eq_true rfl) rfl (ci_1 _) rfl ?_
  refine p_goto 12 rfl rfl ?_
  exact p_fg (hk16 h) ⟨Or.inr rfl, Or.inr rfl, Or.inr rfl, Or.inr rfl, trivial⟩
set_option maxRecDepth 100000 in
theorem S_X11_neverOf_99_16 {l : Launch} (hl : l.stackTraces = false) {k2 : PM → Int32 → Int32 → Option PR} (hk2 : ∀ {M : PM} {x1 : Int32} {x2 : Int32} {r : PR}, k2 M x1 x2 = some r → PW l 3 Y_X11_neverOf k_X11_neverOf_2 [vR 99, vI x1, vI x2, jk] [] M r) : ∀ (n : Nat) {M : PM} {x1 : Int32} {x2 : Int32} {x3 : Int32} {r : PR}, F_X11_neverOf_99_16 k2 n M x1 x2 x3 = some r → PW l 3 Y_X11_neverOf k_X11_neverOf_16 [vR 99, vI x1, vI x2, vI x3] [] M r := by
  intro n
  induction n with
  | zero => intro M x1 x2 x3 r h; exact nomatch (show (none : Option PR) = some r from h)
  | succ n ih =>
    intro M x1 x2 x3 r h
    rw [F_X11_neverOf_99_16] at h
    refine p_iload_n rfl ?_
    refine p_aload_n rfl ?_
    refine p_getR fk_X11_23 gt_99 rfl rfl ?_
    refine p_iconst cn_0 ?_
    refine p_iald gt_103 h (fun h => ?_)
    refine p_icmp_ge h 45 rfl rfl (fun _ h => ?_) (fun _ h => ?_)
    · have h := lt_h h
      refine p_iinc (Nat.le_of_ble_eq_true rfl) rfl (ci_1 _) rfl ?_
      refine p_goto 2 rfl rfl ?_
      exact p_fg (hk2 h) ⟨Or.inr rfl, Or.inr rfl, Or.inr rfl, Or.inl rfl, trivial⟩
    · refine p_iload_n rfl ?_
      refine p_iload_n rfl ?_
      refine p_ishr ?_
      refine p_iconst cn_1 ?_
      refine p_iand ?_
      refine p_iconst cn_1 ?_
      refine p_icmp_ne h 43 rfl rfl (fun _ h => ?_) (fun _ h => ?_)
      · refine p_iload_n rfl ?_
        refine p_iload_n rfl ?_
        refine p_ishr ?_
        refine p_iconst cn_1 ?_
        refine p_iand ?_
        refine p_iconst cn_1 ?_
        refine p_icmp_ne h 43 rfl rfl (fun _ h => ?_) (fun _ h => ?_)
        · refine p_aload_n rfl ?_
          refine p_iload_n rfl ?_
          refine p_iload_n rfl ?_
          refine p_cI (av := [_, _, _]) ⟨mok_X11_canBoth, Or.inl ⟨278, 99, 11, 0, _, rfl, rfl, rfl, gt_99, rfl, ins_X11_canBoth, Or.inl lk_X11_278⟩⟩ (Nat.le_of_ble_eq_true rfl) (Nat.le_of_ble_eq_true rfl) rfl (fun _ h => pc_X11_canBoth_99 hl h) h (fun v1287 M1286 h => ?_)
          refine p_if_ne h 43 rfl rfl (fun _ h => ?_) (fun _ h => ?_)
          · refine p_bipush cb_100 ?_
            refine p_iload_n rfl ?_
            refine p_imul ?_
            refine p_iload_n rfl ?_
            refine p_iadd ?_
            exact p_iret rfl h
          · exact p_fg (S_X11_neverOf_99_60 hl hk2 (fun h => ih h) h) ⟨Or.inr rfl, Or.inr rfl, Or.inr rfl, Or.inr rfl, trivial⟩
        · exact p_fg (S_X11_neverOf_99_60 hl hk2 (fun h => ih h) h) ⟨Or.inr rfl, Or.inr rfl, Or.inr rfl, Or.inr rfl, trivial⟩
      · exact p_fg (S_X11_neverOf_99_60 hl hk2 (fun h => ih h) h) ⟨Or.inr rfl, Or.inr rfl, Or.inr rfl, Or.inr rfl, trivial⟩
set_option maxRecDepth 100000 in
theorem S_X11_neverOf_99_2 {l : Launch} (hl : l.stackTraces = false) : ∀ (n : Nat) {M : PM} {x1 : Int32} {x2 : Int32} {r : PR}, F_X11_neverOf_99_2  n M x1 x2 = some r → PW l 3 Y_X11_neverOf k_X11_neverOf_2 [vR 99, vI x1, vI x2, jk] [] M r := by
  intro n
  induction n with
  | zero => intro M x1 x2 r h; exact nomatch (show (none : Option PR) = some r from h)
  | succ n ih =>
    intro M x1 x2 r h
    rw [F_X11_neverOf_99_2] at h
    refine p_iload_n rfl ?_
    refine p_aload_n rfl ?_
    refine p_getR fk_X11_23 gt_99 rfl rfl ?_
    refine p_iconst cn_0 ?_
    refine p_iald gt_103 h (fun h => ?_)
    refine p_icmp_ge h 47 rfl rfl (fun _ h => ?_) (fun _ h => ?_)
    · refine p_iconst cn_m1 ?_
      exact p_iret rfl h
    · refine p_iload_n rfl ?_
      refine p_iconst cn_1 ?_
      refine p_iadd ?_
      have h := lt_h h
      refine p_istore_n (Nat.le_of_ble_eq_true rfl) rfl ?_
      exact p_fg (S_X11_neverOf_99_16 hl (fun h => ih h) FUEL h) ⟨Or.inr rfl, Or.inr rfl, Or.inr rfl, Or.inr rfl, trivial⟩
set_option maxRecDepth 100000 in
theorem S_X11_neverOf_99 {l : Launch} (hl : l.stackTraces = false) {M : PM} {a1 : Int32} {r : PR} (h : F_X11_neverOf_99 M a1 = some r) : PW l 3 Y_X11_neverOf k_X11_neverOf [vR 99, vI a1, jk, jk] [] M r := by
  unfold F_X11_neverOf_99 at h
  refine p_iconst cn_0 ?_
  refine p_istore_n (Nat.le_of_ble_eq_true rfl) rfl ?_
  exact p_fg (S_X11_neverOf_99_2 hl FUEL h) ⟨Or.inr rfl, Or.inr rfl, Or.inr rfl, Or.inl rfl, trivial⟩
set_option maxRecDepth 100000 in
theorem pc_X11_neverOf_99 {l : Launch} (hl : l.stackTraces = false) {M : PM} {a1 : Int32} {r : PR} (h : F_X11_neverOf_99 M a1 = some r) : PC l 3 Y_X11_neverOf [vR 99, vI a1] M r := pc_of hl (by decide +kernel) cok_X11_neverOf (Nat.le_of_ble_eq_true rfl) rfl (S_X11_neverOf_99 hl  h) rfl
def F_X11_never_99_19 (M : PM) (x1 : Int32) (t1 : Int32) : Option PR := cI (F_X11_bad_99 M t1 1 2) fun v1290 M1289 => (if v1290 = 0 then cI (F_X11_neverOf_99 M1289 x1) fun v1292 M1291 => some (.inl (some (.int v1292)), M1291) else some (.inl (some (.int 0)), M1289))
def F_X11_never_99 (M : PM) (a1 : Int32) : Option PR := cI (F_X11_areLaws_99 (sI M 99 0 0) a1) fun v1294 M1293 => (if v1294 = 0 then F_X11_never_99_19 M1293 a1 1 else F_X11_never_99_19 M1293 a1 0)
set_option maxRecDepth 100000 in
theorem S_X11_never_99_19 {l : Launch} (hl : l.stackTraces = false) {M : PM} {x1 : Int32} {t1 : Int32} {r : PR} (h : F_X11_never_99_19  M x1 t1 = some r) : PW l 4 Y_X11_never k_X11_never_19 [vR 99, vI x1] [vI t1, vR 99] M r := by
  unfold F_X11_never_99_19 at h
  refine p_iconst cn_1 ?_
  refine p_iconst cn_2 ?_
  refine p_cI (av := [_, _, _, _]) ⟨mok_X11_bad, Or.inl ⟨180, 99, 11, 0, _, rfl, rfl, rfl, gt_99, rfl, ins_X11_bad, Or.inl lk_X11_180⟩⟩ (Nat.le_of_ble_eq_true rfl) (Nat.le_of_ble_eq_true rfl) rfl (fun _ h => pc_X11_bad_99 hl h) h (fun v1290 M1289 h => ?_)
  refine p_if_eq h 17 rfl rfl (fun _ h => ?_) (fun _ h => ?_)
  · refine p_aload_n rfl ?_
    refine p_iload_n rfl ?_
    refine p_cI (av := [_, _]) ⟨mok_X11_neverOf, Or.inl ⟨284, 99, 11, 0, _, rfl, rfl, rfl, gt_99, rfl, ins_X11_neverOf, Or.inl lk_X11_284⟩⟩ (Nat.le_of_ble_eq_true rfl) (Nat.le_of_ble_eq_true rfl) rfl (fun _ h => pc_X11_neverOf_99 hl h) h (fun v1292 M1291 h => ?_)
    exact p_iret rfl h
  · refine p_iconst cn_0 ?_
    exact p_iret rfl h
set_option maxRecDepth 100000 in
theorem S_X11_never_99 {l : Launch} (hl : l.stackTraces = false) {M : PM} {a1 : Int32} {r : PR} (h : F_X11_never_99 M a1 = some r) : PW l 4 Y_X11_never k_X11_never [vR 99, vI a1] [] M r := by
  unfold F_X11_never_99 at h
  refine p_aload_n rfl ?_
  refine p_iconst cn_0 ?_
  refine p_putI fk_X11_107 gt_99 rfl ?_
  refine p_aload_n rfl ?_
  refine p_aload_n rfl ?_
  refine p_iload_n rfl ?_
  refine p_cI (av := [_, _]) ⟨mok_X11_areLaws, Or.inl ⟨281, 99, 11, 0, _, rfl, rfl, rfl, gt_99, rfl, ins_X11_areLaws, Or.inl lk_X11_281⟩⟩ (Nat.le_of_ble_eq_true rfl) (Nat.le_of_ble_eq_true rfl) rfl (fun _ h => pc_X11_areLaws_99 hl h) h (fun v1294 M1293 h => ?_)
  refine p_if_ne h 10 rfl rfl (fun _ h => ?_) (fun _ h => ?_)
  · refine p_iconst cn_1 ?_
    refine p_goto 11 rfl rfl ?_
    exact p_fg (S_X11_never_99_19 hl h) ⟨Or.inr rfl, Or.inr rfl, trivial⟩
  · refine p_iconst cn_0 ?_
    exact p_fg (S_X11_never_99_19 hl h) ⟨Or.inr rfl, Or.inr rfl, trivial⟩
set_option maxRecDepth 100000 in
theorem pc_X11_never_99 {l : Launch} (hl : l.stackTraces = false) {M : PM} {a1 : Int32} {r : PR} (h : F_X11_never_99 M a1 = some r) : PC l 4 Y_X11_never [vR 99, vI a1] M r := pc_of hl (by decide +kernel) cok_X11_never (Nat.le_of_ble_eq_true rfl) rfl (S_X11_never_99 hl  h) rfl
def F_X11_together_99_42 : Nat → PM → Int32 → Int32 → Option PR
  | 0, _, _, _ => none
  | n + 1, M, x1, x2 => if ixOK 4 6 = true then (if mA M 103 (4 : Int32).toNatClampNeg ≤ x2 then some (.inl (some (.int (-1))), M) else cI (F_X11_bitsAt_99 M x2) fun v1296 M1295 => (if v1296 &&& x1 = x1 then some (.inl (some (.int x2)), M1295) else lt (x2 + 1) fun y1297 => F_X11_together_99_42 n M1295 x1 y1297)) else none
def F_X11_together_99_19 (M : PM) (x1 : Int32) (t1 : Int32) : Option PR := cI (F_X11_bad_99 M t1 1 2) fun v1299 M1298 => (if v1299 = 0 then cI (F_X11_neverOf_99 M1298 x1) fun v1301 M1300 => (if v1301 = (-1) then F_X11_together_99_42 FUEL M1300 x1 0 else some (.inl (some (.int (-1))), M1300)) else some (.inl (some (.int 0)), M1298))
def F_X11_together_99 (M : PM) (a1 : Int32) : Option PR := cI (F_X11_areLaws_99 (sI M 99 0 0) a1) fun v1303 M1302 => (if v1303 = 0 then F_X11_together_99_19 M1302 a1 1 else F_X11_together_99_19 M1302 a1 0)
set_option maxRecDepth 100000 in
theorem S_X11_together_99_42 {l : Launch} (hl : l.stackTraces = false) : ∀ (n : Nat) {M : PM} {x1 : Int32} {x2 : Int32} {r : PR}, F_X11_together_99_42  n M x1 x2 = some r → PW l 4 Y_X11_together k_X11_together_42 [vR 99, vI x1, vI x2] [] M r := by
  intro n
  induction n with
  | zero => intro M x1 x2 r h; exact nomatch (show (none : Option PR) = some r from h)
  | succ n ih =>
    intro M x1 x2 r h
    rw [F_X11_together_99_42] at h
    refine p_iload_n rfl ?_
    refine p_aload_n rfl ?_
    refine p_getR fk_X11_23 gt_99 rfl rfl ?_
    refine p_iconst cn_4 ?_
    refine p_iald gt_103 h (fun h => ?_)
    refine p_icmp_ge h 43 rfl rfl (fun _ h => ?_) (fun _ h => ?_)
    · refine p_iconst cn_m1 ?_
      exact p_iret rfl h
    · refine p_aload_n rfl ?_
      refine p_iload_n rfl ?_
      refine p_cI (av := [_, _]) ⟨mok_X11_bitsAt, Or.inl ⟨253, 99, 11, 0, _, rfl, rfl, rfl, gt_99, rfl, ins_X11_bitsAt, Or.inl lk_X11_253⟩⟩ (Nat.le_of_ble_eq_true rfl) (Nat.le_of_ble_eq_true rfl) rfl (fun _ h => pc_X11_bitsAt_99 hl h) h (fun v1296 M1295 h => ?_)
      refine p_iload_n rfl ?_
      refine p_iand ?_
      refine p_iload_n rfl ?_
      refine p_icmp_ne h 41 rfl rfl (fun _ h => ?_) (fun _ h => ?_)
      · refine p_iload_n rfl ?_
        exact p_iret rfl h
      · have h := lt_h h
        refine p_iinc (Nat.le_of_ble_eq_true rfl) rfl (ci_1 _) rfl ?_
        refine p_goto 26 rfl rfl ?_
        exact p_fg (ih h) ⟨Or.inr rfl, Or.inr rfl, Or.inr rfl, trivial⟩
set_option maxRecDepth 100000 in
theorem S_X11_together_99_19 {l : Launch} (hl : l.stackTraces = false) {M : PM} {x1 : Int32} {t1 : Int32} {r : PR} (h : F_X11_together_99_19  M x1 t1 = some r) : PW l 4 Y_X11_together k_X11_together_19 [vR 99, vI x1, jk] [vI t1, vR 99] M r := by
  unfold F_X11_together_99_19 at h
  refine p_iconst cn_1 ?_
  refine p_iconst cn_2 ?_
  refine p_cI (av := [_, _, _, _]) ⟨mok_X11_bad, Or.inl ⟨180, 99, 11, 0, _, rfl, rfl, rfl, gt_99, rfl, ins_X11_bad, Or.inl lk_X11_180⟩⟩ (Nat.le_of_ble_eq_true rfl) (Nat.le_of_ble_eq_true rfl) rfl (fun _ h => pc_X11_bad_99 hl h) h (fun v1299 M1298 h => ?_)
  refine p_if_eq h 17 rfl rfl (fun _ h => ?_) (fun _ h => ?_)
  · refine p_aload_n rfl ?_
    refine p_iload_n rfl ?_
    refine p_cI (av := [_, _]) ⟨mok_X11_neverOf, Or.inl ⟨284, 99, 11, 0, _, rfl, rfl, rfl, gt_99, rfl, ins_X11_neverOf, Or.inl lk_X11_284⟩⟩ (Nat.le_of_ble_eq_true rfl) (Nat.le_of_ble_eq_true rfl) rfl (fun _ h => pc_X11_neverOf_99 hl h) h (fun v1301 M1300 h => ?_)
    refine p_iconst cn_m1 ?_
    refine p_icmp_eq h 24 rfl rfl (fun _ h => ?_) (fun _ h => ?_)
    · refine p_iconst cn_0 ?_
      refine p_istore_n (Nat.le_of_ble_eq_true rfl) rfl ?_
      exact p_fg (S_X11_together_99_42 hl FUEL h) ⟨Or.inr rfl, Or.inr rfl, Or.inr rfl, trivial⟩
    · refine p_iconst cn_m1 ?_
      exact p_iret rfl h
  · refine p_iconst cn_0 ?_
    exact p_iret rfl h
set_option maxRecDepth 100000 in
theorem S_X11_together_99 {l : Launch} (hl : l.stackTraces = false) {M : PM} {a1 : Int32} {r : PR} (h : F_X11_together_99 M a1 = some r) : PW l 4 Y_X11_together k_X11_together [vR 99, vI a1, jk] [] M r := by
  unfold F_X11_together_99 at h
  refine p_aload_n rfl ?_
  refine p_iconst cn_0 ?_
  refine p_putI fk_X11_107 gt_99 rfl ?_
  refine p_aload_n rfl ?_
  refine p_aload_n rfl ?_
  refine p_iload_n rfl ?_
  refine p_cI (av := [_, _]) ⟨mok_X11_areLaws, Or.inl ⟨281, 99, 11, 0, _, rfl, rfl, rfl, gt_99, rfl, ins_X11_areLaws, Or.inl lk_X11_281⟩⟩ (Nat.le_of_ble_eq_true rfl) (Nat.le_of_ble_eq_true rfl) rfl (fun _ h => pc_X11_areLaws_99 hl h) h (fun v1303 M1302 h => ?_)
  refine p_if_ne h 10 rfl rfl (fun _ h => ?_) (fun _ h => ?_)
  · refine p_iconst cn_1 ?_
    refine p_goto 11 rfl rfl ?_
    exact p_fg (S_X11_together_99_19 hl h) ⟨Or.inr rfl, Or.inr rfl, Or.inl rfl, trivial⟩
  · refine p_iconst cn_0 ?_
    exact p_fg (S_X11_together_99_19 hl h) ⟨Or.inr rfl, Or.inr rfl, Or.inl rfl, trivial⟩
set_option maxRecDepth 100000 in
theorem pc_X11_together_99 {l : Launch} (hl : l.stackTraces = false) {M : PM} {a1 : Int32} {r : PR} (h : F_X11_together_99 M a1 = some r) : PC l 4 Y_X11_together [vR 99, vI a1] M r := pc_of hl (by decide +kernel) cok_X11_together (Nat.le_of_ble_eq_true rfl) rfl (S_X11_together_99 hl  h) rfl
def F_X11_most_99_68 (k34 : PM → Int32 → Int32 → Int32 → Option PR) (M : PM) (x1 : Int32) (x2 : Int32) (x3 : Int32) : Option PR := lt (x3 + 1) fun y1304 => k34 M x1 x2 y1304
def F_X11_most_99_34 : Nat → PM → Int32 → Int32 → Int32 → Option PR
  | 0, _, _, _, _ => none
  | n + 1, M, x1, x2, x3 => if ixOK 0 6 = true then (if 1 <<< ((mA M 103 (0 : Int32).toNatClampNeg) &&& 31) ≤ x3 then (if x1 = 0 then cI (F_X11_ones M x2) fun v1306 M1305 => some (.inl (some (.int v1306)), M1305) else some (.inl (some (.int x2)), M)) else cI (F_X11_ones M x3) fun v1308 M1307 => cI (F_X11_ones M1307 x2) fun v1310 M1309 => (if v1308 ≤ v1310 then F_X11_most_99_68 (F_X11_most_99_34 n) M1309 x1 x2 x3 else cI (F_X11_neverOf_99 M1309 x3) fun v1312 M1311 => (if v1312 = (-1) then F_X11_most_99_68 (F_X11_most_99_34 n) M1311 x1 x3 x3 else F_X11_most_99_68 (F_X11_most_99_34 n) M1311 x1 x2 x3))) else none
def F_X11_most_99_20 (M : PM) (x1 : Int32) (t1 : Int32) : Option PR := cI (F_X11_bad_99 M t1 1 2) fun v1314 M1313 => (if v1314 = 0 then F_X11_most_99_34 FUEL M1313 x1 0 1 else some (.inl (some (.int 0)), M1313))
def F_X11_most_99 (M : PM) (a1 : Int32) : Option PR := cI (F_X11_in (sI M 99 0 0) a1 0 1) fun v1316 M1315 => (if v1316 = 0 then F_X11_most_99_20 M1315 a1 1 else F_X11_most_99_20 M1315 a1 0)
set_option maxRecDepth 100000 in
theorem S_X11_most_99_68 {l : Launch} (hl : l.stackTraces = false) {k34 : PM → Int32 → Int32 → Int32 → Option PR} (hk34 : ∀ {M : PM} {x1 : Int32} {x2 : Int32} {x3 : Int32} {r : PR}, k34 M x1 x2 x3 = some r → PW l 4 Y_X11_most k_X11_most_34 [vR 99, vI x1, vI x2, vI x3] [] M r) {M : PM} {x1 : Int32} {x2 : Int32} {x3 : Int32} {r : PR} (h : F_X11_most_99_68 k34 M x1 x2 x3 = some r) : PW l 4 Y_X11_most k_X11_most_68 [vR 99, vI x1, vI x2, vI x3] [] M r := by
  unfold F_X11_most_99_68 at h
  have h := lt_h h
  refine p_iinc (Nat.le_of_ble_eq_true rfl) rfl (ci_1 _) rfl ?_
  refine p_goto 22 rfl rfl ?_
  exact p_fg (hk34 h) ⟨Or.inr rfl, Or.inr rfl, Or.inr rfl, Or.inr rfl, trivial⟩
set_option maxRecDepth 100000 in
theorem S_X11_most_99_34 {l : Launch} (hl : l.stackTraces = false) : ∀ (n : Nat) {M : PM} {x1 : Int32} {x2 : Int32} {x3 : Int32} {r : PR}, F_X11_most_99_34  n M x1 x2 x3 = some r → PW l 4 Y_X11_most k_X11_most_34 [vR 99, vI x1, vI x2, vI x3] [] M r := by
  intro n
  induction n with
  | zero => intro M x1 x2 x3 r h; exact nomatch (show (none : Option PR) = some r from h)
  | succ n ih =>
    intro M x1 x2 x3 r h
    rw [F_X11_most_99_34] at h
    refine p_iload_n rfl ?_
    refine p_iconst cn_1 ?_
    refine p_aload_n rfl ?_
    refine p_getR fk_X11_23 gt_99 rfl rfl ?_
    refine p_iconst cn_0 ?_
    refine p_iald gt_103 h (fun h => ?_)
    refine p_ishl ?_
    refine p_icmp_ge h 44 rfl rfl (fun _ h => ?_) (fun _ h => ?_)
    · refine p_iload_n rfl ?_
      refine p_if_ne h 49 rfl rfl (fun _ h => ?_) (fun _ h => ?_)
      · refine p_iload_n rfl ?_
        refine p_cI (av := [_]) ⟨mok_X11_ones, Or.inr ⟨262, rfl, rfl, sta_X11_ones, Or.inl lk_X11_262⟩⟩ (Nat.le_of_ble_eq_true rfl) (Nat.le_of_ble_eq_true rfl) rfl (fun _ h => pc_X11_ones hl h) h (fun v1306 M1305 h => ?_)
        refine p_goto 50 rfl rfl ?_
        exact p_iret rfl h
      · refine p_iload_n rfl ?_
        exact p_iret rfl h
    · refine p_iload_n rfl ?_
      refine p_cI (av := [_]) ⟨mok_X11_ones, Or.inr ⟨262, rfl, rfl, sta_X11_ones, Or.inl lk_X11_262⟩⟩ (Nat.le_of_ble_eq_true rfl) (Nat.le_of_ble_eq_true rfl) rfl (fun _ h => pc_X11_ones hl h) h (fun v1308 M1307 h => ?_)
      refine p_iload_n rfl ?_
      refine p_cI (av := [_]) ⟨mok_X11_ones, Or.inr ⟨262, rfl, rfl, sta_X11_ones, Or.inl lk_X11_262⟩⟩ (Nat.le_of_ble_eq_true rfl) (Nat.le_of_ble_eq_true rfl) rfl (fun _ h => pc_X11_ones hl h) h (fun v1310 M1309 h => ?_)
      refine p_icmp_le h 42 rfl rfl (fun _ h => ?_) (fun _ h => ?_)
      · exact p_fg (S_X11_most_99_68 hl (fun h => ih h) h) ⟨Or.inr rfl, Or.inr rfl, Or.inr rfl, Or.inr rfl, trivial⟩
      · refine p_aload_n rfl ?_
        refine p_iload_n rfl ?_
        refine p_cI (av := [_, _]) ⟨mok_X11_neverOf, Or.inl ⟨284, 99, 11, 0, _, rfl, rfl, rfl, gt_99, rfl, ins_X11_neverOf, Or.inl lk_X11_284⟩⟩ (Nat.le_of_ble_eq_true rfl) (Nat.le_of_ble_eq_true rfl) rfl (fun _ h => pc_X11_neverOf_99 hl h) h (fun v1312 M1311 h => ?_)
        refine p_iconst cn_m1 ?_
        refine p_icmp_ne h 42 rfl rfl (fun _ h => ?_) (fun _ h => ?_)
        · refine p_iload_n rfl ?_
          refine p_istore_n (Nat.le_of_ble_eq_true rfl) rfl ?_
          exact p_fg (S_X11_most_99_68 hl (fun h => ih h) h) ⟨Or.inr rfl, Or.inr rfl, Or.inr rfl, Or.inr rfl, trivial⟩
        · exact p_fg (S_X11_most_99_68 hl (fun h => ih h) h) ⟨Or.inr rfl, Or.inr rfl, Or.inr rfl, Or.inr rfl, trivial⟩
set_option maxRecDepth 100000 in
theorem S_X11_most_99_20 {l : Launch} (hl : l.stackTraces = false) {M : PM} {x1 : Int32} {t1 : Int32} {r : PR} (h : F_X11_most_99_20  M x1 t1 = some r) : PW l 4 Y_X11_most k_X11_most_20 [vR 99, vI x1, jk, jk] [vI t1, vR 99] M r := by
  unfold F_X11_most_99_20 at h
  refine p_iconst cn_1 ?_
  refine p_iconst cn_2 ?_
  refine p_cI (av := [_, _, _, _]) ⟨mok_X11_bad, Or.inl ⟨180, 99, 11, 0, _, rfl, rfl, rfl, gt_99, rfl, ins_X11_bad, Or.inl lk_X11_180⟩⟩ (Nat.le_of_ble_eq_true rfl) (Nat.le_of_ble_eq_true rfl) rfl (fun _ h => pc_X11_bad_99 hl h) h (fun v1314 M1313 h => ?_)
  refine p_if_eq h 18 rfl rfl (fun _ h => ?_) (fun _ h => ?_)
  · refine p_iconst cn_0 ?_
    refine p_istore_n (Nat.le_of_ble_eq_true rfl) rfl ?_
    refine p_iconst cn_1 ?_
    refine p_istore_n (Nat.le_of_ble_eq_true rfl) rfl ?_
    exact p_fg (S_X11_most_99_34 hl FUEL h) ⟨Or.inr rfl, Or.inr rfl, Or.inr rfl, Or.inr rfl, trivial⟩
  · refine p_iconst cn_0 ?_
    exact p_iret rfl h
set_option maxRecDepth 100000 in
theorem S_X11_most_99 {l : Launch} (hl : l.stackTraces = false) {M : PM} {a1 : Int32} {r : PR} (h : F_X11_most_99 M a1 = some r) : PW l 4 Y_X11_most k_X11_most [vR 99, vI a1, jk, jk] [] M r := by
  unfold F_X11_most_99 at h
  refine p_aload_n rfl ?_
  refine p_iconst cn_0 ?_
  refine p_putI fk_X11_107 gt_99 rfl ?_
  refine p_aload_n rfl ?_
  refine p_iload_n rfl ?_
  refine p_iconst cn_0 ?_
  refine p_iconst cn_1 ?_
  refine p_cI (av := [_, _, _]) ⟨mok_X11_in, Or.inr ⟨141, rfl, rfl, sta_X11_in, Or.inl lk_X11_141⟩⟩ (Nat.le_of_ble_eq_true rfl) (Nat.le_of_ble_eq_true rfl) rfl (fun _ h => pc_X11_in hl h) h (fun v1316 M1315 h => ?_)
  refine p_if_ne h 11 rfl rfl (fun _ h => ?_) (fun _ h => ?_)
  · refine p_iconst cn_1 ?_
    refine p_goto 12 rfl rfl ?_
    exact p_fg (S_X11_most_99_20 hl h) ⟨Or.inr rfl, Or.inr rfl, Or.inl rfl, Or.inl rfl, trivial⟩
  · refine p_iconst cn_0 ?_
    exact p_fg (S_X11_most_99_20 hl h) ⟨Or.inr rfl, Or.inr rfl, Or.inl rfl, Or.inl rfl, trivial⟩
set_option maxRecDepth 100000 in
theorem pc_X11_most_99 {l : Launch} (hl : l.stackTraces = false) {M : PM} {a1 : Int32} {r : PR} (h : F_X11_most_99 M a1 = some r) : PC l 4 Y_X11_most [vR 99, vI a1] M r := pc_of hl (by decide +kernel) cok_X11_most (Nat.le_of_ble_eq_true rfl) rfl (S_X11_most_99 hl  h) rfl
def F_X11_count_99_63 (k35 : PM → Int32 → Int32 → Int32 → Option PR) (M : PM) (x1 : Int32) (x3 : Int32) (t0 : Int32) (t1 : Int32) : Option PR := lt (t0 + t1) fun y1317 => lt (x3 + 1) fun y1318 => k35 M x1 y1317 y1318
def F_X11_count_99_35 : Nat → PM → Int32 → Int32 → Int32 → Option PR
  | 0, _, _, _, _ => none
  | n + 1, M, x1, x2, x3 => if ixOK 4 6 = true then (if mA M 103 (4 : Int32).toNatClampNeg ≤ x3 then some (.inl (some (.int x2)), M) else cI (F_X11_bitsAt_99 M x3) fun v1320 M1319 => cI (F_X11_ones M1319 v1320) fun v1322 M1321 => (if v1322 = x1 then F_X11_count_99_63 (F_X11_count_99_35 n) M1321 x1 x3 x2 1 else F_X11_count_99_63 (F_X11_count_99_35 n) M1321 x1 x3 x2 0)) else none
def F_X11_count_99_21 (M : PM) (x1 : Int32) (t1 : Int32) : Option PR := cI (F_X11_bad_99 M t1 1 2) fun v1324 M1323 => (if v1324 = 0 then F_X11_count_99_35 FUEL M1323 x1 0 0 else some (.inl (some (.int 0)), M1323))
def F_X11_count_99 (M : PM) (a1 : Int32) : Option PR := cI (F_X11_in (sI M 99 0 0) a1 0 12) fun v1326 M1325 => (if v1326 = 0 then F_X11_count_99_21 M1325 a1 1 else F_X11_count_99_21 M1325 a1 0)
set_option maxRecDepth 100000 in
theorem S_X11_count_99_63 {l : Launch} (hl : l.stackTraces = false) {k35 : PM → Int32 → Int32 → Int32 → Option PR} (hk35 : ∀ {M : PM} {x1 : Int32} {x2 : Int32} {x3 : Int32} {r : PR}, k35 M x1 x2 x3 = some r → PW l 2 Y_X11_count k_X11_count_35 [vR 99, vI x1, vI x2, vI x3] [] M r) {M : PM} {x1 : Int32} {x3 : Int32} {t0 : Int32} {t1 : Int32} {r : PR} (h : F_X11_count_99_63 k35 M x1 x3 t0 t1 = some r) : PW l 2 Y_X11_count k_X11_count_63 [vR 99, vI x1, jk, vI x3] [vI t1, vI t0] M r := by
  unfold F_X11_count_99_63 at h
  refine p_iadd ?_
  have h := lt_h h
  refine p_istore_n (Nat.le_of_ble_eq_true rfl) rfl ?_
  have h := lt_h h
  refine p_iinc (Nat.le_of_ble_eq_true rfl) rfl (ci_1 _) rfl ?_
  refine p_goto 22 rfl rfl ?_
  exact p_fg (hk35 h) ⟨Or.inr rfl, Or.inr rfl, Or.inr rfl, Or.inr rfl, trivial⟩
set_option maxRecDepth 100000 in
theorem S_X11_count_99_35 {l : Launch} (hl : l.stackTraces = false) : ∀ (n : Nat) {M : PM} {x1 : Int32} {x2 : Int32} {x3 : Int32} {r : PR}, F_X11_count_99_35  n M x1 x2 x3 = some r → PW l 2 Y_X11_count k_X11_count_35 [vR 99, vI x1, vI x2, vI x3] [] M r := by
  intro n
  induction n with
  | zero => intro M x1 x2 x3 r h; exact nomatch (show (none : Option PR) = some r from h)
  | succ n ih =>
    intro M x1 x2 x3 r h
    rw [F_X11_count_99_35] at h
    refine p_iload_n rfl ?_
    refine p_aload_n rfl ?_
    refine p_getR fk_X11_23 gt_99 rfl rfl ?_
    refine p_iconst cn_4 ?_
    refine p_iald gt_103 h (fun h => ?_)
    refine p_icmp_ge h 42 rfl rfl (fun _ h => ?_) (fun _ h => ?_)
    · refine p_iload_n rfl ?_
      exact p_iret rfl h
    · refine p_iload_n rfl ?_
      refine p_aload_n rfl ?_
      refine p_iload_n rfl ?_
      refine p_cI (av := [_, _]) ⟨mok_X11_bitsAt, Or.inl ⟨253, 99, 11, 0, _, rfl, rfl, rfl, gt_99, rfl, ins_X11_bitsAt, Or.inl lk_X11_253⟩⟩ (Nat.le_of_ble_eq_true rfl) (Nat.le_of_ble_eq_true rfl) rfl (fun _ h => pc_X11_bitsAt_99 hl h) h (fun v1320 M1319 h => ?_)
      refine p_cI (av := [_]) ⟨mok_X11_ones, Or.inr ⟨262, rfl, rfl, sta_X11_ones, Or.inl lk_X11_262⟩⟩ (Nat.le_of_ble_eq_true rfl) (Nat.le_of_ble_eq_true rfl) rfl (fun _ h => pc_X11_ones hl h) h (fun v1322 M1321 h => ?_)
      refine p_iload_n rfl ?_
      refine p_icmp_ne h 37 rfl rfl (fun _ h => ?_) (fun _ h => ?_)
      · refine p_iconst cn_1 ?_
        refine p_goto 38 rfl rfl ?_
        exact p_fg (S_X11_count_99_63 hl (fun h => ih h) h) ⟨Or.inr rfl, Or.inr rfl, Or.inl rfl, Or.inr rfl, trivial⟩
      · refine p_iconst cn_0 ?_
        exact p_fg (S_X11_count_99_63 hl (fun h => ih h) h) ⟨Or.inr rfl, Or.inr rfl, Or.inl rfl, Or.inr rfl, trivial⟩
set_option maxRecDepth 100000 in
theorem S_X11_count_99_21 {l : Launch} (hl : l.stackTraces = false) {M : PM} {x1 : Int32} {t1 : Int32} {r : PR} (h : F_X11_count_99_21  M x1 t1 = some r) : PW l 2 Y_X11_count k_X11_count_21 [vR 99, vI x1, jk, jk] [vI t1, vR 99] M r := by
  unfold F_X11_count_99_21 at h
  refine p_iconst cn_1 ?_
  refine p_iconst cn_2 ?_
  refine p_cI (av := [_, _, _, _]) ⟨mok_X11_bad, Or.inl ⟨180, 99, 11, 0, _, rfl, rfl, rfl, gt_99, rfl, ins_X11_bad, Or.inl lk_X11_180⟩⟩ (Nat.le_of_ble_eq_true rfl) (Nat.le_of_ble_eq_true rfl) rfl (fun _ h => pc_X11_bad_99 hl h) h (fun v1324 M1323 h => ?_)
  refine p_if_eq h 18 rfl rfl (fun _ h => ?_) (fun _ h => ?_)
  · refine p_iconst cn_0 ?_
    refine p_istore_n (Nat.le_of_ble_eq_true rfl) rfl ?_
    refine p_iconst cn_0 ?_
    refine p_istore_n (Nat.le_of_ble_eq_true rfl) rfl ?_
    exact p_fg (S_X11_count_99_35 hl FUEL h) ⟨Or.inr rfl, Or.inr rfl, Or.inr rfl, Or.inr rfl, trivial⟩
  · refine p_iconst cn_0 ?_
    exact p_iret rfl h
set_option maxRecDepth 100000 in
theorem S_X11_count_99 {l : Launch} (hl : l.stackTraces = false) {M : PM} {a1 : Int32} {r : PR} (h : F_X11_count_99 M a1 = some r) : PW l 2 Y_X11_count k_X11_count [vR 99, vI a1, jk, jk] [] M r := by
  unfold F_X11_count_99 at h
  refine p_aload_n rfl ?_
  refine p_iconst cn_0 ?_
  refine p_putI fk_X11_107 gt_99 rfl ?_
  refine p_aload_n rfl ?_
  refine p_iload_n rfl ?_
  refine p_iconst cn_0 ?_
  refine p_bipush cb_12 ?_
  refine p_cI (av := [_, _, _]) ⟨mok_X11_in, Or.inr ⟨141, rfl, rfl, sta_X11_in, Or.inl lk_X11_141⟩⟩ (Nat.le_of_ble_eq_true rfl) (Nat.le_of_ble_eq_true rfl) rfl (fun _ h => pc_X11_in hl h) h (fun v1326 M1325 h => ?_)
  refine p_if_ne h 11 rfl rfl (fun _ h => ?_) (fun _ h => ?_)
  · refine p_iconst cn_1 ?_
    refine p_goto 12 rfl rfl ?_
    exact p_fg (S_X11_count_99_21 hl h) ⟨Or.inr rfl, Or.inr rfl, Or.inl rfl, Or.inl rfl, trivial⟩
  · refine p_iconst cn_0 ?_
    exact p_fg (S_X11_count_99_21 hl h) ⟨Or.inr rfl, Or.inr rfl, Or.inl rfl, Or.inl rfl, trivial⟩
set_option maxRecDepth 100000 in
theorem pc_X11_count_99 {l : Launch} (hl : l.stackTraces = false) {M : PM} {a1 : Int32} {r : PR} (h : F_X11_count_99 M a1 = some r) : PC l 2 Y_X11_count [vR 99, vI a1] M r := pc_of hl (by decide +kernel) cok_X11_count (Nat.le_of_ble_eq_true rfl) rfl (S_X11_count_99 hl  h) rfl
def F_X11_row_99_101 (k74 : PM → Int32 → Int32 → Int32 → Int32 → Option PR) (M : PM) (x2 : Int32) (x3 : Int32) (x5 : Int32) (t0 : Int32) : Option PR := (if t0 = x2 then some (.inl (some (.int ((x5 - x2) + 1))), M) else lt (x5 + 1) fun y1327 => k74 M x2 x3 t0 y1327)
def F_X11_row_99_74 : Nat → PM → Int32 → Int32 → Int32 → Int32 → Option PR
  | 0, _, _, _, _, _ => none
  | n + 1, M, x2, x3, x4, x5 => (if x3 < x5 then some (.inl (some (.int (-1))), M) else cI (F_X11_turnedOn_99 M x5) fun v1329 M1328 => cI (F_X11_bitsAt_99 M1328 v1329) fun v1331 M1330 => (if v1331 = 0 then F_X11_row_99_101 (F_X11_row_99_74 n) M1330 x2 x3 x5 (x4 + 1) else F_X11_row_99_101 (F_X11_row_99_74 n) M1330 x2 x3 x5 0))
def F_X11_row_99_42 (M : PM) (x1 : Int32) (x2 : Int32) (t1 : Int32) : Option PR := cI (F_X11_bad_99 M t1 2 2) fun v1333 M1332 => (if v1333 = 0 then if ixOK 4 6 = true then cI (F_X11_bound M1332 x1 ((2 * (mA M1332 103 (4 : Int32).toNatClampNeg)) + 100)) fun v1335 M1334 => F_X11_row_99_74 FUEL M1334 x2 v1335 0 x1 else none else some (.inl (some (.int 0)), M1332))
def F_X11_row_99_18 (M : PM) (x1 : Int32) (x2 : Int32) (t1 : Int32) : Option PR := cI (F_X11_bad_99 M t1 1 0) fun v1337 M1336 => (if v1337 = 0 then cI (F_X11_in M1336 x2 1 99) fun v1339 M1338 => (if v1339 = 0 then F_X11_row_99_42 M1338 x1 x2 1 else F_X11_row_99_42 M1338 x1 x2 0) else some (.inl (some (.int 0)), M1336))
def F_X11_row_99 (M : PM) (a1 : Int32) (a2 : Int32) : Option PR := cI (F_X11_isDay (sI M 99 0 0) a1) fun v1341 M1340 => (if v1341 = 0 then F_X11_row_99_18 M1340 a1 a2 1 else F_X11_row_99_18 M1340 a1 a2 0)
set_option maxRecDepth 100000 in
theorem S_X11_row_99_101 {l : Launch} (hl : l.stackTraces = false) {k74 : PM → Int32 → Int32 → Int32 → Int32 → Option PR} (hk74 : ∀ {M : PM} {x2 : Int32} {x3 : Int32} {x4 : Int32} {x5 : Int32} {r : PR}, k74 M x2 x3 x4 x5 = some r → PW l 2 Y_X11_row k_X11_row_74 [vR 99, jk, vI x2, vI x3, vI x4, vI x5] [] M r) {M : PM} {x2 : Int32} {x3 : Int32} {x5 : Int32} {t0 : Int32} {r : PR} (h : F_X11_row_99_101 k74 M x2 x3 x5 t0 = some r) : PW l 2 Y_X11_row k_X11_row_101 [vR 99, jk, vI x2, vI x3, jk, vI x5] [vI t0] M r := by
  unfold F_X11_row_99_101 at h
  refine p_istore (Nat.le_of_ble_eq_true rfl) rfl ?_
  refine p_iload rfl ?_
  refine p_iload_n rfl ?_
  refine p_icmp_ne h 68 rfl rfl (fun _ h => ?_) (fun _ h => ?_)
  · refine p_iload rfl ?_
    refine p_iload_n rfl ?_
    refine p_isub ?_
    refine p_iconst cn_1 ?_
    refine p_iadd ?_
    exact p_iret rfl h
  · have h := lt_h h
    refine p_iinc (Nat.le_of_ble_eq_true rfl) rfl (ci_1 _) rfl ?_
    refine p_goto 44 rfl rfl ?_
    exact p_fg (hk74 h) ⟨Or.inr rfl, Or.inl rfl, Or.inr rfl, Or.inr rfl, Or.inr rfl, Or.inr rfl, trivial⟩
set_option maxRecDepth 100000 in
theorem S_X11_row_99_74 {l : Launch} (hl : l.stackTraces = false) : ∀ (n : Nat) {M : PM} {x2 : Int32} {x3 : Int32} {x4 : Int32} {x5 : Int32} {r : PR}, F_X11_row_99_74  n M x2 x3 x4 x5 = some r → PW l 2 Y_X11_row k_X11_row_74 [vR 99, jk, vI x2, vI x3, vI x4, vI x5] [] M r := by
  intro n
  induction n with
  | zero => intro M x2 x3 x4 x5 r h; exact nomatch (show (none : Option PR) = some r from h)
  | succ n ih =>
    intro M x2 x3 x4 x5 r h
    rw [F_X11_row_99_74] at h
    refine p_iload rfl ?_
    refine p_iload_n rfl ?_
    refine p_icmp_gt h 70 rfl rfl (fun _ h => ?_) (fun _ h => ?_)
    · refine p_iconst cn_m1 ?_
      exact p_iret rfl h
    · refine p_aload_n rfl ?_
      refine p_aload_n rfl ?_
      refine p_iload rfl ?_
      refine p_cI (av := [_, _]) ⟨mok_X11_turnedOn, Or.inl ⟨250, 99, 11, 0, _, rfl, rfl, rfl, gt_99, rfl, ins_X11_turnedOn, Or.inl lk_X11_250⟩⟩ (Nat.le_of_ble_eq_true rfl) (Nat.le_of_ble_eq_true rfl) rfl (fun _ h => pc_X11_turnedOn_99 hl h) h (fun v1329 M1328 h => ?_)
      refine p_cI (av := [_, _]) ⟨mok_X11_bitsAt, Or.inl ⟨253, 99, 11, 0, _, rfl, rfl, rfl, gt_99, rfl, ins_X11_bitsAt, Or.inl lk_X11_253⟩⟩ (Nat.le_of_ble_eq_true rfl) (Nat.le_of_ble_eq_true rfl) rfl (fun _ h => pc_X11_bitsAt_99 hl h) h (fun v1331 M1330 h => ?_)
      refine p_if_ne h 57 rfl rfl (fun _ h => ?_) (fun _ h => ?_)
      · refine p_iload rfl ?_
        refine p_iconst cn_1 ?_
        refine p_iadd ?_
        refine p_goto 58 rfl rfl ?_
        exact p_fg (S_X11_row_99_101 hl (fun h => ih h) h) ⟨Or.inr rfl, Or.inl rfl, Or.inr rfl, Or.inr rfl, Or.inl rfl, Or.inr rfl, trivial⟩
      · refine p_iconst cn_0 ?_
        exact p_fg (S_X11_row_99_101 hl (fun h => ih h) h) ⟨Or.inr rfl, Or.inl rfl, Or.inr rfl, Or.inr rfl, Or.inl rfl, Or.inr rfl, trivial⟩
set_option maxRecDepth 100000 in
theorem S_X11_row_99_42 {l : Launch} (hl : l.stackTraces = false) {M : PM} {x1 : Int32} {x2 : Int32} {t1 : Int32} {r : PR} (h : F_X11_row_99_42  M x1 x2 t1 = some r) : PW l 2 Y_X11_row k_X11_row_42 [vR 99, vI x1, vI x2, jk, jk, jk] [vI t1, vR 99] M r := by
  unfold F_X11_row_99_42 at h
  refine p_iconst cn_2 ?_
  refine p_iconst cn_2 ?_
  refine p_cI (av := [_, _, _, _]) ⟨mok_X11_bad, Or.inl ⟨180, 99, 11, 0, _, rfl, rfl, rfl, gt_99, rfl, ins_X11_bad, Or.inl lk_X11_180⟩⟩ (Nat.le_of_ble_eq_true rfl) (Nat.le_of_ble_eq_true rfl) rfl (fun _ h => pc_X11_bad_99 hl h) h (fun v1333 M1332 h => ?_)
  refine p_if_eq h 29 rfl rfl (fun _ h => ?_) (fun _ h => ?_)
  · refine p_iload_n rfl ?_
    refine p_iconst cn_2 ?_
    refine p_aload_n rfl ?_
    refine p_getR fk_X11_23 gt_99 rfl rfl ?_
    refine p_iconst cn_4 ?_
    refine p_iald gt_103 h (fun h => ?_)
    refine p_imul ?_
    refine p_bipush cb_100 ?_
    refine p_iadd ?_
    refine p_cI (av := [_, _]) ⟨mok_X11_bound, Or.inr ⟨271, rfl, rfl, sta_X11_bound, Or.inl lk_X11_271⟩⟩ (Nat.le_of_ble_eq_true rfl) (Nat.le_of_ble_eq_true rfl) rfl (fun _ h => pc_X11_bound hl h) h (fun v1335 M1334 h => ?_)
    refine p_istore_n (Nat.le_of_ble_eq_true rfl) rfl ?_
    refine p_iconst cn_0 ?_
    refine p_istore (Nat.le_of_ble_eq_true rfl) rfl ?_
    refine p_iload_n rfl ?_
    refine p_istore (Nat.le_of_ble_eq_true rfl) rfl ?_
    exact p_fg (S_X11_row_99_74 hl FUEL h) ⟨Or.inr rfl, Or.inl rfl, Or.inr rfl, Or.inr rfl, Or.inr rfl, Or.inr rfl, trivial⟩
  · refine p_iconst cn_0 ?_
    exact p_iret rfl h
set_option maxRecDepth 100000 in
theorem S_X11_row_99_18 {l : Launch} (hl : l.stackTraces = false) {M : PM} {x1 : Int32} {x2 : Int32} {t1 : Int32} {r : PR} (h : F_X11_row_99_18  M x1 x2 t1 = some r) : PW l 2 Y_X11_row k_X11_row_18 [vR 99, vI x1, vI x2, jk, jk, jk] [vI t1, vR 99] M r := by
  unfold F_X11_row_99_18 at h
  refine p_iconst cn_1 ?_
  refine p_iconst cn_0 ?_
  refine p_cI (av := [_, _, _, _]) ⟨mok_X11_bad, Or.inl ⟨180, 99, 11, 0, _, rfl, rfl, rfl, gt_99, rfl, ins_X11_bad, Or.inl lk_X11_180⟩⟩ (Nat.le_of_ble_eq_true rfl) (Nat.le_of_ble_eq_true rfl) rfl (fun _ h => pc_X11_bad_99 hl h) h (fun v1337 M1336 h => ?_)
  refine p_if_ne h 27 rfl rfl (fun _ h => ?_) (fun _ h => ?_)
  · refine p_aload_n rfl ?_
    refine p_iload_n rfl ?_
    refine p_iconst cn_1 ?_
    refine p_bipush cb_99 ?_
    refine p_cI (av := [_, _, _]) ⟨mok_X11_in, Or.inr ⟨141, rfl, rfl, sta_X11_in, Or.inl lk_X11_141⟩⟩ (Nat.le_of_ble_eq_true rfl) (Nat.le_of_ble_eq_true rfl) rfl (fun _ h => pc_X11_in hl h) h (fun v1339 M1338 h => ?_)
    refine p_if_ne h 22 rfl rfl (fun _ h => ?_) (fun _ h => ?_)
    · refine p_iconst cn_1 ?_
      refine p_goto 23 rfl rfl ?_
      exact p_fg (S_X11_row_99_42 hl h) ⟨Or.inr rfl, Or.inr rfl, Or.inr rfl, Or.inl rfl, Or.inl rfl, Or.inl rfl, trivial⟩
    · refine p_iconst cn_0 ?_
      exact p_fg (S_X11_row_99_42 hl h) ⟨Or.inr rfl, Or.inr rfl, Or.inr rfl, Or.inl rfl, Or.inl rfl, Or.inl rfl, trivial⟩
  · refine p_iconst cn_0 ?_
    exact p_iret rfl h
set_option maxRecDepth 100000 in
theorem S_X11_row_99 {l : Launch} (hl : l.stackTraces = false) {M : PM} {a1 : Int32} {a2 : Int32} {r : PR} (h : F_X11_row_99 M a1 a2 = some r) : PW l 2 Y_X11_row k_X11_row [vR 99, vI a1, vI a2, jk, jk, jk] [] M r := by
  unfold F_X11_row_99 at h
  refine p_aload_n rfl ?_
  refine p_iconst cn_0 ?_
  refine p_putI fk_X11_107 gt_99 rfl ?_
  refine p_aload_n rfl ?_
  refine p_iload_n rfl ?_
  refine p_cI (av := [_]) ⟨mok_X11_isDay, Or.inr ⟨247, rfl, rfl, sta_X11_isDay, Or.inl lk_X11_247⟩⟩ (Nat.le_of_ble_eq_true rfl) (Nat.le_of_ble_eq_true rfl) rfl (fun _ h => pc_X11_isDay hl h) h (fun v1341 M1340 h => ?_)
  refine p_if_ne h 9 rfl rfl (fun _ h => ?_) (fun _ h => ?_)
  · refine p_iconst cn_1 ?_
    refine p_goto 10 rfl rfl ?_
    exact p_fg (S_X11_row_99_18 hl h) ⟨Or.inr rfl, Or.inr rfl, Or.inr rfl, Or.inl rfl, Or.inl rfl, Or.inl rfl, trivial⟩
  · refine p_iconst cn_0 ?_
    exact p_fg (S_X11_row_99_18 hl h) ⟨Or.inr rfl, Or.inr rfl, Or.inr rfl, Or.inl rfl, Or.inl rfl, Or.inl rfl, trivial⟩
set_option maxRecDepth 100000 in
theorem pc_X11_row_99 {l : Launch} (hl : l.stackTraces = false) {M : PM} {a1 : Int32} {a2 : Int32} {r : PR} (h : F_X11_row_99 M a1 a2 = some r) : PC l 2 Y_X11_row [vR 99, vI a1, vI a2] M r := pc_of hl (by decide +kernel) cok_X11_row (Nat.le_of_ble_eq_true rfl) rfl (S_X11_row_99 hl  h) rfl
def F_X11_free_99_194 (k69 : PM → Int32 → Int32 → Int32 → Int32 → Int32 → Int32 → Option PR) (k87 : PM → Int32 → Int32 → Int32 → Int32 → Int32 → Int32 → Int32 → Option PR) (M : PM) (x1 : Int32) (x2 : Int32) (x3 : Int32) (x4 : Int32) (x5 : Int32) (x6 : Int32) (x7 : Int32) : Option PR := lt (x7 + 1) fun y1342 => k87 M x1 x2 x3 x4 x5 x6 y1342
def F_X11_free_99_189 (k69 : PM → Int32 → Int32 → Int32 → Int32 → Int32 → Int32 → Option PR) (k87 : PM → Int32 → Int32 → Int32 → Int32 → Int32 → Int32 → Int32 → Option PR) (M : PM) (x1 : Int32) (x2 : Int32) (x3 : Int32) (x4 : Int32) (x6 : Int32) (x7 : Int32) (t0 : Int32) : Option PR := lt (x4 + 1) fun y1343 => F_X11_free_99_194 k69 k87 M x1 x2 x3 y1343 t0 x6 x7
def F_X11_free_99_162 (k69 : PM → Int32 → Int32 → Int32 → Int32 → Int32 → Int32 → Option PR) (k87 : PM → Int32 → Int32 → Int32 → Int32 → Int32 → Int32 → Int32 → Option PR) (M : PM) (x1 : Int32) (x2 : Int32) (x3 : Int32) (x4 : Int32) (x5 : Int32) (x6 : Int32) (x7 : Int32) (x8 : Int32) : Option PR := (if x8 = 0 then F_X11_free_99_194 k69 k87 M x1 x2 x3 x4 x5 x6 x7 else (if x5 = (-1) then F_X11_free_99_189 k69 k87 M x1 x2 x3 x4 x6 x7 ((100 * x6) + x7) else F_X11_free_99_189 k69 k87 M x1 x2 x3 x4 x6 x7 x5))
def F_X11_free_99_154 (k69 : PM → Int32 → Int32 → Int32 → Int32 → Int32 → Int32 → Option PR) (k87 : PM → Int32 → Int32 → Int32 → Int32 → Int32 → Int32 → Int32 → Option PR) (k100 : PM → Int32 → Int32 → Int32 → Int32 → Int32 → Int32 → Int32 → Int32 → Int32 → Option PR) (M : PM) (x1 : Int32) (x2 : Int32) (x3 : Int32) (x4 : Int32) (x5 : Int32) (x6 : Int32) (x7 : Int32) (x9 : Int32) (t0 : Int32) : Option PR := lt (x9 + 1) fun y1344 => k100 M x1 x2 x3 x4 x5 x6 x7 t0 y1344
def F_X11_free_99_149 (k69 : PM → Int32 → Int32 → Int32 → Int32 → Int32 → Int32 → Option PR) (k87 : PM → Int32 → Int32 → Int32 → Int32 → Int32 → Int32 → Int32 → Option PR) (k100 : PM → Int32 → Int32 → Int32 → Int32 → Int32 → Int32 → Int32 → Int32 → Int32 → Option PR) (M : PM) (x1 : Int32) (x2 : Int32) (x3 : Int32) (x4 : Int32) (x5 : Int32) (x6 : Int32) (x7 : Int32) (x9 : Int32) : Option PR := F_X11_free_99_154 k69 k87 k100 M x1 x2 x3 x4 x5 x6 x7 x9 1
def F_X11_free_99_100 (k69 : PM → Int32 → Int32 → Int32 → Int32 → Int32 → Int32 → Option PR) (k87 : PM → Int32 → Int32 → Int32 → Int32 → Int32 → Int32 → Int32 → Option PR) : Nat → PM → Int32 → Int32 → Int32 → Int32 → Int32 → Int32 → Int32 → Int32 → Int32 → Option PR
  | 0, _, _, _, _, _, _, _, _, _, _ => none
  | n + 1, M, x1, x2, x3, x4, x5, x6, x7, x8, x9 => if ixOK 0 6 = true then (if mA M 103 (0 : Int32).toNatClampNeg ≤ x9 then F_X11_free_99_162 k69 k87 M x1 x2 x3 x4 x5 x6 x7 x8 else (if x8 = 0 then F_X11_free_99_162 k69 k87 M x1 x2 x3 x4 x5 x6 x7 x8 else (if (x1 >>> (x9 &&& 31)) &&& 1 = 0 then F_X11_free_99_149 k69 k87 (F_X11_free_99_100 k69 k87 n) M x1 x2 x3 x4 x5 x6 x7 x9 else if ixOK x9 12 = true then if ixOK x9 12 = true then cI (F_X11_canBe M x6 x7 (mA M 107 x9.toNatClampNeg) (mA M 109 x9.toNatClampNeg)) fun v1346 M1345 => (if v1346 = 0 then F_X11_free_99_149 k69 k87 (F_X11_free_99_100 k69 k87 n) M1345 x1 x2 x3 x4 x5 x6 x7 x9 else F_X11_free_99_154 k69 k87 (F_X11_free_99_100 k69 k87 n) M1345 x1 x2 x3 x4 x5 x6 x7 x9 0) else none else none))) else none
def F_X11_free_99_87 (k69 : PM → Int32 → Int32 → Int32 → Int32 → Int32 → Int32 → Option PR) : Nat → PM → Int32 → Int32 → Int32 → Int32 → Int32 → Int32 → Int32 → Option PR
  | 0, _, _, _, _, _, _, _, _ => none
  | n + 1, M, x1, x2, x3, x4, x5, x6, x7 => (if x6 ≤ x7 then lt (x6 + 1) fun y1347 => k69 M x1 x2 x3 x4 x5 y1347 else F_X11_free_99_100 k69 (F_X11_free_99_87 k69 n) FUEL M x1 x2 x3 x4 x5 x6 x7 1 0)
def F_X11_free_99_81 (k69 : PM → Int32 → Int32 → Int32 → Int32 → Int32 → Int32 → Option PR) (M : PM) (x1 : Int32) (x2 : Int32) (x3 : Int32) (x4 : Int32) (x5 : Int32) (x6 : Int32) (t0 : Int32) (t1 : Int32) : Option PR := (if t1 < t0 then (if x3 = 0 then some (.inl (some (.int x4)), M) else some (.inl (some (.int x5)), M)) else F_X11_free_99_87 k69 FUEL M x1 x2 x3 x4 x5 x6 0)
def F_X11_free_99_69 : Nat → PM → Int32 → Int32 → Int32 → Int32 → Int32 → Int32 → Option PR
  | 0, _, _, _, _, _, _, _ => none
  | n + 1, M, x1, x2, x3, x4, x5, x6 => (if x2 = 0 then F_X11_free_99_81 (F_X11_free_99_69 n) M x1 x2 x3 x4 x5 x6 x6 24 else F_X11_free_99_81 (F_X11_free_99_69 n) M x1 x2 x3 x4 x5 x6 x6 x2)
def F_X11_free_99_67 (M : PM) (x1 : Int32) (x2 : Int32) (x3 : Int32) (x4 : Int32) (x5 : Int32) (t0 : Int32) : Option PR := F_X11_free_99_69 FUEL M x1 x2 x3 x4 x5 t0
def F_X11_free_99_42 (M : PM) (x1 : Int32) (x2 : Int32) (x3 : Int32) (t1 : Int32) : Option PR := cI (F_X11_bad_99 M t1 1 2) fun v1349 M1348 => (if v1349 = 0 then (if x2 = 0 then F_X11_free_99_67 M1348 x1 x2 x3 0 (-1) 2 else F_X11_free_99_67 M1348 x1 x2 x3 0 (-1) x2) else some (.inl (some (.int 0)), M1348))
def F_X11_free_99_37 (M : PM) (x1 : Int32) (x2 : Int32) (x3 : Int32) : Option PR := F_X11_free_99_42 M x1 x2 x3 1
def F_X11_free_99_28 (M : PM) (x1 : Int32) (x2 : Int32) (x3 : Int32) : Option PR := cI (F_X11_in M x3 0 1) fun v1351 M1350 => (if v1351 = 0 then F_X11_free_99_37 M1350 x1 x2 x3 else F_X11_free_99_42 M1350 x1 x2 x3 0)
def F_X11_free_99 (M : PM) (a1 : Int32) (a2 : Int32) (a3 : Int32) : Option PR := cI (F_X11_areLaws_99 (sI M 99 0 0) a1) fun v1353 M1352 => (if v1353 = 0 then F_X11_free_99_37 M1352 a1 a2 a3 else (if a2 = 0 then F_X11_free_99_28 M1352 a1 a2 a3 else cI (F_X11_in M1352 a2 2 24) fun v1355 M1354 => (if v1355 = 0 then F_X11_free_99_37 M1354 a1 a2 a3 else F_X11_free_99_28 M1354 a1 a2 a3)))
set_option maxRecDepth 100000 in
theorem S_X11_free_99_194 {l : Launch} (hl : l.stackTraces = false) {k69 : PM → Int32 → Int32 → Int32 → Int32 → Int32 → Int32 → Option PR} {k87 : PM → Int32 → Int32 → Int32 → Int32 → Int32 → Int32 → Int32 → Option PR} (hk69 : ∀ {M : PM} {x1 : Int32} {x2 : Int32} {x3 : Int32} {x4 : Int32} {x5 : Int32} {x6 : Int32} {r : PR}, k69 M x1 x2 x3 x4 x5 x6 = some r → PW l 2 Y_X11_free k_X11_free_69 [vR 99, vI x1, vI x2, vI x3, vI x4, vI x5, vI x6, jk, jk, jk] [] M r) (hk87 : ∀ {M : PM} {x1 : Int32} {x2 : Int32} {x3 : Int32} {x4 : Int32} {x5 : Int32} {x6 : Int32} {x7 : Int32} {r : PR}, k87 M x1 x2 x3 x4 x5 x6 x7 = some r → PW l 2 Y_X11_free k_X11_free_87 [vR 99, vI x1, vI x2, vI x3, vI x4, vI x5, vI x6, vI x7, jk, jk] [] M r) {M : PM} {x1 : Int32} {x2 : Int32} {x3 : Int32} {x4 : Int32} {x5 : Int32} {x6 : Int32} {x7 : Int32} {r : PR} (h : F_X11_free_99_194 k69 k87 M x1 x2 x3 x4 x5 x6 x7 = some r) : PW l 2 Y_X11_free k_X11_free_194 [vR 99, vI x1, vI x2, vI x3, vI x4, vI x5, vI x6, vI x7, jk, jk] [] M r := by
  unfold F_X11_free_99_194 at h
  have h := lt_h h
  refine p_iinc (Nat.le_of_ble_eq_true rfl) rfl (ci_1 _) rfl ?_
  refine p_goto 48 rfl rfl ?_
  exact p_fg (hk87 h) ⟨Or.inr rfl, Or.inr rfl, Or.inr rfl, Or.inr rfl, Or.inr rfl, Or.inr rfl, Or.inr rfl, Or.inr rfl, Or.inl rfl, Or.inl rfl, trivial⟩
set_option maxRecDepth 100000 in
theorem S_X11_free_99_189 {l : Launch} (hl : l.stackTraces = false) {k69 : PM → Int32 → Int32 → Int32 → Int32 → Int32 → Int32 → Option PR} {k87 : PM → Int32 → Int32 → Int32 → Int32 → Int32 → Int32 → Int32 → Option PR} (hk69 : ∀ {M : PM} {x1 : Int32} {x2 : Int32} {x3 : Int32} {x4 : Int32} {x5 : Int32} {x6 : Int32} {r : PR}, k69 M x1 x2 x3 x4 x5 x6 = some r → PW l 2 Y_X11_free k_X11_free_69 [vR 99, vI x1, vI x2, vI x3, vI x4, vI x5, vI x6, jk, jk, jk] [] M r) (hk87 : ∀ {M : PM} {x1 : Int32} {x2 : Int32} {x3 : Int32} {x4 : Int32} {x5 : Int32} {x6 : Int32} {x7 : Int32} {r : PR}, k87 M x1 x2 x3 x4 x5 x6 x7 = some r → PW l 2 Y_X11_free k_X11_free_87 [vR 99, vI x1, vI x2, vI x3, vI x4, vI x5, vI x6, vI x7, jk, jk] [] M r) {M : PM} {x1 : Int32} {x2 : Int32} {x3 : Int32} {x4 : Int32} {x6 : Int32} {x7 : Int32} {t0 : Int32} {r : PR} (h : F_X11_free_99_189 k69 k87 M x1 x2 x3 x4 x6 x7 t0 = some r) : PW l 2 Y_X11_free k_X11_free_189 [vR 99, vI x1, vI x2, vI x3, vI x4, jk, vI x6, vI x7, jk, jk] [vI t0] M r := by
  unfold F_X11_free_99_189 at h
  refine p_istore (Nat.le_of_ble_eq_true rfl) rfl ?_
  have h := lt_h h
  refine p_iinc (Nat.le_of_ble_eq_true rfl) rfl (ci_1 _) rfl ?_
  exact p_fg (S_X11_free_99_194 hl hk69 hk87 h) ⟨Or.inr rfl, Or.inr rfl, Or.inr rfl, Or.inr rfl, Or.inr rfl, Or.inr rfl, Or.inr rfl, Or.inr rfl, Or.inl rfl, Or.inl rfl, trivial⟩
set_option maxRecDepth 100000 in
theorem S_X11_free_99_162 {l : Launch} (hl : l.stackTraces = false) {k69 : PM → Int32 → Int32 → Int32 → Int32 → Int32 → Int32 → Option PR} {k87 : PM → Int32 → Int32 → Int32 → Int32 → Int32 → Int32 → Int32 → Option PR} (hk69 : ∀ {M : PM} {x1 : Int32} {x2 : Int32} {x3 : Int32} {x4 : Int32} {x5 : Int32} {x6 : Int32} {r : PR}, k69 M x1 x2 x3 x4 x5 x6 = some r → PW l 2 Y_X11_free k_X11_free_69 [vR 99, vI x1, vI x2, vI x3, vI x4, vI x5, vI x6, jk, jk, jk] [] M r) (hk87 : ∀ {M : PM} {x1 : Int32} {x2 : Int32} {x3 : Int32} {x4 : Int32} {x5 : Int32} {x6 : Int32} {x7 : Int32} {r : PR}, k87 M x1 x2 x3 x4 x5 x6 x7 = some r → PW l 2 Y_X11_free k_X11_free_87 [vR 99, vI x1, vI x2, vI x3, vI x4, vI x5, vI x6, vI x7, jk, jk] [] M r) {M : PM} {x1 : Int32} {x2 : Int32} {x3 : Int32} {x4 : Int32} {x5 : Int32} {x6 : Int32} {x7 : Int32} {x8 : Int32} {r : PR} (h : F_X11_free_99_162 k69 k87 M x1 x2 x3 x4 x5 x6 x7 x8 = some r) : PW l 2 Y_X11_free k_X11_free_162 [vR 99, vI x1, vI x2, vI x3, vI x4, vI x5, vI x6, vI x7, vI x8, jk] [] M r := by
  unfold F_X11_free_99_162 at h
  refine p_iload rfl ?_
  refine p_if_ne h 90 rfl rfl (fun _ h => ?_) (fun _ h => ?_)
  · refine p_goto 102 rfl rfl ?_
    exact p_fg (S_X11_free_99_194 hl hk69 hk87 h) ⟨Or.inr rfl, Or.inr rfl, Or.inr rfl, Or.inr rfl, Or.inr rfl, Or.inr rfl, Or.inr rfl, Or.inr rfl, Or.inl rfl, Or.inl rfl, trivial⟩
  · refine p_iload rfl ?_
    refine p_iconst cn_m1 ?_
    refine p_icmp_ne h 99 rfl rfl (fun _ h => ?_) (fun _ h => ?_)
    · refine p_bipush cb_100 ?_
      refine p_iload rfl ?_
      refine p_imul ?_
      refine p_iload rfl ?_
      refine p_iadd ?_
      refine p_goto 100 rfl rfl ?_
      exact p_fg (S_X11_free_99_189 hl hk69 hk87 h) ⟨Or.inr rfl, Or.inr rfl, Or.inr rfl, Or.inr rfl, Or.inr rfl, Or.inl rfl, Or.inr rfl, Or.inr rfl, Or.inl rfl, Or.inl rfl, trivial⟩
    · refine p_iload rfl ?_
      exact p_fg (S_X11_free_99_189 hl hk69 hk87 h) ⟨Or.inr rfl, Or.inr rfl, Or.inr rfl, Or.inr rfl, Or.inr rfl, Or.inl rfl, Or.inr rfl, Or.inr rfl, Or.inl rfl, Or.inl rfl, trivial⟩
set_option maxRecDepth 100000 in
theorem S_X11_free_99_154 {l : Launch} (hl : l.stackTraces = false) {k69 : PM → Int32 → Int32 → Int32 → Int32 → Int32 → Int32 → Option PR} {k87 : PM → Int32 → Int32 → Int32 → Int32 → Int32 → Int32 → Int32 → Option PR} {k100 : PM → Int32 → Int32 → Int32 → Int32 → Int32 → Int32 → Int32 → Int32 → Int32 → Option PR} (hk69 : ∀ {M : PM} {x1 : Int32} {x2 : Int32} {x3 : Int32} {x4 : Int32} {x5 : Int32} {x6 : Int32} {r : PR}, k69 M x1 x2 x3 x4 x5 x6 = some r → PW l 2 Y_X11_free k_X11_free_69 [vR 99, vI x1, vI x2, vI x3, vI x4, vI x5, vI x6, jk, jk, jk] [] M r) (hk87 : ∀ {M : PM} {x1 : Int32} {x2 : Int32} {x3 : Int32} {x4 : Int32} {x5 : Int32} {x6 : Int32} {x7 : Int32} {r : PR}, k87 M x1 x2 x3 x4 x5 x6 x7 = some r → PW l 2 Y_X11_free k_X11_free_87 [vR 99, vI x1, vI x2, vI x3, vI x4, vI x5, vI x6, vI x7, jk, jk] [] M r) (hk100 : ∀ {M : PM} {x1 : Int32} {x2 : Int32} {x3 : Int32} {x4 : Int32} {x5 : Int32} {x6 : Int32} {x7 : Int32} {x8 : Int32} {x9 : Int32} {r : PR}, k100 M x1 x2 x3 x4 x5 x6 x7 x8 x9 = some r → PW l 2 Y_X11_free k_X11_free_100 [vR 99, vI x1, vI x2, vI x3, vI x4, vI x5, vI x6, vI x7, vI x8, vI x9] [] M r) {M : PM} {x1 : Int32} {x2 : Int32} {x3 : Int32} {x4 : Int32} {x5 : Int32} {x6 : Int32} {x7 : Int32} {x9 : Int32} {t0 : Int32} {r : PR} (h : F_X11_free_99_154 k69 k87 k100 M x1 x2 x3 x4 x5 x6 x7 x9 t0 = some r) : PW l 2 Y_X11_free k_X11_free_154 [vR 99, vI x1, vI x2, vI x3, vI x4, vI x5, vI x6, vI x7, jk, vI x9] [vI t0] M r := by
  unfold F_X11_free_99_154 at h
  refine p_istore (Nat.le_of_ble_eq_true rfl) rfl ?_
  have h := lt_h h
  refine p_iinc (Nat.le_of_ble_eq_true rfl) rfl (ci_1 _) rfl ?_
  refine p_goto 55 rfl rfl ?_
  exact p_fg (hk100 h) ⟨Or.inr rfl, Or.inr rfl, Or.inr rfl, Or.inr rfl, Or.inr rfl, Or.inr rfl, Or.inr rfl, Or.inr rfl, Or.inr rfl, Or.inr rfl, trivial⟩
set_option maxRecDepth 100000 in
theorem S_X11_free_99_149 {l : Launch} (hl : l.stackTraces = false) {k69 : PM → Int32 → Int32 → Int32 → Int32 → Int32 → Int32 → Option PR} {k87 : PM → Int32 → Int32 → Int32 → Int32 → Int32 → Int32 → Int32 → Option PR} {k100 : PM → Int32 → Int32 → Int32 → Int32 → Int32 → Int32 → Int32 → Int32 → Int32 → Option PR} (hk69 : ∀ {M : PM} {x1 : Int32} {x2 : Int32} {x3 : Int32} {x4 : Int32} {x5 : Int32} {x6 : Int32} {r : PR}, k69 M x1 x2 x3 x4 x5 x6 = some r → PW l 2 Y_X11_free k_X11_free_69 [vR 99, vI x1, vI x2, vI x3, vI x4, vI x5, vI x6, jk, jk, jk] [] M r) (hk87 : ∀ {M : PM} {x1 : Int32} {x2 : Int32} {x3 : Int32} {x4 : Int32} {x5 : Int32} {x6 : Int32} {x7 : Int32} {r : PR}, k87 M x1 x2 x3 x4 x5 x6 x7 = some r → PW l 2 Y_X11_free k_X11_free_87 [vR 99, vI x1, vI x2, vI x3, vI x4, vI x5, vI x6, vI x7, jk, jk] [] M r) (hk100 : ∀ {M : PM} {x1 : Int32} {x2 : Int32} {x3 : Int32} {x4 : Int32} {x5 : Int32} {x6 : Int32} {x7 : Int32} {x8 : Int32} {x9 : Int32} {r : PR}, k100 M x1 x2 x3 x4 x5 x6 x7 x8 x9 = some r → PW l 2 Y_X11_free k_X11_free_100 [vR 99, vI x1, vI x2, vI x3, vI x4, vI x5, vI x6, vI x7, vI x8, vI x9] [] M r) {M : PM} {x1 : Int32} {x2 : Int32} {x3 : Int32} {x4 : Int32} {x5 : Int32} {x6 : Int32} {x7 : Int32} {x9 : Int32} {r : PR} (h : F_X11_free_99_149 k69 k87 k100 M x1 x2 x3 x4 x5 x6 x7 x9 = some r) : PW l 2 Y_X11_free k_X11_free_149 [vR 99, vI x1, vI x2, vI x3, vI x4, vI x5, vI x6, vI x7, jk, vI x9] [] M r := by
  unfold F_X11_free_99_149 at h
  refine p_iconst cn_1 ?_
  refine p_goto 84 rfl rfl ?_
  exact p_fg (S_X11_free_99_154 hl hk69 hk87 hk100 h) ⟨Or.inr rfl, Or.inr rfl, Or.inr rfl, Or.inr rfl, Or.inr rfl, Or.inr rfl, Or.inr rfl, Or.inr rfl, Or.inl rfl, Or.inr rfl, trivial⟩
set_option maxRecDepth 100000 in
theorem S_X11_free_99_100 {l : Launch} (hl : l.stackTraces = false) {k69 : PM → Int32 → Int32 → Int32 → Int32 → Int32 → Int32 → Option PR} {k87 : PM → Int32 → Int32 → Int32 → Int32 → Int32 → Int32 → Int32 → Option PR} (hk69 : ∀ {M : PM} {x1 : Int32} {x2 : Int32} {x3 : Int32} {x4 : Int32} {x5 : Int32} {x6 : Int32} {r : PR}, k69 M x1 x2 x3 x4 x5 x6 = some r → PW l 2 Y_X11_free k_X11_free_69 [vR 99, vI x1, vI x2, vI x3, vI x4, vI x5, vI x6, jk, jk, jk] [] M r) (hk87 : ∀ {M : PM} {x1 : Int32} {x2 : Int32} {x3 : Int32} {x4 : Int32} {x5 : Int32} {x6 : Int32} {x7 : Int32} {r : PR}, k87 M x1 x2 x3 x4 x5 x6 x7 = some r → PW l 2 Y_X11_free k_X11_free_87 [vR 99, vI x1, vI x2, vI x3, vI x4, vI x5, vI x6, vI x7, jk, jk] [] M r) : ∀ (n : Nat) {M : PM} {x1 : Int32} {x2 : Int32} {x3 : Int32} {x4 : Int32} {x5 : Int32} {x6 : Int32} {x7 : Int32} {x8 : Int32} {x9 : Int32} {r : PR}, F_X11_free_99_100 k69 k87 n M x1 x2 x3 x4 x5 x6 x7 x8 x9 = some r → PW l 2 Y_X11_free k_X11_free_100 [vR 99, vI x1, vI x2, vI x3, vI x4, vI x5, vI x6, vI x7, vI x8, vI x9] [] M r := by
  intro n
  induction n with
  | zero => intro M x1 x2 x3 x4 x5 x6 x7 x8 x9 r h; exact nomatch (show (none : Option PR) = some r from h)
  | succ n ih =>
    intro M x1 x2 x3 x4 x5 x6 x7 x8 x9 r h
    rw [F_X11_free_99_100] at h
    refine p_iload rfl ?_
    refine p_aload_n rfl ?_
    refine p_getR fk_X11_23 gt_99 rfl rfl ?_
    refine p_iconst cn_0 ?_
    refine p_iald gt_103 h (fun h => ?_)
    refine p_icmp_ge h 87 rfl rfl (fun _ h => ?_) (fun _ h => ?_)
    · exact p_fg (S_X11_free_99_162 hl hk69 hk87 h) ⟨Or.inr rfl, Or.inr rfl, Or.inr rfl, Or.inr rfl, Or.inr rfl, Or.inr rfl, Or.inr rfl, Or.inr rfl, Or.inr rfl, Or.inl rfl, trivial⟩
    · refine p_iload rfl ?_
      refine p_if_eq h 87 rfl rfl (fun _ h => ?_) (fun _ h => ?_)
      · exact p_fg (S_X11_free_99_162 hl hk69 hk87 h) ⟨Or.inr rfl, Or.inr rfl, Or.inr rfl, Or.inr rfl, Or.inr rfl, Or.inr rfl, Or.inr rfl, Or.inr rfl, Or.inr rfl, Or.inl rfl, trivial⟩
      · refine p_iload_n rfl ?_
        refine p_iload rfl ?_
        refine p_ishr ?_
        refine p_iconst cn_1 ?_
        refine p_iand ?_
        refine p_if_eq h 81 rfl rfl (fun _ h => ?_) (fun _ h => ?_)
        · exact p_fg (S_X11_free_99_149 hl hk69 hk87 (fun h => ih h) h) ⟨Or.inr rfl, Or.inr rfl, Or.inr rfl, Or.inr rfl, Or.inr rfl, Or.inr rfl, Or.inr rfl, Or.inr rfl, Or.inl rfl, Or.inr rfl, trivial⟩
        · refine p_iload rfl ?_
          refine p_iload rfl ?_
          refine p_aload_n rfl ?_
          refine p_getR fk_X11_35 gt_99 rfl rfl ?_
          refine p_iload rfl ?_
          refine p_iald gt_107 h (fun h => ?_)
          refine p_aload_n rfl ?_
          refine p_getR fk_X11_41 gt_99 rfl rfl ?_
          refine p_iload rfl ?_
          refine p_iald gt_109 h (fun h => ?_)
          refine p_cI (av := [_, _, _, _]) ⟨mok_X11_canBe, Or.inr ⟨274, rfl, rfl, sta_X11_canBe, Or.inl lk_X11_274⟩⟩ (Nat.le_of_ble_eq_true rfl) (Nat.le_of_ble_eq_true rfl) rfl (fun _ h => pc_X11_canBe hl h) h (fun v1346 M1345 h => ?_)
          refine p_if_ne h 83 rfl rfl (fun _ h => ?_) (fun _ h => ?_)
          · exact p_fg (S_X11_free_99_149 hl hk69 hk87 (fun h => ih h) h) ⟨Or.inr rfl, Or.inr rfl, Or.inr rfl, Or.inr rfl, Or.inr rfl, Or.inr rfl, Or.inr rfl, Or.inr rfl, Or.inl rfl, Or.inr rfl, trivial⟩
          · refine p_iconst cn_0 ?_
            exact p_fg (S_X11_free_99_154 hl hk69 hk87 (fun h => ih h) h) ⟨Or.inr rfl, Or.inr rfl, Or.inr rfl, Or.inr rfl, Or.inr rfl, Or.inr rfl, Or.inr rfl, Or.inr rfl, Or.inl rfl, Or.inr rfl, trivial⟩
set_option maxRecDepth 100000 in
theorem S_X11_free_99_87 {l : Launch} (hl : l.stackTraces = false) {k69 : PM → Int32 → Int32 → Int32 → Int32 → Int32 → Int32 → Option PR} (hk69 : ∀ {M : PM} {x1 : Int32} {x2 : Int32} {x3 : Int32} {x4 : Int32} {x5 : Int32} {x6 : Int32} {r : PR}, k69 M x1 x2 x3 x4 x5 x6 = some r → PW l 2 Y_X11_free k_X11_free_69 [vR 99, vI x1, vI x2, vI x3, vI x4, vI x5, vI x6, jk, jk, jk] [] M r) : ∀ (n : Nat) {M : PM} {x1 : Int32} {x2 : Int32} {x3 : Int32} {x4 : Int32} {x5 : Int32} {x6 : Int32} {x7 : Int32} {r : PR}, F_X11_free_99_87 k69 n M x1 x2 x3 x4 x5 x6 x7 = some r → PW l 2 Y_X11_free k_X11_free_87 [vR 99, vI x1, vI x2, vI x3, vI x4, vI x5, vI x6, vI x7, jk, jk] [] M r := by
  intro n
  induction n with
  | zero => intro M x1 x2 x3 x4 x5 x6 x7 r h; exact nomatch (show (none : Option PR) = some r from h)
  | succ n ih =>
    intro M x1 x2 x3 x4 x5 x6 x7 r h
    rw [F_X11_free_99_87] at h
    refine p_iload rfl ?_
    refine p_iload rfl ?_
    refine p_icmp_ge h 104 rfl rfl (fun _ h => ?_) (fun _ h => ?_)
    · have h := lt_h h
      refine p_iinc (Nat.le_of_ble_eq_true rfl) rfl (ci_1 _) rfl ?_
      refine p_goto 39 rfl rfl ?_
      exact p_fg (hk69 h) ⟨Or.inr rfl, Or.inr rfl, Or.inr rfl, Or.inr rfl, Or.inr rfl, Or.inr rfl, Or.inr rfl, Or.inl rfl, Or.inl rfl, Or.inl rfl, trivial⟩
    · refine p_iconst cn_1 ?_
      refine p_istore (Nat.le_of_ble_eq_true rfl) rfl ?_
      refine p_iconst cn_0 ?_
      refine p_istore (Nat.le_of_ble_eq_true rfl) rfl ?_
      exact p_fg (S_X11_free_99_100 hl hk69 (fun h => ih h) FUEL h) ⟨Or.inr rfl, Or.inr rfl, Or.inr rfl, Or.inr rfl, Or.inr rfl, Or.inr rfl, Or.inr rfl, Or.inr rfl, Or.inr rfl, Or.inr rfl, trivial⟩
set_option maxRecDepth 100000 in
theorem S_X11_free_99_81 {l : Launch} (hl : l.stackTraces = false) {k69 : PM → Int32 → Int32 → Int32 → Int32 → Int32 → Int32 → Option PR} (hk69 : ∀ {M : PM} {x1 : Int32} {x2 : Int32} {x3 : Int32} {x4 : Int32} {x5 : Int32} {x6 : Int32} {r : PR}, k69 M x1 x2 x3 x4 x5 x6 = some r → PW l 2 Y_X11_free k_X11_free_69 [vR 99, vI x1, vI x2, vI x3, vI x4, vI x5, vI x6, jk, jk, jk] [] M r) {M : PM} {x1 : Int32} {x2 : Int32} {x3 : Int32} {x4 : Int32} {x5 : Int32} {x6 : Int32} {t0 : Int32} {t1 : Int32} {r : PR} (h : F_X11_free_99_81 k69 M x1 x2 x3 x4 x5 x6 t0 t1 = some r) : PW l 2 Y_X11_free k_X11_free_81 [vR 99, vI x1, vI x2, vI x3, vI x4, vI x5, vI x6, jk, jk, jk] [vI t1, vI t0] M r := by
  unfold F_X11_free_99_81 at h
  refine p_icmp_gt h 106 rfl rfl (fun _ h => ?_) (fun _ h => ?_)
  · refine p_iload_n rfl ?_
    refine p_if_ne h 110 rfl rfl (fun _ h => ?_) (fun _ h => ?_)
    · refine p_iload rfl ?_
      refine p_goto 111 rfl rfl ?_
      exact p_iret rfl h
    · refine p_iload rfl ?_
      exact p_iret rfl h
  · refine p_iconst cn_0 ?_
    refine p_istore (Nat.le_of_ble_eq_true rfl) rfl ?_
    exact p_fg (S_X11_free_99_87 hl hk69 FUEL h) ⟨Or.inr rfl, Or.inr rfl, Or.inr rfl, Or.inr rfl, Or.inr rfl, Or.inr rfl, Or.inr rfl, Or.inr rfl, Or.inl rfl, Or.inl rfl, trivial⟩
set_option maxRecDepth 100000 in
theorem S_X11_free_99_69 {l : Launch} (hl : l.stackTraces = false) : ∀ (n : Nat) {M : PM} {x1 : Int32} {x2 : Int32} {x3 : Int32} {x4 : Int32} {x5 : Int32} {x6 : Int32} {r : PR}, F_X11_free_99_69  n M x1 x2 x3 x4 x5 x6 = some r → PW l 2 Y_X11_free k_X11_free_69 [vR 99, vI x1, vI x2, vI x3, vI x4, vI x5, vI x6, jk, jk, jk] [] M r := by
  intro n
  induction n with
  | zero => intro M x1 x2 x3 x4 x5 x6 r h; exact nomatch (show (none : Option PR) = some r from h)
  | succ n ih =>
    intro M x1 x2 x3 x4 x5 x6 r h
    rw [F_X11_free_99_69] at h
    refine p_iload rfl ?_
    refine p_iload_n rfl ?_
    refine p_if_ne h 44 rfl rfl (fun _ h => ?_) (fun _ h => ?_)
    · refine p_bipush cb_24 ?_
      refine p_goto 45 rfl rfl ?_
      exact p_fg (S_X11_free_99_81 hl (fun h => ih h) h) ⟨Or.inr rfl, Or.inr rfl, Or.inr rfl, Or.inr rfl, Or.inr rfl, Or.inr rfl, Or.inr rfl, Or.inl rfl, Or.inl rfl, Or.inl rfl, trivial⟩
    · refine p_iload_n rfl ?_
      exact p_fg (S_X11_free_99_81 hl (fun h => ih h) h) ⟨Or.inr rfl, Or.inr rfl, Or.inr rfl, Or.inr rfl, Or.inr rfl, Or.inr rfl, Or.inr rfl, Or.inl rfl, Or.inl rfl, Or.inl rfl, trivial⟩
set_option maxRecDepth 100000 in
theorem S_X11_free_99_67 {l : Launch} (hl : l.stackTraces = false) {M : PM} {x1 : Int32} {x2 : Int32} {x3 : Int32} {x4 : Int32} {x5 : Int32} {t0 : Int32} {r : PR} (h : F_X11_free_99_67  M x1 x2 x3 x4 x5 t0 = some r) : PW l 2 Y_X11_free k_X11_free_67 [vR 99, vI x1, vI x2, vI x3, vI x4, vI x5, jk, jk, jk, jk] [vI t0] M r := by
  unfold F_X11_free_99_67 at h
  refine p_istore (Nat.le_of_ble_eq_true rfl) rfl ?_
  exact p_fg (S_X11_free_99_69 hl FUEL h) ⟨Or.inr rfl, Or.inr rfl, Or.inr rfl, Or.inr rfl, Or.inr rfl, Or.inr rfl, Or.inr rfl, Or.inl rfl, Or.inl rfl, Or.inl rfl, trivial⟩
set_option maxRecDepth 100000 in
theorem S_X11_free_99_42 {l : Launch} (hl : l.stackTraces = false) {M : PM} {x1 : Int32} {x2 : Int32} {x3 : Int32} {t1 : Int32} {r : PR} (h : F_X11_free_99_42  M x1 x2 x3 t1 = some r) : PW l 2 Y_X11_free k_X11_free_42 [vR 99, vI x1, vI x2, vI x3, jk, jk, jk, jk, jk, jk] [vI t1, vR 99] M r := by
  unfold F_X11_free_99_42 at h
  refine p_iconst cn_1 ?_
  refine p_iconst cn_2 ?_
  refine p_cI (av := [_, _, _, _]) ⟨mok_X11_bad, Or.inl ⟨180, 99, 11, 0, _, rfl, rfl, rfl, gt_99, rfl, ins_X11_bad, Or.inl lk_X11_180⟩⟩ (Nat.le_of_ble_eq_true rfl) (Nat.le_of_ble_eq_true rfl) rfl (fun _ h => pc_X11_bad_99 hl h) h (fun v1349 M1348 h => ?_)
  refine p_if_eq h 29 rfl rfl (fun _ h => ?_) (fun _ h => ?_)
  · refine p_iconst cn_0 ?_
    refine p_istore (Nat.le_of_ble_eq_true rfl) rfl ?_
    refine p_iconst cn_m1 ?_
    refine p_istore (Nat.le_of_ble_eq_true rfl) rfl ?_
    refine p_iload_n rfl ?_
    refine p_if_ne h 37 rfl rfl (fun _ h => ?_) (fun _ h => ?_)
    · refine p_iconst cn_2 ?_
      refine p_goto 38 rfl rfl ?_
      exact p_fg (S_X11_free_99_67 hl h) ⟨Or.inr rfl, Or.inr rfl, Or.inr rfl, Or.inr rfl, Or.inr rfl, Or.inr rfl, Or.inl rfl, Or.inl rfl, Or.inl rfl, Or.inl rfl, trivial⟩
    · refine p_iload_n rfl ?_
      exact p_fg (S_X11_free_99_67 hl h) ⟨Or.inr rfl, Or.inr rfl, Or.inr rfl, Or.inr rfl, Or.inr rfl, Or.inr rfl, Or.inl rfl, Or.inl rfl, Or.inl rfl, Or.inl rfl, trivial⟩
  · refine p_iconst cn_0 ?_
    exact p_iret rfl h
set_option maxRecDepth 100000 in
theorem S_X11_free_99_37 {l : Launch} (hl : l.stackTraces = false) {M : PM} {x1 : Int32} {x2 : Int32} {x3 : Int32} {r : PR} (h : F_X11_free_99_37  M x1 x2 x3 = some r) : PW l 2 Y_X11_free k_X11_free_37 [vR 99, vI x1, vI x2, vI x3, jk, jk, jk, jk, jk, jk] [vR 99] M r := by
  unfold F_X11_free_99_37 at h
  refine p_iconst cn_1 ?_
  refine p_goto 23 rfl rfl ?_
  exact p_fg (S_X11_free_99_42 hl h) ⟨Or.inr rfl, Or.inr rfl, Or.inr rfl, Or.inr rfl, Or.inl rfl, Or.inl rfl, Or.inl rfl, Or.inl rfl, Or.inl rfl, Or.inl rfl, trivial⟩
set_option maxRecDepth 100000 in
theorem S_X11_free_99_28 {l : Launch} (hl : l.stackTraces = false) {M : PM} {x1 : Int32} {x2 : Int32} {x3 : Int32} {r : PR} (h : F_X11_free_99_28  M x1 x2 x3 = some r) : PW l 2 Y_X11_free k_X11_free_28 [vR 99, vI x1, vI x2, vI x3, jk, jk, jk, jk, jk, jk] [vR 99] M r := by
  unfold F_X11_free_99_28 at h
  refine p_iload_n rfl ?_
  refine p_iconst cn_0 ?_
  refine p_iconst cn_1 ?_
  refine p_cI (av := [_, _, _]) ⟨mok_X11_in, Or.inr ⟨141, rfl, rfl, sta_X11_in, Or.inl lk_X11_141⟩⟩ (Nat.le_of_ble_eq_true rfl) (Nat.le_of_ble_eq_true rfl) rfl (fun _ h => pc_X11_in hl h) h (fun v1351 M1350 h => ?_)
  refine p_if_ne h 22 rfl rfl (fun _ h => ?_) (fun _ h => ?_)
  · exact p_fg (S_X11_free_99_37 hl h) ⟨Or.inr rfl, Or.inr rfl, Or.inr rfl, Or.inr rfl, Or.inl rfl, Or.inl rfl, Or.inl rfl, Or.inl rfl, Or.inl rfl, Or.inl rfl, trivial⟩
  · refine p_iconst cn_0 ?_
    exact p_fg (S_X11_free_99_42 hl h) ⟨Or.inr rfl, Or.inr rfl, Or.inr rfl, Or.inr rfl, Or.inl rfl, Or.inl rfl, Or.inl rfl, Or.inl rfl, Or.inl rfl, Or.inl rfl, trivial⟩
set_option maxRecDepth 100000 in
theorem S_X11_free_99 {l : Launch} (hl : l.stackTraces = false) {M : PM} {a1 : Int32} {a2 : Int32} {a3 : Int32} {r : PR} (h : F_X11_free_99 M a1 a2 a3 = some r) : PW l 2 Y_X11_free k_X11_free [vR 99, vI a1, vI a2, vI a3, jk, jk, jk, jk, jk, jk] [] M r := by
  unfold F_X11_free_99 at h
  refine p_aload_n rfl ?_
  refine p_iconst cn_0 ?_
  refine p_putI fk_X11_107 gt_99 rfl ?_
  refine p_aload_n rfl ?_
  refine p_aload_n rfl ?_
  refine p_iload_n rfl ?_
  refine p_cI (av := [_, _]) ⟨mok_X11_areLaws, Or.inl ⟨281, 99, 11, 0, _, rfl, rfl, rfl, gt_99, rfl, ins_X11_areLaws, Or.inl lk_X11_281⟩⟩ (Nat.le_of_ble_eq_true rfl) (Nat.le_of_ble_eq_true rfl) rfl (fun _ h => pc_X11_areLaws_99 hl h) h (fun v1353 M1352 h => ?_)
  refine p_if_eq h 20 rfl rfl (fun _ h => ?_) (fun _ h => ?_)
  · exact p_fg (S_X11_free_99_37 hl h) ⟨Or.inr rfl, Or.inr rfl, Or.inr rfl, Or.inr rfl, Or.inl rfl, Or.inl rfl, Or.inl rfl, Or.inl rfl, Or.inl rfl, Or.inl rfl, trivial⟩
  · refine p_iload_n rfl ?_
    refine p_if_eq h 15 rfl rfl (fun _ h => ?_) (fun _ h => ?_)
    · exact p_fg (S_X11_free_99_28 hl h) ⟨Or.inr rfl, Or.inr rfl, Or.inr rfl, Or.inr rfl, Or.inl rfl, Or.inl rfl, Or.inl rfl, Or.inl rfl, Or.inl rfl, Or.inl rfl, trivial⟩
    · refine p_iload_n rfl ?_
      refine p_iconst cn_2 ?_
      refine p_bipush cb_24 ?_
      refine p_cI (av := [_, _, _]) ⟨mok_X11_in, Or.inr ⟨141, rfl, rfl, sta_X11_in, Or.inl lk_X11_141⟩⟩ (Nat.le_of_ble_eq_true rfl) (Nat.le_of_ble_eq_true rfl) rfl (fun _ h => pc_X11_in hl h) h (fun v1355 M1354 h => ?_)
      refine p_if_eq h 20 rfl rfl (fun _ h => ?_) (fun _ h => ?_)
      · exact p_fg (S_X11_free_99_37 hl h) ⟨Or.inr rfl, Or.inr rfl, Or.inr rfl, Or.inr rfl, Or.inl rfl, Or.inl rfl, Or.inl rfl, Or.inl rfl, Or.inl rfl, Or.inl rfl, trivial⟩
      · exact p_fg (S_X11_free_99_28 hl h) ⟨Or.inr rfl, Or.inr rfl, Or.inr rfl, Or.inr rfl, Or.inl rfl, Or.inl rfl, Or.inl rfl, Or.inl rfl, Or.inl rfl, Or.inl rfl, trivial⟩
set_option maxRecDepth 100000 in
theorem pc_X11_free_99 {l : Launch} (hl : l.stackTraces = false) {M : PM} {a1 : Int32} {a2 : Int32} {a3 : Int32} {r : PR} (h : F_X11_free_99 M a1 a2 a3 = some r) : PC l 2 Y_X11_free [vR 99, vI a1, vI a2, vI a3] M r := pc_of hl (by decide +kernel) cok_X11_free (Nat.le_of_ble_eq_true rfl) rfl (S_X11_free_99 hl  h) rfl
def F_X11_turnOf_99_37 (k4 : PM → Int32 → Int32 → Int32 → Option PR) (M : PM) (x1 : Int32) (x3 : Int32) (t0 : Int32) : Option PR := lt (x3 + 1) fun y1356 => k4 M x1 t0 y1356
def F_X11_turnOf_99_4 : Nat → PM → Int32 → Int32 → Int32 → Option PR
  | 0, _, _, _, _ => none
  | n + 1, M, x1, x2, x3 => if ixOK 0 6 = true then (if mA M 103 (0 : Int32).toNatClampNeg ≤ x3 then some (.inl (some (.int x2)), M) else (if (x1 >>> (x3 &&& 31)) &&& 1 = 1 then if ixOK x3 12 = true then cI (F_X11_both M x2 (mA M 107 x3.toNatClampNeg)) fun v1358 M1357 => F_X11_turnOf_99_37 (F_X11_turnOf_99_4 n) M1357 x1 x3 v1358 else none else F_X11_turnOf_99_37 (F_X11_turnOf_99_4 n) M x1 x3 x2)) else none
def F_X11_turnOf_99 (M : PM) (a1 : Int32) : Option PR := F_X11_turnOf_99_4 FUEL M a1 1 0
set_option maxRecDepth 100000 in
theorem S_X11_turnOf_99_37 {l : Launch} (hl : l.stackTraces = false) {k4 : PM → Int32 → Int32 → Int32 → Option PR} (hk4 : ∀ {M : PM} {x1 : Int32} {x2 : Int32} {x3 : Int32} {r : PR}, k4 M x1 x2 x3 = some r → PW l 2 Y_X11_turnOf k_X11_turnOf_4 [vR 99, vI x1, vI x2, vI x3] [] M r) {M : PM} {x1 : Int32} {x3 : Int32} {t0 : Int32} {r : PR} (h : F_X11_turnOf_99_37 k4 M x1 x3 t0 = some r) : PW l 2 Y_X11_turnOf k_X11_turnOf_37 [vR 99, vI x1, jk, vI x3] [vI t0] M r := by
  unfold F_X11_turnOf_99_37 at h
  refine p_istore_n (Nat.le_of_ble_eq_true rfl) rfl ?_
  have h := lt_h h
  refine p_iinc (Nat.le_of_ble_eq_true rfl) rfl (ci_1 _) rfl ?_
  refine p_goto 4 rfl rfl ?_
  exact p_fg (hk4 h) ⟨Or.inr rfl, Or.inr rfl, Or.inr rfl, Or.inr rfl, trivial⟩
set_option maxRecDepth 100000 in
theorem S_X11_turnOf_99_4 {l : Launch} (hl : l.stackTraces = false) : ∀ (n : Nat) {M : PM} {x1 : Int32} {x2 : Int32} {x3 : Int32} {r : PR}, F_X11_turnOf_99_4  n M x1 x2 x3 = some r → PW l 2 Y_X11_turnOf k_X11_turnOf_4 [vR 99, vI x1, vI x2, vI x3] [] M r := by
  intro n
  induction n with
  | zero => intro M x1 x2 x3 r h; exact nomatch (show (none : Option PR) = some r from h)
  | succ n ih =>
    intro M x1 x2 x3 r h
    rw [F_X11_turnOf_99_4] at h
    refine p_iload_n rfl ?_
    refine p_aload_n rfl ?_
    refine p_getR fk_X11_23 gt_99 rfl rfl ?_
    refine p_iconst cn_0 ?_
    refine p_iald gt_103 h (fun h => ?_)
    refine p_icmp_ge h 28 rfl rfl (fun _ h => ?_) (fun _ h => ?_)
    · refine p_iload_n rfl ?_
      exact p_iret rfl h
    · refine p_iload_n rfl ?_
      refine p_iload_n rfl ?_
      refine p_ishr ?_
      refine p_iconst cn_1 ?_
      refine p_iand ?_
      refine p_iconst cn_1 ?_
      refine p_icmp_ne h 24 rfl rfl (fun _ h => ?_) (fun _ h => ?_)
      · refine p_iload_n rfl ?_
        refine p_aload_n rfl ?_
        refine p_getR fk_X11_35 gt_99 rfl rfl ?_
        refine p_iload_n rfl ?_
        refine p_iald gt_107 h (fun h => ?_)
        refine p_cI (av := [_, _]) ⟨mok_X11_both, Or.inr ⟨190, rfl, rfl, sta_X11_both, Or.inl lk_X11_190⟩⟩ (Nat.le_of_ble_eq_true rfl) (Nat.le_of_ble_eq_true rfl) rfl (fun _ h => pc_X11_both hl h) h (fun v1358 M1357 h => ?_)
        refine p_goto 25 rfl rfl ?_
        exact p_fg (S_X11_turnOf_99_37 hl (fun h => ih h) h) ⟨Or.inr rfl, Or.inr rfl, Or.inl rfl, Or.inr rfl, trivial⟩
      · refine p_iload_n rfl ?_
        exact p_fg (S_X11_turnOf_99_37 hl (fun h => ih h) h) ⟨Or.inr rfl, Or.inr rfl, Or.inl rfl, Or.inr rfl, trivial⟩
set_option maxRecDepth 100000 in
theorem S_X11_turnOf_99 {l : Launch} (hl : l.stackTraces = false) {M : PM} {a1 : Int32} {r : PR} (h : F_X11_turnOf_99 M a1 = some r) : PW l 2 Y_X11_turnOf k_X11_turnOf [vR 99, vI a1, jk, jk] [] M r := by
  unfold F_X11_turnOf_99 at h
  refine p_iconst cn_1 ?_
  refine p_istore_n (Nat.le_of_ble_eq_true rfl) rfl ?_
  refine p_iconst cn_0 ?_
  refine p_istore_n (Nat.le_of_ble_eq_true rfl) rfl ?_
  exact p_fg (S_X11_turnOf_99_4 hl FUEL h) ⟨Or.inr rfl, Or.inr rfl, Or.inr rfl, Or.inr rfl, trivial⟩
set_option maxRecDepth 100000 in
theorem pc_X11_turnOf_99 {l : Launch} (hl : l.stackTraces = false) {M : PM} {a1 : Int32} {r : PR} (h : F_X11_turnOf_99 M a1 = some r) : PC l 2 Y_X11_turnOf [vR 99, vI a1] M r := pc_of hl (by decide +kernel) cok_X11_turnOf (Nat.le_of_ble_eq_true rfl) rfl (S_X11_turnOf_99 hl  h) rfl
def F_X11_meeting_99_200 (k48 : PM → Int32 → Int32 → Int32 → Int64 → Int64 → Int32 → Option PR) (k134 : PM → Int32 → Int32 → Int32 → Int64 → Int64 → Int32 → Int32 → Int32 → Option PR) (M : PM) (x1 : Int32) (x2 : Int32) (x3 : Int32) (x4 : Int64) (x6 : Int64) (x8 : Int32) (x9 : Int32) (x10 : Int32) : Option PR := lt (x10 + 1) fun y1359 => k134 M x1 x2 x3 x4 x6 x8 x9 y1359
def F_X11_meeting_99_134 (k48 : PM → Int32 → Int32 → Int32 → Int64 → Int64 → Int32 → Option PR) : Nat → PM → Int32 → Int32 → Int32 → Int64 → Int64 → Int32 → Int32 → Int32 → Option PR
  | 0, _, _, _, _, _, _, _, _, _ => none
  | n + 1, M, x1, x2, x3, x4, x6, x8, x9, x10 => (if x8 ≤ x10 then lt (x8 + 1) fun y1360 => k48 M x1 x2 x3 x4 x6 y1360 else if x9 = 0 then none else if ixOK (x10 - x10 / x9 * x9) 24 = true then lt (((mA M 123 (x10 - x10 / x9 * x9).toNatClampNeg).toInt64) * x9.toInt64) fun y1361 => lt (x2.toInt64 * x8.toInt64) fun y1362 => (if 0 < lg_cmp (y1361 * x6) (x4 * y1362) then lt ((100 * x8) + x10) fun y1363 => F_X11_meeting_99_200 k48 (F_X11_meeting_99_134 k48 n) M x1 x2 y1363 y1361 y1362 x8 x9 x10 else F_X11_meeting_99_200 k48 (F_X11_meeting_99_134 k48 n) M x1 x2 x3 x4 x6 x8 x9 x10) else none)
def F_X11_meeting_99_123 (k48 : PM → Int32 → Int32 → Int32 → Int64 → Int64 → Int32 → Option PR) (k90 : PM → Int32 → Int32 → Int32 → Int64 → Int64 → Int32 → Int32 → Int32 → Option PR) (M : PM) (x1 : Int32) (x2 : Int32) (x3 : Int32) (x4 : Int64) (x6 : Int64) (x8 : Int32) (x9 : Int32) (x10 : Int32) (t1 : Int32) (t2 : Int32) (t3 : Int32) : Option PR := if ixOK t1 24 = true then lt (x10 + 1) fun y1364 => k90 (sA M 123 t1.toNatClampNeg (t2 + t3)) x1 x2 x3 x4 x6 x8 x9 y1364 else none
def F_X11_meeting_99_90 (k48 : PM → Int32 → Int32 → Int32 → Int64 → Int64 → Int32 → Option PR) : Nat → PM → Int32 → Int32 → Int32 → Int64 → Int64 → Int32 → Int32 → Int32 → Option PR
  | 0, _, _, _, _, _, _, _, _, _ => none
  | n + 1, M, x1, x2, x3, x4, x6, x8, x9, x10 => (if x2 ≤ x10 then F_X11_meeting_99_134 k48 FUEL M x1 x2 x3 x4 x6 x8 x9 0 else if x9 = 0 then none else if ixOK (x10 - x10 / x9 * x9) 24 = true then cI (F_X11_bitsAt_99 M x10) fun v1366 M1365 => (if v1366 &&& x1 = 0 then F_X11_meeting_99_123 k48 (F_X11_meeting_99_90 k48 n) M1365 x1 x2 x3 x4 x6 x8 x9 x10 (x10 - x10 / x9 * x9) (mA M 123 (x10 - x10 / x9 * x9).toNatClampNeg) 0 else F_X11_meeting_99_123 k48 (F_X11_meeting_99_90 k48 n) M1365 x1 x2 x3 x4 x6 x8 x9 x10 (x10 - x10 / x9 * x9) (mA M 123 (x10 - x10 / x9 * x9).toNatClampNeg) 1) else none)
def F_X11_meeting_99_66 (k48 : PM → Int32 → Int32 → Int32 → Int64 → Int64 → Int32 → Option PR) : Nat → PM → Int32 → Int32 → Int32 → Int64 → Int64 → Int32 → Int32 → Int32 → Option PR
  | 0, _, _, _, _, _, _, _, _, _ => none
  | n + 1, M, x1, x2, x3, x4, x6, x8, x9, x10 => (if x9 ≤ x10 then F_X11_meeting_99_90 k48 FUEL M x1 x2 x3 x4 x6 x8 x9 0 else if ixOK x10 24 = true then lt (x10 + 1) fun y1367 => F_X11_meeting_99_66 k48 n (sA M 123 x10.toNatClampNeg 0) x1 x2 x3 x4 x6 x8 x9 y1367 else none)
def F_X11_meeting_99_48 : Nat → PM → Int32 → Int32 → Int32 → Int64 → Int64 → Int32 → Option PR
  | 0, _, _, _, _, _, _, _ => none
  | n + 1, M, x1, x2, x3, x4, x6, x8 => (if 24 < x8 then some (.inl (some (.int x3)), M) else cI (F_X11_common M x8 x2) fun v1369 M1368 => F_X11_meeting_99_66 (F_X11_meeting_99_48 n) FUEL M1368 x1 x2 x3 x4 x6 x8 v1369 0)
def F_X11_meeting_99_19 (M : PM) (x1 : Int32) (t1 : Int32) : Option PR := cI (F_X11_bad_99 M t1 1 2) fun v1371 M1370 => (if v1371 = 0 then cI (F_X11_turnOf_99 M1370 x1) fun v1373 M1372 => lt ((0 : Int64)) fun y1374 => lt ((1 : Int64)) fun y1375 => F_X11_meeting_99_48 FUEL M1372 x1 v1373 200 y1374 y1375 2 else some (.inl (some (.int 0)), M1370))
def F_X11_meeting_99 (M : PM) (a1 : Int32) : Option PR := cI (F_X11_areLaws_99 (sI M 99 0 0) a1) fun v1377 M1376 => (if v1377 = 0 then F_X11_meeting_99_19 M1376 a1 1 else F_X11_meeting_99_19 M1376 a1 0)
set_option maxRecDepth 100000 in
theorem S_X11_meeting_99_200 {l : Launch} (hl : l.stackTraces = false) {k48 : PM → Int32 → Int32 → Int32 → Int64 → Int64 → Int32 → Option PR} {k134 : PM → Int32 → Int32 → Int32 → Int64 → Int64 → Int32 → Int32 → Int32 → Option PR} (hk48 : ∀ {M : PM} {x1 : Int32} {x2 : Int32} {x3 : Int32} {x4 : Int64} {x6 : Int64} {x8 : Int32} {r : PR}, k48 M x1 x2 x3 x4 x6 x8 = some r → PW l 3 Y_X11_meeting k_X11_meeting_48 [vR 99, vI x1, vI x2, vI x3, vJ x4, jk, vJ x6, jk, vI x8, jk, jk, jk, jk, jk, jk] [] M r) (hk134 : ∀ {M : PM} {x1 : Int32} {x2 : Int32} {x3 : Int32} {x4 : Int64} {x6 : Int64} {x8 : Int32} {x9 : Int32} {x10 : Int32} {r : PR}, k134 M x1 x2 x3 x4 x6 x8 x9 x10 = some r → PW l 3 Y_X11_meeting k_X11_meeting_134 [vR 99, vI x1, vI x2, vI x3, vJ x4, jk, vJ x6, jk, vI x8, vI x9, vI x10, jk, jk, jk, jk] [] M r) {M : PM} {x1 : Int32} {x2 : Int32} {x3 : Int32} {x4 : Int64} {x6 : Int64} {x8 : Int32} {x9 : Int32} {x10 : Int32} {r : PR} (h : F_X11_meeting_99_200 k48 k134 M x1 x2 x3 x4 x6 x8 x9 x10 = some r) : PW l 3 Y_X11_meeting k_X11_meeting_200 [vR 99, vI x1, vI x2, vI x3, vJ x4, jk, vJ x6, jk, vI x8, vI x9, vI x10, jk, jk, jk, jk] [] M r := by
  unfold F_X11_meeting_99_200 at h
  have h := lt_h h
  refine p_iinc (Nat.le_of_ble_eq_true rfl) rfl (ci_1 _) rfl ?_
  refine p_goto 75 rfl rfl ?_
  exact p_fg (hk134 h) ⟨Or.inr rfl, Or.inr rfl, Or.inr rfl, Or.inr rfl, Or.inr rfl, Or.inl rfl, Or.inr rfl, Or.inl rfl, Or.inr rfl, Or.inr rfl, Or.inr rfl, Or.inl rfl, Or.inl rfl, Or.inl rfl, Or.inl rfl, trivial⟩
set_option maxRecDepth 100000 in
theorem S_X11_meeting_99_134 {l : Launch} (hl : l.stackTraces = false) {k48 : PM → Int32 → Int32 → Int32 → Int64 → Int64 → Int32 → Option PR} (hk48 : ∀ {M : PM} {x1 : Int32} {x2 : Int32} {x3 : Int32} {x4 : Int64} {x6 : Int64} {x8 : Int32} {r : PR}, k48 M x1 x2 x3 x4 x6 x8 = some r → PW l 3 Y_X11_meeting k_X11_meeting_48 [vR 99, vI x1, vI x2, vI x3, vJ x4, jk, vJ x6, jk, vI x8, jk, jk, jk, jk, jk, jk] [] M r) : ∀ (n : Nat) {M : PM} {x1 : Int32} {x2 : Int32} {x3 : Int32} {x4 : Int64} {x6 : Int64} {x8 : Int32} {x9 : Int32} {x10 : Int32} {r : PR}, F_X11_meeting_99_134 k48 n M x1 x2 x3 x4 x6 x8 x9 x10 = some r → PW l 3 Y_X11_meeting k_X11_meeting_134 [vR 99, vI x1, vI x2, vI x3, vJ x4, jk, vJ x6, jk, vI x8, vI x9, vI x10, jk, jk, jk, jk] [] M r := by
  intro n
  induction n with
  | zero => intro M x1 x2 x3 x4 x6 x8 x9 x10 r h; exact nomatch (show (none : Option PR) = some r from h)
  | succ n ih =>
    intro M x1 x2 x3 x4 x6 x8 x9 x10 r h
    rw [F_X11_meeting_99_134] at h
    refine p_iload rfl ?_
    refine p_iload rfl ?_
    refine p_icmp_ge h 116 rfl rfl (fun _ h => ?_) (fun _ h => ?_)
    · have h := lt_h h
      refine p_iinc (Nat.le_of_ble_eq_true rfl) rfl (ci_1 _) rfl ?_
      refine p_goto 29 rfl rfl ?_
      exact p_fg (hk48 h) ⟨Or.inr rfl, Or.inr rfl, Or.inr rfl, Or.inr rfl, Or.inr rfl, Or.inl rfl, Or.inr rfl, Or.inl rfl, Or.inr rfl, Or.inl rfl, Or.inl rfl, Or.inl rfl, Or.inl rfl, Or.inl rfl, Or.inl rfl, trivial⟩
    · refine p_aload_n rfl ?_
      refine p_getR fk_X11_86 gt_99 rfl rfl ?_
      refine p_iload rfl ?_
      refine p_iload rfl ?_
      refine p_irem h (fun h => ?_)
      refine p_iald gt_123 h (fun h => ?_)
      refine p_i2l ?_
      refine p_iload rfl ?_
      refine p_i2l ?_
      refine p_lmul ?_
      have h := lt_h h
      refine p_lstore (Nat.le_of_ble_eq_true rfl) rfl ?_
      refine p_iload_n rfl ?_
      refine p_i2l ?_
      refine p_iload rfl ?_
      refine p_i2l ?_
      refine p_lmul ?_
      have h := lt_h h
      refine p_lstore (Nat.le_of_ble_eq_true rfl) rfl ?_
      refine p_lload rfl ?_
      refine p_lload rfl ?_
      refine p_lmul ?_
      refine p_lload rfl ?_
      refine p_lload rfl ?_
      refine p_lmul ?_
      refine p_lcmp ?_
      refine p_if_gt h 104 rfl rfl (fun _ h => ?_) (fun _ h => ?_)
      · refine p_lload rfl ?_
        refine p_lstore (Nat.le_of_ble_eq_true rfl) rfl ?_
        refine p_lload rfl ?_
        refine p_lstore (Nat.le_of_ble_eq_true rfl) rfl ?_
        refine p_bipush cb_100 ?_
        refine p_iload rfl ?_
        refine p_imul ?_
        refine p_iload rfl ?_
        refine p_iadd ?_
        have h := lt_h h
        refine p_istore_n (Nat.le_of_ble_eq_true rfl) rfl ?_
        exact p_fg (S_X11_meeting_99_200 hl hk48 (fun h => ih h) h) ⟨Or.inr rfl, Or.inr rfl, Or.inr rfl, Or.inr rfl, Or.inr rfl, Or.inl rfl, Or.inr rfl, Or.inl rfl, Or.inr rfl, Or.inr rfl, Or.inr rfl, Or.inl rfl, Or.inl rfl, Or.inl rfl, Or.inl rfl, trivial⟩
      · refine p_goto 114 rfl rfl ?_
        exact p_fg (S_X11_meeting_99_200 hl hk48 (fun h => ih h) h) ⟨Or.inr rfl, Or.inr rfl, Or.inr rfl, Or.inr rfl, Or.inr rfl, Or.inl rfl, Or.inr rfl, Or.inl rfl, Or.inr rfl, Or.inr rfl, Or.inr rfl, Or.inl rfl, Or.inl rfl, Or.inl rfl, Or.inl rfl, trivial⟩
set_option maxRecDepth 100000 in
theorem S_X11_meeting_99_123 {l : Launch} (hl : l.stackTraces = false) {k48 : PM → Int32 → Int32 → Int32 → Int64 → Int64 → Int32 → Option PR} {k90 : PM → Int32 → Int32 → Int32 → Int64 → Int64 → Int32 → Int32 → Int32 → Option PR} (hk48 : ∀ {M : PM} {x1 : Int32} {x2 : Int32} {x3 : Int32} {x4 : Int64} {x6 : Int64} {x8 : Int32} {r : PR}, k48 M x1 x2 x3 x4 x6 x8 = some r → PW l 3 Y_X11_meeting k_X11_meeting_48 [vR 99, vI x1, vI x2, vI x3, vJ x4, jk, vJ x6, jk, vI x8, jk, jk, jk, jk, jk, jk] [] M r) (hk90 : ∀ {M : PM} {x1 : Int32} {x2 : Int32} {x3 : Int32} {x4 : Int64} {x6 : Int64} {x8 : Int32} {x9 : Int32} {x10 : Int32} {r : PR}, k90 M x1 x2 x3 x4 x6 x8 x9 x10 = some r → PW l 3 Y_X11_meeting k_X11_meeting_90 [vR 99, vI x1, vI x2, vI x3, vJ x4, jk, vJ x6, jk, vI x8, vI x9, vI x10, jk, jk, jk, jk] [] M r) {M : PM} {x1 : Int32} {x2 : Int32} {x3 : Int32} {x4 : Int64} {x6 : Int64} {x8 : Int32} {x9 : Int32} {x10 : Int32} {t1 : Int32} {t2 : Int32} {t3 : Int32} {r : PR} (h : F_X11_meeting_99_123 k48 k90 M x1 x2 x3 x4 x6 x8 x9 x10 t1 t2 t3 = some r) : PW l 3 Y_X11_meeting k_X11_meeting_123 [vR 99, vI x1, vI x2, vI x3, vJ x4, jk, vJ x6, jk, vI x8, vI x9, vI x10, jk, jk, jk, jk] [vI t3, vI t2, vI t1, vR 123] M r := by
  unfold F_X11_meeting_99_123 at h
  refine p_iadd ?_
  refine p_iast gt_123 h (fun h => ?_)
  have h := lt_h h
  refine p_iinc (Nat.le_of_ble_eq_true rfl) rfl (ci_1 _) rfl ?_
  refine p_goto 50 rfl rfl ?_
  exact p_fg (hk90 h) ⟨Or.inr rfl, Or.inr rfl, Or.inr rfl, Or.inr rfl, Or.inr rfl, Or.inl rfl, Or.inr rfl, Or.inl rfl, Or.inr rfl, Or.inr rfl, Or.inr rfl, Or.inl rfl, Or.inl rfl, Or.inl rfl, Or.inl rfl, trivial⟩
set_option maxRecDepth 100000 in
theorem S_X11_meeting_99_90 {l : Launch} (hl : l.stackTraces = false) {k48 : PM → Int32 → Int32 → Int32 → Int64 → Int64 → Int32 → Option PR} (hk48 : ∀ {M : PM} {x1 : Int32} {x2 : Int32} {x3 : Int32} {x4 : Int64} {x6 : Int64} {x8 : Int32} {r : PR}, k48 M x1 x2 x3 x4 x6 x8 = some r → PW l 3 Y_X11_meeting k_X11_meeting_48 [vR 99, vI x1, vI x2, vI x3, vJ x4, jk, vJ x6, jk, vI x8, jk, jk, jk, jk, jk, jk] [] M r) : ∀ (n : Nat) {M : PM} {x1 : Int32} {x2 : Int32} {x3 : Int32} {x4 : Int64} {x6 : Int64} {x8 : Int32} {x9 : Int32} {x10 : Int32} {r : PR}, F_X11_meeting_99_90 k48 n M x1 x2 x3 x4 x6 x8 x9 x10 = some r → PW l 3 Y_X11_meeting k_X11_meeting_90 [vR 99, vI x1, vI x2, vI x3, vJ x4, jk, vJ x6, jk, vI x8, vI x9, vI x10, jk, jk, jk, jk] [] M r := by
  intro n
  induction n with
  | zero => intro M x1 x2 x3 x4 x6 x8 x9 x10 r h; exact nomatch (show (none : Option PR) = some r from h)
  | succ n ih =>
    intro M x1 x2 x3 x4 x6 x8 x9 x10 r h
    rw [F_X11_meeting_99_90] at h
    refine p_iload rfl ?_
    refine p_iload_n rfl ?_
    refine p_icmp_ge h 73 rfl rfl (fun _ h => ?_) (fun _ h => ?_)
    · refine p_iconst cn_0 ?_
      refine p_istore (Nat.le_of_ble_eq_true rfl) rfl ?_
      exact p_fg (S_X11_meeting_99_134 hl hk48 FUEL h) ⟨Or.inr rfl, Or.inr rfl, Or.inr rfl, Or.inr rfl, Or.inr rfl, Or.inl rfl, Or.inr rfl, Or.inl rfl, Or.inr rfl, Or.inr rfl, Or.inr rfl, Or.inl rfl, Or.inl rfl, Or.inl rfl, Or.inl rfl, trivial⟩
    · refine p_aload_n rfl ?_
      refine p_getR fk_X11_86 gt_99 rfl rfl ?_
      refine p_iload rfl ?_
      refine p_iload rfl ?_
      refine p_irem h (fun h => ?_)
      refine p_dup2 rfl rfl ?_
      refine p_iald gt_123 h (fun h => ?_)
      refine p_aload_n rfl ?_
      refine p_iload rfl ?_
      refine p_cI (av := [_, _]) ⟨mok_X11_bitsAt, Or.inl ⟨253, 99, 11, 0, _, rfl, rfl, rfl, gt_99, rfl, ins_X11_bitsAt, Or.inl lk_X11_253⟩⟩ (Nat.le_of_ble_eq_true rfl) (Nat.le_of_ble_eq_true rfl) rfl (fun _ h => pc_X11_bitsAt_99 hl h) h (fun v1366 M1365 h => ?_)
      refine p_iload_n rfl ?_
      refine p_iand ?_
      refine p_if_eq h 68 rfl rfl (fun _ h => ?_) (fun _ h => ?_)
      · refine p_iconst cn_0 ?_
        exact p_fg (S_X11_meeting_99_123 hl hk48 (fun h => ih h) h) ⟨Or.inr rfl, Or.inr rfl, Or.inr rfl, Or.inr rfl, Or.inr rfl, Or.inl rfl, Or.inr rfl, Or.inl rfl, Or.inr rfl, Or.inr rfl, Or.inr rfl, Or.inl rfl, Or.inl rfl, Or.inl rfl, Or.inl rfl, trivial⟩
      · refine p_iconst cn_1 ?_
        refine p_goto 69 rfl rfl ?_
        exact p_fg (S_X11_meeting_99_123 hl hk48 (fun h => ih h) h) ⟨Or.inr rfl, Or.inr rfl, Or.inr rfl, Or.inr rfl, Or.inr rfl, Or.inl rfl, Or.inr rfl, Or.inl rfl, Or.inr rfl, Or.inr rfl, Or.inr rfl, Or.inl rfl, Or.inl rfl, Or.inl rfl, Or.inl rfl, trivial⟩
set_option maxRecDepth 100000 in
theorem S_X11_meeting_99_66 {l : Launch} (hl : l.stackTraces = false) {k48 : PM → Int32 → Int32 → Int32 → Int64 → Int64 → Int32 → Option PR} (hk48 : ∀ {M : PM} {x1 : Int32} {x2 : Int32} {x3 : Int32} {x4 : Int64} {x6 : Int64} {x8 : Int32} {r : PR}, k48 M x1 x2 x3 x4 x6 x8 = some r → PW l 3 Y_X11_meeting k_X11_meeting_48 [vR 99, vI x1, vI x2, vI x3, vJ x4, jk, vJ x6, jk, vI x8, jk, jk, jk, jk, jk, jk] [] M r) : ∀ (n : Nat) {M : PM} {x1 : Int32} {x2 : Int32} {x3 : Int32} {x4 : Int64} {x6 : Int64} {x8 : Int32} {x9 : Int32} {x10 : Int32} {r : PR}, F_X11_meeting_99_66 k48 n M x1 x2 x3 x4 x6 x8 x9 x10 = some r → PW l 3 Y_X11_meeting k_X11_meeting_66 [vR 99, vI x1, vI x2, vI x3, vJ x4, jk, vJ x6, jk, vI x8, vI x9, vI x10, jk, jk, jk, jk] [] M r := by
  intro n
  induction n with
  | zero => intro M x1 x2 x3 x4 x6 x8 x9 x10 r h; exact nomatch (show (none : Option PR) = some r from h)
  | succ n ih =>
    intro M x1 x2 x3 x4 x6 x8 x9 x10 r h
    rw [F_X11_meeting_99_66] at h
    refine p_iload rfl ?_
    refine p_iload rfl ?_
    refine p_icmp_ge h 48 rfl rfl (fun _ h => ?_) (fun _ h => ?_)
    · refine p_iconst cn_0 ?_
      refine p_istore (Nat.le_of_ble_eq_true rfl) rfl ?_
      exact p_fg (S_X11_meeting_99_90 hl hk48 FUEL h) ⟨Or.inr rfl, Or.inr rfl, Or.inr rfl, Or.inr rfl, Or.inr rfl, Or.inl rfl, Or.inr rfl, Or.inl rfl, Or.inr rfl, Or.inr rfl, Or.inr rfl, Or.inl rfl, Or.inl rfl, Or.inl rfl, Or.inl rfl, trivial⟩
    · refine p_aload_n rfl ?_
      refine p_getR fk_X11_86 gt_99 rfl rfl ?_
      refine p_iload rfl ?_
      refine p_iconst cn_0 ?_
      refine p_iast gt_123 h (fun h => ?_)
      have h := lt_h h
      refine p_iinc (Nat.le_of_ble_eq_true rfl) rfl (ci_1 _) rfl ?_
      refine p_goto 38 rfl rfl ?_
      exact p_fg (ih h) ⟨Or.inr rfl, Or.inr rfl, Or.inr rfl, Or.inr rfl, Or.inr rfl, Or.inl rfl, Or.inr rfl, Or.inl rfl, Or.inr rfl, Or.inr rfl, Or.inr rfl, Or.inl rfl, Or.inl rfl, Or.inl rfl, Or.inl rfl, trivial⟩
set_option maxRecDepth 100000 in
theorem S_X11_meeting_99_48 {l : Launch} (hl : l.stackTraces = false) : ∀ (n : Nat) {M : PM} {x1 : Int32} {x2 : Int32} {x3 : Int32} {x4 : Int64} {x6 : Int64} {x8 : Int32} {r : PR}, F_X11_meeting_99_48  n M x1 x2 x3 x4 x6 x8 = some r → PW l 3 Y_X11_meeting k_X11_meeting_48 [vR 99, vI x1, vI x2, vI x3, vJ x4, jk, vJ x6, jk, vI x8, jk, jk, jk, jk, jk, jk] [] M r := by
  intro n
  induction n with
  | zero => intro M x1 x2 x3 x4 x6 x8 r h; exact nomatch (show (none : Option PR) = some r from h)
  | succ n ih =>
    intro M x1 x2 x3 x4 x6 x8 r h
    rw [F_X11_meeting_99_48] at h
    refine p_iload rfl ?_
    refine p_bipush cb_24 ?_
    refine p_icmp_gt h 118 rfl rfl (fun _ h => ?_) (fun _ h => ?_)
    · refine p_iload_n rfl ?_
      exact p_iret rfl h
    · refine p_iload rfl ?_
      refine p_iload_n rfl ?_
      refine p_cI (av := [_, _]) ⟨mok_X11_common, Or.inr ⟨164, rfl, rfl, sta_X11_common, Or.inl lk_X11_164⟩⟩ (Nat.le_of_ble_eq_true rfl) (Nat.le_of_ble_eq_true rfl) rfl (fun _ h => pc_X11_common hl h) h (fun v1369 M1368 h => ?_)
      refine p_istore (Nat.le_of_ble_eq_true rfl) rfl ?_
      refine p_iconst cn_0 ?_
      refine p_istore (Nat.le_of_ble_eq_true rfl) rfl ?_
      exact p_fg (S_X11_meeting_99_66 hl (fun h => ih h) FUEL h) ⟨Or.inr rfl, Or.inr rfl, Or.inr rfl, Or.inr rfl, Or.inr rfl, Or.inl rfl, Or.inr rfl, Or.inl rfl, Or.inr rfl, Or.inr rfl, Or.inr rfl, Or.inl rfl, Or.inl rfl, Or.inl rfl, Or.inl rfl, trivial⟩
set_option maxRecDepth 100000 in
theorem S_X11_meeting_99_19 {l : Launch} (hl : l.stackTraces = false) {M : PM} {x1 : Int32} {t1 : Int32} {r : PR} (h : F_X11_meeting_99_19  M x1 t1 = some r) : PW l 3 Y_X11_meeting k_X11_meeting_19 [vR 99, vI x1, jk, jk, jk, jk, jk, jk, jk, jk, jk, jk, jk, jk, jk] [vI t1, vR 99] M r := by
  unfold F_X11_meeting_99_19 at h
  refine p_iconst cn_1 ?_
  refine p_iconst cn_2 ?_
  refine p_cI (av := [_, _, _, _]) ⟨mok_X11_bad, Or.inl ⟨180, 99, 11, 0, _, rfl, rfl, rfl, gt_99, rfl, ins_X11_bad, Or.inl lk_X11_180⟩⟩ (Nat.le_of_ble_eq_true rfl) (Nat.le_of_ble_eq_true rfl) rfl (fun _ h => pc_X11_bad_99 hl h) h (fun v1371 M1370 h => ?_)
  refine p_if_eq h 17 rfl rfl (fun _ h => ?_) (fun _ h => ?_)
  · refine p_aload_n rfl ?_
    refine p_iload_n rfl ?_
    refine p_cI (av := [_, _]) ⟨mok_X11_turnOf, Or.inl ⟨287, 99, 11, 0, _, rfl, rfl, rfl, gt_99, rfl, ins_X11_turnOf, Or.inl lk_X11_287⟩⟩ (Nat.le_of_ble_eq_true rfl) (Nat.le_of_ble_eq_true rfl) rfl (fun _ h => pc_X11_turnOf_99 hl h) h (fun v1373 M1372 h => ?_)
    refine p_istore_n (Nat.le_of_ble_eq_true rfl) rfl ?_
    refine p_sipush cs_200 ?_
    refine p_istore_n (Nat.le_of_ble_eq_true rfl) rfl ?_
    refine p_lconst cl_0 ?_
    have h := lt_h h
    refine p_lstore (Nat.le_of_ble_eq_true rfl) rfl ?_
    refine p_lconst cl_1 ?_
    have h := lt_h h
    refine p_lstore (Nat.le_of_ble_eq_true rfl) rfl ?_
    refine p_iconst cn_2 ?_
    refine p_istore (Nat.le_of_ble_eq_true rfl) rfl ?_
    exact p_fg (S_X11_meeting_99_48 hl FUEL h) ⟨Or.inr rfl, Or.inr rfl, Or.inr rfl, Or.inr rfl, Or.inr rfl, Or.inl rfl, Or.inr rfl, Or.inl rfl, Or.inr rfl, Or.inl rfl, Or.inl rfl, Or.inl rfl, Or.inl rfl, Or.inl rfl, Or.inl rfl, trivial⟩
  · refine p_iconst cn_0 ?_
    exact p_iret rfl h
set_option maxRecDepth 100000 in
theorem S_X11_meeting_99 {l : Launch} (hl : l.stackTraces = false) {M : PM} {a1 : Int32} {r : PR} (h : F_X11_meeting_99 M a1 = some r) : PW l 3 Y_X11_meeting k_X11_meeting [vR 99, vI a1, jk, jk, jk, jk, jk, jk, jk, jk, jk, jk, jk, jk, jk] [] M r := by
  unfold F_X11_meeting_99 at h
  refine p_aload_n rfl ?_
  refine p_iconst cn_0 ?_
  refine p_putI fk_X11_107 gt_99 rfl ?_
  refine p_aload_n rfl ?_
  refine p_aload_n rfl ?_
  refine p_iload_n rfl ?_
  refine p_cI (av := [_, _]) ⟨mok_X11_areLaws, Or.inl ⟨281, 99, 11, 0, _, rfl, rfl, rfl, gt_99, rfl, ins_X11_areLaws, Or.inl lk_X11_281⟩⟩ (Nat.le_of_ble_eq_true rfl) (Nat.le_of_ble_eq_true rfl) rfl (fun _ h => pc_X11_areLaws_99 hl h) h (fun v1377 M1376 h => ?_)
  refine p_if_ne h 10 rfl rfl (fun _ h => ?_) (fun _ h => ?_)
  · refine p_iconst cn_1 ?_
    refine p_goto 11 rfl rfl ?_
    exact p_fg (S_X11_meeting_99_19 hl h) ⟨Or.inr rfl, Or.inr rfl, Or.inl rfl, Or.inl rfl, Or.inl rfl, Or.inl rfl, Or.inl rfl, Or.inl rfl, Or.inl rfl, Or.inl rfl, Or.inl rfl, Or.inl rfl, Or.inl rfl, Or.inl rfl, Or.inl rfl, trivial⟩
  · refine p_iconst cn_0 ?_
    exact p_fg (S_X11_meeting_99_19 hl h) ⟨Or.inr rfl, Or.inr rfl, Or.inl rfl, Or.inl rfl, Or.inl rfl, Or.inl rfl, Or.inl rfl, Or.inl rfl, Or.inl rfl, Or.inl rfl, Or.inl rfl, Or.inl rfl, Or.inl rfl, Or.inl rfl, Or.inl rfl, trivial⟩
set_option maxRecDepth 100000 in
theorem pc_X11_meeting_99 {l : Launch} (hl : l.stackTraces = false) {M : PM} {a1 : Int32} {r : PR} (h : F_X11_meeting_99 M a1 = some r) : PC l 3 Y_X11_meeting [vR 99, vI a1] M r := pc_of hl (by decide +kernel) cok_X11_meeting (Nat.le_of_ble_eq_true rfl) rfl (S_X11_meeting_99 hl  h) rfl
def F_X11_isCrowd_99_150 (rc : Nat → PM → Int32 → Int32 → Int32 → Int32 → Option PR) (k14 : PM → Int32 → Int32 → Int32 → Int32 → Option PR) (M : PM) (x1 : Int32) (x2 : Int32) (x4 : Int32) (x5 : Int32) : Option PR := lt (x5 + 1) fun y1378 => k14 M x1 x2 x4 y1378
def F_X11_isCrowd_99_123 (rc : Nat → PM → Int32 → Int32 → Int32 → Int32 → Option PR) (k14 : PM → Int32 → Int32 → Int32 → Int32 → Option PR) (M : PM) (x1 : Int32) (x2 : Int32) (x4 : Int32) (x5 : Int32) (x6 : Int32) : Option PR := (if x6 = 0 then F_X11_isCrowd_99_150 rc k14 M x1 x2 x4 x5 else cI (rc 0 M x1 x2 (x5 + 1) (x4 ||| (1 <<< (x5 &&& 31)))) fun v1380 M1379 => (if v1380 = 0 then F_X11_isCrowd_99_150 rc k14 M1379 x1 x2 x4 x5 else (if (1 : Int32) &&& 1 = 1 then some (.inl (some (.int 1)), M1379) else none)))
def F_X11_isCrowd_99_115 (rc : Nat → PM → Int32 → Int32 → Int32 → Int32 → Option PR) (k14 : PM → Int32 → Int32 → Int32 → Int32 → Option PR) (k54 : PM → Int32 → Int32 → Int32 → Int32 → Int32 → Int32 → Option PR) (M : PM) (x1 : Int32) (x2 : Int32) (x4 : Int32) (x5 : Int32) (x7 : Int32) (t0 : Int32) : Option PR := lt (x7 + 1) fun y1381 => k54 M x1 x2 x4 x5 t0 y1381
def F_X11_isCrowd_99_110 (rc : Nat → PM → Int32 → Int32 → Int32 → Int32 → Option PR) (k14 : PM → Int32 → Int32 → Int32 → Int32 → Option PR) (k54 : PM → Int32 → Int32 → Int32 → Int32 → Int32 → Int32 → Option PR) (M : PM) (x1 : Int32) (x2 : Int32) (x4 : Int32) (x5 : Int32) (x7 : Int32) : Option PR := F_X11_isCrowd_99_115 rc k14 k54 M x1 x2 x4 x5 x7 1
def F_X11_isCrowd_99_54 (rc : Nat → PM → Int32 → Int32 → Int32 → Int32 → Option PR) (k14 : PM → Int32 → Int32 → Int32 → Int32 → Option PR) : Nat → PM → Int32 → Int32 → Int32 → Int32 → Int32 → Int32 → Option PR
  | 0, _, _, _, _, _, _, _ => none
  | n + 1, M, x1, x2, x4, x5, x6, x7 => (if x5 ≤ x7 then F_X11_isCrowd_99_123 rc k14 M x1 x2 x4 x5 x6 else (if x6 = 0 then F_X11_isCrowd_99_123 rc k14 M x1 x2 x4 x5 x6 else (if (x4 >>> (x7 &&& 31)) &&& 1 = 0 then F_X11_isCrowd_99_110 rc k14 (F_X11_isCrowd_99_54 rc k14 n) M x1 x2 x4 x5 x7 else if ixOK x5 6 = true then if ixOK x5 6 = true then if ixOK x7 6 = true then if ixOK x7 6 = true then cI (F_X11_canBe M (mA M 124 x5.toNatClampNeg) (mA M 125 x5.toNatClampNeg) (mA M 124 x7.toNatClampNeg) (mA M 125 x7.toNatClampNeg)) fun v1383 M1382 => (if v1383 = 0 then F_X11_isCrowd_99_115 rc k14 (F_X11_isCrowd_99_54 rc k14 n) M1382 x1 x2 x4 x5 x7 0 else F_X11_isCrowd_99_110 rc k14 (F_X11_isCrowd_99_54 rc k14 n) M1382 x1 x2 x4 x5 x7) else none else none else none else none)))
def F_X11_isCrowd_99_14 (rc : Nat → PM → Int32 → Int32 → Int32 → Int32 → Option PR) : Nat → PM → Int32 → Int32 → Int32 → Int32 → Option PR
  | 0, _, _, _, _, _ => none
  | n + 1, M, x1, x2, x4, x5 => (if x1 ≤ x5 then (if (0 : Int32) &&& 1 = 0 then some (.inl (some (.int 0)), M) else none) else if ixOK x5 6 = true then if ixOK x5 6 = true then if ixOK x1 6 = true then if ixOK x1 6 = true then cI (F_X11_canBe M (mA M 124 x5.toNatClampNeg) (mA M 125 x5.toNatClampNeg) (mA M 124 x1.toNatClampNeg) (mA M 125 x1.toNatClampNeg)) fun v1385 M1384 => F_X11_isCrowd_99_54 rc (F_X11_isCrowd_99_14 rc n) FUEL M1384 x1 x2 x4 x5 v1385 0 else none else none else none else none)
def F_X11_isCrowd_99 (rc : Nat → PM → Int32 → Int32 → Int32 → Int32 → Option PR) (M : PM) (a1 : Int32) (a2 : Int32) (a3 : Int32) (a4 : Int32) : Option PR := cI (F_X11_ones M a4) fun v1387 M1386 => (if v1387 ≤ a2 then F_X11_isCrowd_99_14 rc FUEL M1386 a1 a2 a4 a3 else (if (1 : Int32) &&& 1 = 1 then some (.inl (some (.int 1)), M1386) else none))
set_option maxRecDepth 100000 in
theorem S_X11_isCrowd_99_150 {l : Launch} (hl : l.stackTraces = false) {rc : Nat → PM → Int32 → Int32 → Int32 → Int32 → Option PR} {gn : Nat} (hg : 2 ≤ gn) (hr0 : ∀ {M : PM} {a1 : Int32} {a2 : Int32} {a3 : Int32} {a4 : Int32} {r : PR}, rc 0 M a1 a2 a3 a4 = some r → PC l gn Y_X11_isCrowd [vR 99, vI a1, vI a2, vI a3, vI a4] M r) {k14 : PM → Int32 → Int32 → Int32 → Int32 → Option PR} (hk14 : ∀ {M : PM} {x1 : Int32} {x2 : Int32} {x4 : Int32} {x5 : Int32} {r : PR}, k14 M x1 x2 x4 x5 = some r → PW l (gn + 1) Y_X11_isCrowd k_X11_isCrowd_14 [vR 99, vI x1, vI x2, jk, vI x4, vI x5, jk, jk] [] M r) {M : PM} {x1 : Int32} {x2 : Int32} {x4 : Int32} {x5 : Int32} {r : PR} (h : F_X11_isCrowd_99_150 rc k14 M x1 x2 x4 x5 = some r) : PW l (gn + 1) Y_X11_isCrowd k_X11_isCrowd_150 [vR 99, vI x1, vI x2, jk, vI x4, vI x5, jk, jk] [] M r := by
  unfold F_X11_isCrowd_99_150 at h
  have h := lt_h h
  refine p_iinc (Nat.le_of_ble_eq_true rfl) rfl (ci_1 _) rfl ?_
  refine p_goto 8 rfl rfl ?_
  exact p_fg (hk14 h) ⟨Or.inr rfl, Or.inr rfl, Or.inr rfl, Or.inl rfl, Or.inr rfl, Or.inr rfl, Or.inl rfl, Or.inl rfl, trivial⟩
set_option maxRecDepth 100000 in
theorem S_X11_isCrowd_99_123 {l : Launch} (hl : l.stackTraces = false) {rc : Nat → PM → Int32 → Int32 → Int32 → Int32 → Option PR} {gn : Nat} (hg : 2 ≤ gn) (hr0 : ∀ {M : PM} {a1 : Int32} {a2 : Int32} {a3 : Int32} {a4 : Int32} {r : PR}, rc 0 M a1 a2 a3 a4 = some r → PC l gn Y_X11_isCrowd [vR 99, vI a1, vI a2, vI a3, vI a4] M r) {k14 : PM → Int32 → Int32 → Int32 → Int32 → Option PR} (hk14 : ∀ {M : PM} {x1 : Int32} {x2 : Int32} {x4 : Int32} {x5 : Int32} {r : PR}, k14 M x1 x2 x4 x5 = some r → PW l (gn + 1) Y_X11_isCrowd k_X11_isCrowd_14 [vR 99, vI x1, vI x2, jk, vI x4, vI x5, jk, jk] [] M r) {M : PM} {x1 : Int32} {x2 : Int32} {x4 : Int32} {x5 : Int32} {x6 : Int32} {r : PR} (h : F_X11_isCrowd_99_123 rc k14 M x1 x2 x4 x5 x6 = some r) : PW l (gn + 1) Y_X11_isCrowd k_X11_isCrowd_123 [vR 99, vI x1, vI x2, jk, vI x4, vI x5, vI x6, jk] [] M r := by
  unfold F_X11_isCrowd_99_123 at h
  refine p_iload rfl ?_
  refine p_if_eq h 83 rfl rfl (fun _ h => ?_) (fun _ h => ?_)
  · exact p_fg (S_X11_isCrowd_99_150 hl hg hr0 hk14 h) ⟨Or.inr rfl, Or.inr rfl, Or.inr rfl, Or.inl rfl, Or.inr rfl, Or.inr rfl, Or.inl rfl, Or.inl rfl, trivial⟩
  · refine p_aload_n rfl ?_
    refine p_iload_n rfl ?_
    refine p_iload_n rfl ?_
    refine p_iload rfl ?_
    refine p_iconst cn_1 ?_
    refine p_iadd ?_
    refine p_iload rfl ?_
    refine p_iconst cn_1 ?_
    refine p_iload rfl ?_
    refine p_ishl ?_
    refine p_ior ?_
    refine p_cI (av := [_, _, _, _, _]) ⟨mok_X11_isCrowd, Or.inl ⟨290, 99, 11, 0, _, rfl, rfl, rfl, gt_99, rfl, ins_X11_isCrowd, Or.inl lk_X11_290⟩⟩ (Nat.le_refl _) (Nat.le_of_ble_eq_true rfl) rfl (fun _ h => hr0 h) h (fun v1380 M1379 h => ?_)
    refine p_if_eq h 83 rfl rfl (fun _ h => ?_) (fun _ h => ?_)
    · exact p_fg (S_X11_isCrowd_99_150 hl hg hr0 hk14 h) ⟨Or.inr rfl, Or.inr rfl, Or.inr rfl, Or.inl rfl, Or.inr rfl, Or.inr rfl, Or.inl rfl, Or.inl rfl, trivial⟩
    · refine p_iconst cn_1 ?_
      exact p_zret rfl h
set_option maxRecDepth 100000 in
theorem S_X11_isCrowd_99_115 {l : Launch} (hl : l.stackTraces = false) {rc : Nat → PM → Int32 → Int32 → Int32 → Int32 → Option PR} {gn : Nat} (hg : 2 ≤ gn) (hr0 : ∀ {M : PM} {a1 : Int32} {a2 : Int32} {a3 : Int32} {a4 : Int32} {r : PR}, rc 0 M a1 a2 a3 a4 = some r → PC l gn Y_X11_isCrowd [vR 99, vI a1, vI a2, vI a3, vI a4] M r) {k14 : PM → Int32 → Int32 → Int32 → Int32 → Option PR} {k54 : PM → Int32 → Int32 → Int32 → Int32 → Int32 → Int32 → Option PR} (hk14 : ∀ {M : PM} {x1 : Int32} {x2 : Int32} {x4 : Int32} {x5 : Int32} {r : PR}, k14 M x1 x2 x4 x5 = some r → PW l (gn + 1) Y_X11_isCrowd k_X11_isCrowd_14 [vR 99, vI x1, vI x2, jk, vI x4, vI x5, jk, jk] [] M r) (hk54 : ∀ {M : PM} {x1 : Int32} {x2 : Int32} {x4 : Int32} {x5 : Int32} {x6 : Int32} {x7 : Int32} {r : PR}, k54 M x1 x2 x4 x5 x6 x7 = some r → PW l (gn + 1) Y_X11_isCrowd k_X11_isCrowd_54 [vR 99, vI x1, vI x2, jk, vI x4, vI x5, vI x6, vI x7] [] M r) {M : PM} {x1 : Int32} {x2 : Int32} {x4 : Int32} {x5 : Int32} {x7 : Int32} {t0 : Int32} {r : PR} (h : F_X11_isCrowd_99_115 rc k14 k54 M x1 x2 x4 x5 x7 t0 = some r) : PW l (gn + 1) Y_X11_isCrowd k_X11_isCrowd_115 [vR 99, vI x1, vI x2, jk, vI x4, vI x5, jk, vI x7] [vI t0] M r := by
  unfold F_X11_isCrowd_99_115 at h
  refine p_istore (Nat.le_of_ble_eq_true rfl) rfl ?_
  have h := lt_h h
  refine p_iinc (Nat.le_of_ble_eq_true rfl) rfl (ci_1 _) rfl ?_
  refine p_goto 31 rfl rfl ?_
  exact p_fg (hk54 h) ⟨Or.inr rfl, Or.inr rfl, Or.inr rfl, Or.inl rfl, Or.inr rfl, Or.inr rfl, Or.inr rfl, Or.inr rfl, trivial⟩
set_option maxRecDepth 100000 in
theorem S_X11_isCrowd_99_110 {l : Launch} (hl : l.stackTraces = false) {rc : Nat → PM → Int32 → Int32 → Int32 → Int32 → Option PR} {gn : Nat} (hg : 2 ≤ gn) (hr0 : ∀ {M : PM} {a1 : Int32} {a2 : Int32} {a3 : Int32} {a4 : Int32} {r : PR}, rc 0 M a1 a2 a3 a4 = some r → PC l gn Y_X11_isCrowd [vR 99, vI a1, vI a2, vI a3, vI a4] M r) {k14 : PM → Int32 → Int32 → Int32 → Int32 → Option PR} {k54 : PM → Int32 → Int32 → Int32 → Int32 → Int32 → Int32 → Option PR} (hk14 : ∀ {M : PM} {x1 : Int32} {x2 : Int32} {x4 : Int32} {x5 : Int32} {r : PR}, k14 M x1 x2 x4 x5 = some r → PW l (gn + 1) Y_X11_isCrowd k_X11_isCrowd_14 [vR 99, vI x1, vI x2, jk, vI x4, vI x5, jk, jk] [] M r) (hk54 : ∀ {M : PM} {x1 : Int32} {x2 : Int32} {x4 : Int32} {x5 : Int32} {x6 : Int32} {x7 : Int32} {r : PR}, k54 M x1 x2 x4 x5 x6 x7 = some r → PW l (gn + 1) Y_X11_isCrowd k_X11_isCrowd_54 [vR 99, vI x1, vI x2, jk, vI x4, vI x5, vI x6, vI x7] [] M r) {M : PM} {x1 : Int32} {x2 : Int32} {x4 : Int32} {x5 : Int32} {x7 : Int32} {r : PR} (h : F_X11_isCrowd_99_110 rc k14 k54 M x1 x2 x4 x5 x7 = some r) : PW l (gn + 1) Y_X11_isCrowd k_X11_isCrowd_110 [vR 99, vI x1, vI x2, jk, vI x4, vI x5, jk, vI x7] [] M r := by
  unfold F_X11_isCrowd_99_110 at h
  refine p_iconst cn_1 ?_
  refine p_goto 63 rfl rfl ?_
  exact p_fg (S_X11_isCrowd_99_115 hl hg hr0 hk14 hk54 h) ⟨Or.inr rfl, Or.inr rfl, Or.inr rfl, Or.inl rfl, Or.inr rfl, Or.inr rfl, Or.inl rfl, Or.inr rfl, trivial⟩
set_option maxRecDepth 100000 in
theorem S_X11_isCrowd_99_54 {l : Launch} (hl : l.stackTraces = false) {rc : Nat → PM → Int32 → Int32 → Int32 → Int32 → Option PR} {gn : Nat} (hg : 2 ≤ gn) (hr0 : ∀ {M : PM} {a1 : Int32} {a2 : Int32} {a3 : Int32} {a4 : Int32} {r : PR}, rc 0 M a1 a2 a3 a4 = some r → PC l gn Y_X11_isCrowd [vR 99, vI a1, vI a2, vI a3, vI a4] M r) {k14 : PM → Int32 → Int32 → Int32 → Int32 → Option PR} (hk14 : ∀ {M : PM} {x1 : Int32} {x2 : Int32} {x4 : Int32} {x5 : Int32} {r : PR}, k14 M x1 x2 x4 x5 = some r → PW l (gn + 1) Y_X11_isCrowd k_X11_isCrowd_14 [vR 99, vI x1, vI x2, jk, vI x4, vI x5, jk, jk] [] M r) : ∀ (n : Nat) {M : PM} {x1 : Int32} {x2 : Int32} {x4 : Int32} {x5 : Int32} {x6 : Int32} {x7 : Int32} {r : PR}, F_X11_isCrowd_99_54 rc k14 n M x1 x2 x4 x5 x6 x7 = some r → PW l (gn + 1) Y_X11_isCrowd k_X11_isCrowd_54 [vR 99, vI x1, vI x2, jk, vI x4, vI x5, vI x6, vI x7] [] M r := by
  intro n
  induction n with
  | zero => intro M x1 x2 x4 x5 x6 x7 r h; exact nomatch (show (none : Option PR) = some r from h)
  | succ n ih =>
    intro M x1 x2 x4 x5 x6 x7 r h
    rw [F_X11_isCrowd_99_54] at h
    refine p_iload rfl ?_
    refine p_iload rfl ?_
    refine p_icmp_ge h 66 rfl rfl (fun _ h => ?_) (fun _ h => ?_)
    · exact p_fg (S_X11_isCrowd_99_123 hl hg hr0 hk14 h) ⟨Or.inr rfl, Or.inr rfl, Or.inr rfl, Or.inl rfl, Or.inr rfl, Or.inr rfl, Or.inr rfl, Or.inl rfl, trivial⟩
    · refine p_iload rfl ?_
      refine p_if_eq h 66 rfl rfl (fun _ h => ?_) (fun _ h => ?_)
      · exact p_fg (S_X11_isCrowd_99_123 hl hg hr0 hk14 h) ⟨Or.inr rfl, Or.inr rfl, Or.inr rfl, Or.inl rfl, Or.inr rfl, Or.inr rfl, Or.inr rfl, Or.inl rfl, trivial⟩
      · refine p_iload rfl ?_
        refine p_iload rfl ?_
        refine p_ishr ?_
        refine p_iconst cn_1 ?_
        refine p_iand ?_
        refine p_if_eq h 60 rfl rfl (fun _ h => ?_) (fun _ h => ?_)
        · exact p_fg (S_X11_isCrowd_99_110 hl hg hr0 hk14 (fun h => ih h) h) ⟨Or.inr rfl, Or.inr rfl, Or.inr rfl, Or.inl rfl, Or.inr rfl, Or.inr rfl, Or.inl rfl, Or.inr rfl, trivial⟩
        · refine p_aload_n rfl ?_
          refine p_getR fk_X11_89 gt_99 rfl rfl ?_
          refine p_iload rfl ?_
          refine p_iald gt_124 h (fun h => ?_)
          refine p_aload_n rfl ?_
          refine p_getR fk_X11_92 gt_99 rfl rfl ?_
          refine p_iload rfl ?_
          refine p_iald gt_125 h (fun h => ?_)
          refine p_aload_n rfl ?_
          refine p_getR fk_X11_89 gt_99 rfl rfl ?_
          refine p_iload rfl ?_
          refine p_iald gt_124 h (fun h => ?_)
          refine p_aload_n rfl ?_
          refine p_getR fk_X11_92 gt_99 rfl rfl ?_
          refine p_iload rfl ?_
          refine p_iald gt_125 h (fun h => ?_)
          refine p_cI (av := [_, _, _, _]) ⟨mok_X11_canBe, Or.inr ⟨274, rfl, rfl, sta_X11_canBe, Or.inl lk_X11_274⟩⟩ (by omega) (Nat.le_of_ble_eq_true rfl) rfl (fun _ h => pc_X11_canBe hl h) h (fun v1383 M1382 h => ?_)
          refine p_if_eq h 62 rfl rfl (fun _ h => ?_) (fun _ h => ?_)
          · refine p_iconst cn_0 ?_
            exact p_fg (S_X11_isCrowd_99_115 hl hg hr0 hk14 (fun h => ih h) h) ⟨Or.inr rfl, Or.inr rfl, Or.inr rfl, Or.inl rfl, Or.inr rfl, Or.inr rfl, Or.inl rfl, Or.inr rfl, trivial⟩
          · exact p_fg (S_X11_isCrowd_99_110 hl hg hr0 hk14 (fun h => ih h) h) ⟨Or.inr rfl, Or.inr rfl, Or.inr rfl, Or.inl rfl, Or.inr rfl, Or.inr rfl, Or.inl rfl, Or.inr rfl, trivial⟩
set_option maxRecDepth 100000 in
theorem S_X11_isCrowd_99_14 {l : Launch} (hl : l.stackTraces = false) {rc : Nat → PM → Int32 → Int32 → Int32 → Int32 → Option PR} {gn : Nat} (hg : 2 ≤ gn) (hr0 : ∀ {M : PM} {a1 : Int32} {a2 : Int32} {a3 : Int32} {a4 : Int32} {r : PR}, rc 0 M a1 a2 a3 a4 = some r → PC l gn Y_X11_isCrowd [vR 99, vI a1, vI a2, vI a3, vI a4] M r) : ∀ (n : Nat) {M : PM} {x1 : Int32} {x2 : Int32} {x4 : Int32} {x5 : Int32} {r : PR}, F_X11_isCrowd_99_14 rc n M x1 x2 x4 x5 = some r → PW l (gn + 1) Y_X11_isCrowd k_X11_isCrowd_14 [vR 99, vI x1, vI x2, jk, vI x4, vI x5, jk, jk] [] M r := by
  intro n
  induction n with
  | zero => intro M x1 x2 x4 x5 r h; exact nomatch (show (none : Option PR) = some r from h)
  | succ n ih =>
    intro M x1 x2 x4 x5 r h
    rw [F_X11_isCrowd_99_14] at h
    refine p_iload rfl ?_
    refine p_iload_n rfl ?_
    refine p_icmp_ge h 85 rfl rfl (fun _ h => ?_) (fun _ h => ?_)
    · refine p_iconst cn_0 ?_
      exact p_zret rfl h
    · refine p_aload_n rfl ?_
      refine p_getR fk_X11_89 gt_99 rfl rfl ?_
      refine p_iload rfl ?_
      refine p_iald gt_124 h (fun h => ?_)
      refine p_aload_n rfl ?_
      refine p_getR fk_X11_92 gt_99 rfl rfl ?_
      refine p_iload rfl ?_
      refine p_iald gt_125 h (fun h => ?_)
      refine p_aload_n rfl ?_
      refine p_getR fk_X11_89 gt_99 rfl rfl ?_
      refine p_iload_n rfl ?_
      refine p_iald gt_124 h (fun h => ?_)
      refine p_aload_n rfl ?_
      refine p_getR fk_X11_92 gt_99 rfl rfl ?_
      refine p_iload_n rfl ?_
      refine p_iald gt_125 h (fun h => ?_)
      refine p_cI (av := [_, _, _, _]) ⟨mok_X11_canBe, Or.inr ⟨274, rfl, rfl, sta_X11_canBe, Or.inl lk_X11_274⟩⟩ (by omega) (Nat.le_of_ble_eq_true rfl) rfl (fun _ h => pc_X11_canBe hl h) h (fun v1385 M1384 h => ?_)
      refine p_istore (Nat.le_of_ble_eq_true rfl) rfl ?_
      refine p_iconst cn_0 ?_
      refine p_istore (Nat.le_of_ble_eq_true rfl) rfl ?_
      exact p_fg (S_X11_isCrowd_99_54 hl hg hr0 (fun h => ih h) FUEL h) ⟨Or.inr rfl, Or.inr rfl, Or.inr rfl, Or.inl rfl, Or.inr rfl, Or.inr rfl, Or.inr rfl, Or.inr rfl, trivial⟩
set_option maxRecDepth 100000 in
theorem S_X11_isCrowd_99 {l : Launch} (hl : l.stackTraces = false) {rc : Nat → PM → Int32 → Int32 → Int32 → Int32 → Option PR} {gn : Nat} (hg : 2 ≤ gn) (hr0 : ∀ {M : PM} {a1 : Int32} {a2 : Int32} {a3 : Int32} {a4 : Int32} {r : PR}, rc 0 M a1 a2 a3 a4 = some r → PC l gn Y_X11_isCrowd [vR 99, vI a1, vI a2, vI a3, vI a4] M r) {M : PM} {a1 : Int32} {a2 : Int32} {a3 : Int32} {a4 : Int32} {r : PR} (h : F_X11_isCrowd_99 rc M a1 a2 a3 a4 = some r) : PW l (gn + 1) Y_X11_isCrowd k_X11_isCrowd [vR 99, vI a1, vI a2, vI a3, vI a4, jk, jk, jk] [] M r := by
  unfold F_X11_isCrowd_99 at h
  refine p_iload rfl ?_
  refine p_cI (av := [_]) ⟨mok_X11_ones, Or.inr ⟨262, rfl, rfl, sta_X11_ones, Or.inl lk_X11_262⟩⟩ (by omega) (Nat.le_of_ble_eq_true rfl) rfl (fun _ h => pc_X11_ones hl h) h (fun v1387 M1386 h => ?_)
  refine p_iload_n rfl ?_
  refine p_icmp_le h 6 rfl rfl (fun _ h => ?_) (fun _ h => ?_)
  · refine p_iload_n rfl ?_
    refine p_istore (Nat.le_of_ble_eq_true rfl) rfl ?_
    exact p_fg (S_X11_isCrowd_99_14 hl hg hr0 FUEL h) ⟨Or.inr rfl, Or.inr rfl, Or.inr rfl, Or.inl rfl, Or.inr rfl, Or.inr rfl, Or.inl rfl, Or.inl rfl, trivial⟩
  · refine p_iconst cn_1 ?_
    exact p_zret rfl h
set_option maxRecDepth 100000 in
theorem pc_X11_isCrowd_99 {l : Launch} (hl : l.stackTraces = false) {rc : Nat → PM → Int32 → Int32 → Int32 → Int32 → Option PR} {gn : Nat} (hg : 2 ≤ gn) (hr0 : ∀ {M : PM} {a1 : Int32} {a2 : Int32} {a3 : Int32} {a4 : Int32} {r : PR}, rc 0 M a1 a2 a3 a4 = some r → PC l gn Y_X11_isCrowd [vR 99, vI a1, vI a2, vI a3, vI a4] M r) {M : PM} {a1 : Int32} {a2 : Int32} {a3 : Int32} {a4 : Int32} {r : PR} (h : F_X11_isCrowd_99 rc M a1 a2 a3 a4 = some r) : PC l (gn + 1) Y_X11_isCrowd [vR 99, vI a1, vI a2, vI a3, vI a4] M r := pc_of hl (by decide +kernel) cok_X11_isCrowd (Nat.le_of_ble_eq_true rfl) rfl (S_X11_isCrowd_99 hl hg hr0 h) rfl
