def F_X10_needHouse_0 (M : PM) (a1 : Int32) : Option PR := (if a1 < 0 then bV (F_X10_needElement_0 M 0) fun M273 => some (.inl none, M273) else (if mI M 3 4 ≤ a1 then bV (F_X10_needElement_0 M 0) fun M274 => some (.inl none, M274) else bV (F_X10_needElement_0 M 1) fun M275 => some (.inl none, M275)))
set_option maxRecDepth 100000 in
theorem S_X10_needHouse_0 {l : Launch} (hl : l.stackTraces = false) {M : PM} {a1 : Int32} {r : PR} (h : F_X10_needHouse_0 M a1 = some r) : PW l 7 Y_X10_needHouse k_X10_needHouse [vR 0, vI a1] [] M r := by
  unfold F_X10_needHouse_0 at h
  refine p_aload_n rfl ?_
  refine p_iload_n rfl ?_
  refine p_if_lt h 10 rfl rfl (fun _ h => ?_) (fun _ h => ?_)
  · refine p_iconst cn_0 ?_
    refine p_bV mok_X10_needElement rfl gt_0 rfl ins_X10_needElement lk_X10_381 (Nat.le_of_ble_eq_true rfl) (Nat.le_of_ble_eq_true rfl) rfl (fun _ h => pc_X10_needElement_0 hl h) h (fun M273 h => ?_)
    exact p_ret rfl h
  · refine p_iload_n rfl ?_
    refine p_aload_n rfl ?_
    refine p_getR fk_X10_27 gt_0 rfl rfl ?_
    refine p_getI fk_X10_143 gt_3 rfl ?_
    refine p_icmp_ge h 10 rfl rfl (fun _ h => ?_) (fun _ h => ?_)
    · refine p_iconst cn_0 ?_
      refine p_bV mok_X10_needElement rfl gt_0 rfl ins_X10_needElement lk_X10_381 (Nat.le_of_ble_eq_true rfl) (Nat.le_of_ble_eq_true rfl) rfl (fun _ h => pc_X10_needElement_0 hl h) h (fun M274 h => ?_)
      exact p_ret rfl h
    · refine p_iconst cn_1 ?_
      refine p_goto 11 rfl rfl ?_
      refine p_bV mok_X10_needElement rfl gt_0 rfl ins_X10_needElement lk_X10_381 (Nat.le_of_ble_eq_true rfl) (Nat.le_of_ble_eq_true rfl) rfl (fun _ h => pc_X10_needElement_0 hl h) h (fun M275 h => ?_)
      exact p_ret rfl h
set_option maxRecDepth 100000 in
theorem pc_X10_needHouse_0 {l : Launch} (hl : l.stackTraces = false) {M : PM} {a1 : Int32} {r : PR} (h : F_X10_needHouse_0 M a1 = some r) : PC l 7 Y_X10_needHouse [vR 0, vI a1] M r := pc_of hl (by decide +kernel) cok_X10_needHouse (Nat.le_of_ble_eq_true rfl) rfl (S_X10_needHouse_0 hl  h) rfl
def F_X3_isWheel_16 (M : PM) (a1 : Int32) (a2 : Int32) : Option PR := (if a1 < 0 then (if (0 : Int32) &&& 1 = 0 then some (.inl (some (.int 0)), M) else none) else (if 10 ≤ a1 then (if (0 : Int32) &&& 1 = 0 then some (.inl (some (.int 0)), M) else none) else (if a2 < 0 then (if (0 : Int32) &&& 1 = 0 then some (.inl (some (.int 0)), M) else none) else (if 12 ≤ a2 then (if (0 : Int32) &&& 1 = 0 then some (.inl (some (.int 0)), M) else none) else (if (1 : Int32) &&& 1 = 1 then some (.inl (some (.int 1)), M) else none)))))
set_option maxRecDepth 100000 in
theorem S_X3_isWheel_16 {l : Launch} (hl : l.stackTraces = false) {M : PM} {a1 : Int32} {a2 : Int32} {r : PR} (h : F_X3_isWheel_16 M a1 a2 = some r) : PW l 0 Y_X3_isWheel k_X3_isWheel [vR 16, vI a1, vI a2] [] M r := by
  unfold F_X3_isWheel_16 at h
  refine p_iload_n rfl ?_
  refine p_if_lt h 12 rfl rfl (fun _ h => ?_) (fun _ h => ?_)
  · refine p_iconst cn_0 ?_
    exact p_zret rfl h
  · refine p_iload_n rfl ?_
    refine p_bipush cb_10 ?_
    refine p_icmp_ge h 12 rfl rfl (fun _ h => ?_) (fun _ h => ?_)
    · refine p_iconst cn_0 ?_
      exact p_zret rfl h
    · refine p_iload_n rfl ?_
      refine p_if_lt h 12 rfl rfl (fun _ h => ?_) (fun _ h => ?_)
      · refine p_iconst cn_0 ?_
        exact p_zret rfl h
      · refine p_iload_n rfl ?_
        refine p_bipush cb_12 ?_
        refine p_icmp_ge h 12 rfl rfl (fun _ h => ?_) (fun _ h => ?_)
        · refine p_iconst cn_0 ?_
          exact p_zret rfl h
        · refine p_iconst cn_1 ?_
          refine p_goto 13 rfl rfl ?_
          exact p_zret rfl h
set_option maxRecDepth 100000 in
theorem pc_X3_isWheel_16 {l : Launch} (hl : l.stackTraces = false) {M : PM} {a1 : Int32} {a2 : Int32} {r : PR} (h : F_X3_isWheel_16 M a1 a2 = some r) : PC l 0 Y_X3_isWheel [vR 16, vI a1, vI a2] M r := pc_of hl (by decide +kernel) cok_X3_isWheel (Nat.le_of_ble_eq_true rfl) rfl (S_X3_isWheel_16 hl  h) rfl
def F_X3_aheadOf_16 (M : PM) (a1 : Int32) (a2 : Int32) : Option PR := cI (F_X3_isWheel_16 M a1 a2) fun v277 M276 => (if v277 = 0 then some (.inl (some (.int 0)), M276) else if ixOK ((a1 * 12) + a2) 120 = true then some (.inl (some (.int (mA M276 17 ((a1 * 12) + a2).toNatClampNeg))), M276) else none)
set_option maxRecDepth 100000 in
theorem S_X3_aheadOf_16 {l : Launch} (hl : l.stackTraces = false) {M : PM} {a1 : Int32} {a2 : Int32} {r : PR} (h : F_X3_aheadOf_16 M a1 a2 = some r) : PW l 1 Y_X3_aheadOf k_X3_aheadOf [vR 16, vI a1, vI a2] [] M r := by
  unfold F_X3_aheadOf_16 at h
  refine p_aload_n rfl ?_
  refine p_iload_n rfl ?_
  refine p_iload_n rfl ?_
  refine p_cI (av := [_, _, _]) ⟨mok_X3_isWheel, Or.inl ⟨62, 16, 3, 0, _, rfl, rfl, rfl, gt_16, rfl, ins_X3_isWheel, Or.inl lk_X3_62⟩⟩ (Nat.le_of_ble_eq_true rfl) (Nat.le_of_ble_eq_true rfl) rfl (fun _ h => pc_X3_isWheel_16 hl h) h (fun v277 M276 h => ?_)
  refine p_if_eq h 14 rfl rfl (fun _ h => ?_) (fun _ h => ?_)
  · refine p_iconst cn_0 ?_
    exact p_iret rfl h
  · refine p_aload_n rfl ?_
    refine p_getR fk_X3_9 gt_16 rfl rfl ?_
    refine p_iload_n rfl ?_
    refine p_bipush cb_12 ?_
    refine p_imul ?_
    refine p_iload_n rfl ?_
    refine p_iadd ?_
    refine p_iald gt_17 h (fun h => ?_)
    refine p_goto 15 rfl rfl ?_
    exact p_iret rfl h
set_option maxRecDepth 100000 in
theorem pc_X3_aheadOf_16 {l : Launch} (hl : l.stackTraces = false) {M : PM} {a1 : Int32} {a2 : Int32} {r : PR} (h : F_X3_aheadOf_16 M a1 a2 = some r) : PC l 1 Y_X3_aheadOf [vR 16, vI a1, vI a2] M r := pc_of hl (by decide +kernel) cok_X3_aheadOf (Nat.le_of_ble_eq_true rfl) rfl (S_X3_aheadOf_16 hl  h) rfl
def F_X10_slip_0 (M : PM) (a1 : Int32) (a2 : Int32) : Option PR := bV (F_X10_needHouse_0 M a1) fun M278 => bV (F_X10_needLaw_0 M278 a2) fun M279 => cI (F_X3_aheadOf_16 M279 a1 a2) fun v281 M280 => some (.inl (some (.int v281)), M280)
set_option maxRecDepth 100000 in
theorem S_X10_slip_0 {l : Launch} (hl : l.stackTraces = false) {M : PM} {a1 : Int32} {a2 : Int32} {r : PR} (h : F_X10_slip_0 M a1 a2 = some r) : PW l 8 Y_X10_slip k_X10_slip [vR 0, vI a1, vI a2] [] M r := by
  unfold F_X10_slip_0 at h
  refine p_aload_n rfl ?_
  refine p_iload_n rfl ?_
  refine p_bV mok_X10_needHouse rfl gt_0 rfl ins_X10_needHouse lk_X10_168 (Nat.le_of_ble_eq_true rfl) (Nat.le_of_ble_eq_true rfl) rfl (fun _ h => pc_X10_needHouse_0 hl h) h (fun M278 h => ?_)
  refine p_aload_n rfl ?_
  refine p_iload_n rfl ?_
  refine p_bV mok_X10_needLaw rfl gt_0 rfl ins_X10_needLaw lk_X10_155 (Nat.le_of_ble_eq_true rfl) (Nat.le_of_ble_eq_true rfl) rfl (fun _ h => pc_X10_needLaw_0 hl h) h (fun M279 h => ?_)
  refine p_aload_n rfl ?_
  refine p_getR fk_X10_34 gt_0 rfl rfl ?_
  refine p_iload_n rfl ?_
  refine p_iload_n rfl ?_
  refine p_cI (av := [_, _, _]) ⟨mok_X3_aheadOf, Or.inl ⟨171, 16, 3, 0, _, rfl, rfl, rfl, gt_16, rfl, ins_X3_aheadOf, Or.inr lk_X10_171⟩⟩ (Nat.le_of_ble_eq_true rfl) (Nat.le_of_ble_eq_true rfl) rfl (fun _ h => pc_X3_aheadOf_16 hl h) h (fun v281 M280 h => ?_)
  exact p_iret rfl h
set_option maxRecDepth 100000 in
theorem pc_X10_slip_0 {l : Launch} (hl : l.stackTraces = false) {M : PM} {a1 : Int32} {a2 : Int32} {r : PR} (h : F_X10_slip_0 M a1 a2 = some r) : PC l 8 Y_X10_slip [vR 0, vI a1, vI a2] M r := pc_of hl (by decide +kernel) cok_X10_slip (Nat.le_of_ble_eq_true rfl) rfl (S_X10_slip_0 hl  h) rfl
def F_X3_setAhead_16 (M : PM) (a1 : Int32) (a2 : Int32) (a3 : Int32) : Option PR := cI (F_X3_isWheel_16 M a1 a2) fun v283 M282 => (if v283 = 0 then some (.inl none, M282) else if ixOK ((a1 * 12) + a2) 120 = true then some (.inl none, sA M282 17 ((a1 * 12) + a2).toNatClampNeg a3) else none)
set_option maxRecDepth 100000 in
theorem S_X3_setAhead_16 {l : Launch} (hl : l.stackTraces = false) {M : PM} {a1 : Int32} {a2 : Int32} {a3 : Int32} {r : PR} (h : F_X3_setAhead_16 M a1 a2 a3 = some r) : PW l 1 Y_X3_setAhead k_X3_setAhead [vR 16, vI a1, vI a2, vI a3] [] M r := by
  unfold F_X3_setAhead_16 at h
  refine p_aload_n rfl ?_
  refine p_iload_n rfl ?_
  refine p_iload_n rfl ?_
  refine p_cI (av := [_, _, _]) ⟨mok_X3_isWheel, Or.inl ⟨62, 16, 3, 0, _, rfl, rfl, rfl, gt_16, rfl, ins_X3_isWheel, Or.inl lk_X3_62⟩⟩ (Nat.le_of_ble_eq_true rfl) (Nat.le_of_ble_eq_true rfl) rfl (fun _ h => pc_X3_isWheel_16 hl h) h (fun v283 M282 h => ?_)
  refine p_if_eq h 14 rfl rfl (fun _ h => ?_) (fun _ h => ?_)
  · exact p_ret rfl h
  · refine p_aload_n rfl ?_
    refine p_getR fk_X3_9 gt_16 rfl rfl ?_
    refine p_iload_n rfl ?_
    refine p_bipush cb_12 ?_
    refine p_imul ?_
    refine p_iload_n rfl ?_
    refine p_iadd ?_
    refine p_iload_n rfl ?_
    refine p_iast gt_17 h (fun h => ?_)
    exact p_ret rfl h
set_option maxRecDepth 100000 in
theorem pc_X3_setAhead_16 {l : Launch} (hl : l.stackTraces = false) {M : PM} {a1 : Int32} {a2 : Int32} {a3 : Int32} {r : PR} (h : F_X3_setAhead_16 M a1 a2 a3 = some r) : PC l 1 Y_X3_setAhead [vR 16, vI a1, vI a2, vI a3] M r := pc_of hl (by decide +kernel) cok_X3_setAhead (Nat.le_of_ble_eq_true rfl) rfl (S_X3_setAhead_16 hl  h) rfl
def F_X10_turn_0_27 (M : PM) (x1 : Int32) (x2 : Int32) (x3 : Int32) (t1 : Int32) : Option PR := bV (F_X10_need_0 M t1) fun M284 => cI (F_X3_aheadOf_16 M284 x1 x2) fun v286 M285 => cI (F_X2_weekOf_4 M285 x2) fun v288 M287 => cI (F_X10_left M287 (v286 + x3) v288) fun v290 M289 => cV (F_X3_setAhead_16 M289 x1 x2 v290) fun M291 => some (.inl (some (.int v290)), M291)
def F_X10_turn_0_26 (M : PM) (x1 : Int32) (x2 : Int32) (x3 : Int32) : Option PR := F_X10_turn_0_27 M x1 x2 x3 0
def F_X10_turn_0 (M : PM) (a1 : Int32) (a2 : Int32) (a3 : Int32) : Option PR := bV (F_X10_needHouse_0 M a1) fun M292 => bV (F_X10_needLaw_0 M292 a2) fun M293 => (if a3 < 0 then F_X10_turn_0_26 M293 a1 a2 a3 else (if 999 < a3 then F_X10_turn_0_26 M293 a1 a2 a3 else F_X10_turn_0_27 M293 a1 a2 a3 1))
set_option maxRecDepth 100000 in
theorem S_X10_turn_0_27 {l : Launch} (hl : l.stackTraces = false) {M : PM} {x1 : Int32} {x2 : Int32} {x3 : Int32} {t1 : Int32} {r : PR} (h : F_X10_turn_0_27  M x1 x2 x3 t1 = some r) : PW l 8 Y_X10_turn k_X10_turn_27 [vR 0, vI x1, vI x2, vI x3, jk] [vI t1, vR 0] M r := by
  unfold F_X10_turn_0_27 at h
  refine p_bV mok_X10_need rfl gt_0 rfl ins_X10_need lk_X10_101 (Nat.le_of_ble_eq_true rfl) (Nat.le_of_ble_eq_true rfl) rfl (fun _ h => pc_X10_need_0 hl h) h (fun M284 h => ?_)
  refine p_aload_n rfl ?_
  refine p_getR fk_X10_34 gt_0 rfl rfl ?_
  refine p_iload_n rfl ?_
  refine p_iload_n rfl ?_
  refine p_cI (av := [_, _, _]) ⟨mok_X3_aheadOf, Or.inl ⟨171, 16, 3, 0, _, rfl, rfl, rfl, gt_16, rfl, ins_X3_aheadOf, Or.inr lk_X10_171⟩⟩ (Nat.le_of_ble_eq_true rfl) (Nat.le_of_ble_eq_true rfl) rfl (fun _ h => pc_X3_aheadOf_16 hl h) h (fun v286 M285 h => ?_)
  refine p_iload_n rfl ?_
  refine p_iadd ?_
  refine p_aload_n rfl ?_
  refine p_getR fk_X10_27 gt_0 rfl rfl ?_
  refine p_getR fk_X10_128 gt_3 rfl rfl ?_
  refine p_iload_n rfl ?_
  refine p_cI (av := [_, _]) ⟨mok_X2_weekOf, Or.inl ⟨161, 4, 2, 0, _, rfl, rfl, rfl, gt_4, rfl, ins_X2_weekOf, Or.inr lk_X10_161⟩⟩ (Nat.le_of_ble_eq_true rfl) (Nat.le_of_ble_eq_true rfl) rfl (fun _ h => pc_X2_weekOf_4 hl h) h (fun v288 M287 h => ?_)
  refine p_cI (av := [_, _]) ⟨mok_X10_left, Or.inr ⟨175, rfl, rfl, sta_X10_left, Or.inl lk_X10_175⟩⟩ (Nat.le_of_ble_eq_true rfl) (Nat.le_of_ble_eq_true rfl) rfl (fun _ h => pc_X10_left hl h) h (fun v290 M289 h => ?_)
  refine p_istore (Nat.le_of_ble_eq_true rfl) rfl ?_
  refine p_aload_n rfl ?_
  refine p_getR fk_X10_34 gt_0 rfl rfl ?_
  refine p_iload_n rfl ?_
  refine p_iload_n rfl ?_
  refine p_iload rfl ?_
  refine p_cV (av := [_, _, _, _]) ⟨mok_X3_setAhead, Or.inl ⟨178, 16, 3, 0, _, rfl, rfl, rfl, gt_16, rfl, ins_X3_setAhead, Or.inr lk_X10_178⟩⟩ (Nat.le_of_ble_eq_true rfl) (Nat.le_of_ble_eq_true rfl) rfl (fun _ h => pc_X3_setAhead_16 hl h) h (fun M291 h => ?_)
  refine p_iload rfl ?_
  exact p_iret rfl h
set_option maxRecDepth 100000 in
theorem S_X10_turn_0_26 {l : Launch} (hl : l.stackTraces = false) {M : PM} {x1 : Int32} {x2 : Int32} {x3 : Int32} {r : PR} (h : F_X10_turn_0_26  M x1 x2 x3 = some r) : PW l 8 Y_X10_turn k_X10_turn_26 [vR 0, vI x1, vI x2, vI x3, jk] [vR 0] M r := by
  unfold F_X10_turn_0_26 at h
  refine p_iconst cn_0 ?_
  exact p_fg (S_X10_turn_0_27 hl h) ⟨Or.inr rfl, Or.inr rfl, Or.inr rfl, Or.inr rfl, Or.inl rfl, trivial⟩
set_option maxRecDepth 100000 in
theorem S_X10_turn_0 {l : Launch} (hl : l.stackTraces = false) {M : PM} {a1 : Int32} {a2 : Int32} {a3 : Int32} {r : PR} (h : F_X10_turn_0 M a1 a2 a3 = some r) : PW l 8 Y_X10_turn k_X10_turn [vR 0, vI a1, vI a2, vI a3, jk] [] M r := by
  unfold F_X10_turn_0 at h
  refine p_aload_n rfl ?_
  refine p_iload_n rfl ?_
  refine p_bV mok_X10_needHouse rfl gt_0 rfl ins_X10_needHouse lk_X10_168 (Nat.le_of_ble_eq_true rfl) (Nat.le_of_ble_eq_true rfl) rfl (fun _ h => pc_X10_needHouse_0 hl h) h (fun M292 h => ?_)
  refine p_aload_n rfl ?_
  refine p_iload_n rfl ?_
  refine p_bV mok_X10_needLaw rfl gt_0 rfl ins_X10_needLaw lk_X10_155 (Nat.le_of_ble_eq_true rfl) (Nat.le_of_ble_eq_true rfl) rfl (fun _ h => pc_X10_needLaw_0 hl h) h (fun M293 h => ?_)
  refine p_aload_n rfl ?_
  refine p_iload_n rfl ?_
  refine p_if_lt h 14 rfl rfl (fun _ h => ?_) (fun _ h => ?_)
  · exact p_fg (S_X10_turn_0_26 hl h) ⟨Or.inr rfl, Or.inr rfl, Or.inr rfl, Or.inr rfl, Or.inl rfl, trivial⟩
  · refine p_iload_n rfl ?_
    refine p_sipush cs_999 ?_
    refine p_icmp_gt h 14 rfl rfl (fun _ h => ?_) (fun _ h => ?_)
    · exact p_fg (S_X10_turn_0_26 hl h) ⟨Or.inr rfl, Or.inr rfl, Or.inr rfl, Or.inr rfl, Or.inl rfl, trivial⟩
    · refine p_iconst cn_1 ?_
      refine p_goto 15 rfl rfl ?_
      exact p_fg (S_X10_turn_0_27 hl h) ⟨Or.inr rfl, Or.inr rfl, Or.inr rfl, Or.inr rfl, Or.inl rfl, trivial⟩
set_option maxRecDepth 100000 in
theorem pc_X10_turn_0 {l : Launch} (hl : l.stackTraces = false) {M : PM} {a1 : Int32} {a2 : Int32} {a3 : Int32} {r : PR} (h : F_X10_turn_0 M a1 a2 a3 = some r) : PC l 8 Y_X10_turn [vR 0, vI a1, vI a2, vI a3] M r := pc_of hl (by decide +kernel) cok_X10_turn (Nat.le_of_ble_eq_true rfl) rfl (S_X10_turn_0 hl  h) rfl
def F_X10_needDay_0_11 (M : PM)  : Option PR := some (.inr "java/lang/IndexOutOfBoundsException", sI M 0 14 ((mI M 0 14) + 1))
def F_X10_needDay_0 (M : PM) (a1 : Int32) : Option PR := (if a1 < 0 then F_X10_needDay_0_11 M else (if a1 ≤ 999999999 then some (.inl none, M) else F_X10_needDay_0_11 M))
set_option maxRecDepth 100000 in
theorem S_X10_needDay_0_11 {l : Launch} (hl : l.stackTraces = false) {M : PM}  {r : PR} (h : F_X10_needDay_0_11  M  = some r) : PW l 6 Y_X10_needDay k_X10_needDay_11 [vR 0, jk] [] M r := by
  unfold F_X10_needDay_0_11 at h
  refine p_aload_n rfl ?_
  refine p_dup rfl ?_
  refine p_getI fk_X10_355 gt_0 rfl ?_
  refine p_iconst cn_1 ?_
  refine p_iadd ?_
  refine p_putI fk_X10_355 gt_0 rfl ?_
  exact p_throw thr_364 (Nat.le_of_ble_eq_true rfl) (Nat.le_of_ble_eq_true rfl) (si := 13) rfl h
set_option maxRecDepth 100000 in
theorem S_X10_needDay_0 {l : Launch} (hl : l.stackTraces = false) {M : PM} {a1 : Int32} {r : PR} (h : F_X10_needDay_0 M a1 = some r) : PW l 6 Y_X10_needDay k_X10_needDay [vR 0, vI a1] [] M r := by
  unfold F_X10_needDay_0 at h
  refine p_iload_n rfl ?_
  refine p_if_lt h 5 rfl rfl (fun _ h => ?_) (fun _ h => ?_)
  · exact p_fg (S_X10_needDay_0_11 hl h) ⟨Or.inr rfl, Or.inl rfl, trivial⟩
  · refine p_iload_n rfl ?_
    refine p_ldc_w co_X10_319 ?_
    refine p_icmp_le h 16 rfl rfl (fun _ h => ?_) (fun _ h => ?_)
    · exact p_ret rfl h
    · exact p_fg (S_X10_needDay_0_11 hl h) ⟨Or.inr rfl, Or.inl rfl, trivial⟩
set_option maxRecDepth 100000 in
theorem pc_X10_needDay_0 {l : Launch} (hl : l.stackTraces = false) {M : PM} {a1 : Int32} {r : PR} (h : F_X10_needDay_0 M a1 = some r) : PC l 6 Y_X10_needDay [vR 0, vI a1] M r := pc_of hl (by decide +kernel) cok_X10_needDay (Nat.le_of_ble_eq_true rfl) rfl (S_X10_needDay_0 hl  h) rfl
def F_X0_turnsOn_3_28 (k4 : PM → Int32 → Int32 → Int32 → Option PR) (M : PM) (x1 : Int32) (x3 : Int32) (t0 : Int32) (t1 : Int32) : Option PR := lt (t0 - t1) fun y294 => lt (x3 + 1) fun y295 => k4 M x1 y294 y295
def F_X0_turnsOn_3_4 : Nat → PM → Int32 → Int32 → Int32 → Option PR
  | 0, _, _, _, _ => none
  | n + 1, M, x1, x2, x3 => (if mI M 3 5 ≤ x3 then some (.inl (some (.int x2)), M) else if ixOK x3 3 = true then (if x1 ≤ mA M 15 x3.toNatClampNeg then F_X0_turnsOn_3_28 (F_X0_turnsOn_3_4 n) M x1 x3 x2 0 else F_X0_turnsOn_3_28 (F_X0_turnsOn_3_4 n) M x1 x3 x2 1) else none)
def F_X0_turnsOn_3 (M : PM) (a1 : Int32) : Option PR := F_X0_turnsOn_3_4 FUEL M a1 a1 0
set_option maxRecDepth 100000 in
theorem S_X0_turnsOn_3_28 {l : Launch} (hl : l.stackTraces = false) {k4 : PM → Int32 → Int32 → Int32 → Option PR} (hk4 : ∀ {M : PM} {x1 : Int32} {x2 : Int32} {x3 : Int32} {r : PR}, k4 M x1 x2 x3 = some r → PW l 0 Y_X0_turnsOn k_X0_turnsOn_4 [vR 3, vI x1, vI x2, vI x3] [] M r) {M : PM} {x1 : Int32} {x3 : Int32} {t0 : Int32} {t1 : Int32} {r : PR} (h : F_X0_turnsOn_3_28 k4 M x1 x3 t0 t1 = some r) : PW l 0 Y_X0_turnsOn k_X0_turnsOn_28 [vR 3, vI x1, jk, vI x3] [vI t1, vI t0] M r := by
  unfold F_X0_turnsOn_3_28 at h
  refine p_isub ?_
  have h := lt_h h
  refine p_istore_n (Nat.le_of_ble_eq_true rfl) rfl ?_
  have h := lt_h h
  refine p_iinc (Nat.le_of_ble_eq_true rfl) rfl (ci_1 _) rfl ?_
  refine p_goto 4 rfl rfl ?_
  exact p_fg (hk4 h) ⟨Or.inr rfl, Or.inr rfl, Or.inr rfl, Or.inr rfl, trivial⟩
set_option maxRecDepth 100000 in
theorem S_X0_turnsOn_3_4 {l : Launch} (hl : l.stackTraces = false) : ∀ (n : Nat) {M : PM} {x1 : Int32} {x2 : Int32} {x3 : Int32} {r : PR}, F_X0_turnsOn_3_4  n M x1 x2 x3 = some r → PW l 0 Y_X0_turnsOn k_X0_turnsOn_4 [vR 3, vI x1, vI x2, vI x3] [] M r := by
  intro n
  induction n with
  | zero => intro M x1 x2 x3 r h; exact nomatch (show (none : Option PR) = some r from h)
  | succ n ih =>
    intro M x1 x2 x3 r h
    rw [F_X0_turnsOn_3_4] at h
    refine p_iload_n rfl ?_
    refine p_aload_n rfl ?_
    refine p_getI fk_X0_50 gt_3 rfl ?_
    refine p_icmp_ge h 22 rfl rfl (fun _ h => ?_) (fun _ h => ?_)
    · refine p_iload_n rfl ?_
      exact p_iret rfl h
    · refine p_iload_n rfl ?_
      refine p_aload_n rfl ?_
      refine p_getR fk_X0_27 gt_3 rfl rfl ?_
      refine p_iload_n rfl ?_
      refine p_iald gt_15 h (fun h => ?_)
      refine p_iload_n rfl ?_
      refine p_icmp_ge h 17 rfl rfl (fun _ h => ?_) (fun _ h => ?_)
      · refine p_iconst cn_0 ?_
        exact p_fg (S_X0_turnsOn_3_28 hl (fun h => ih h) h) ⟨Or.inr rfl, Or.inr rfl, Or.inl rfl, Or.inr rfl, trivial⟩
      · refine p_iconst cn_1 ?_
        refine p_goto 18 rfl rfl ?_
        exact p_fg (S_X0_turnsOn_3_28 hl (fun h => ih h) h) ⟨Or.inr rfl, Or.inr rfl, Or.inl rfl, Or.inr rfl, trivial⟩
set_option maxRecDepth 100000 in
theorem S_X0_turnsOn_3 {l : Launch} (hl : l.stackTraces = false) {M : PM} {a1 : Int32} {r : PR} (h : F_X0_turnsOn_3 M a1 = some r) : PW l 0 Y_X0_turnsOn k_X0_turnsOn [vR 3, vI a1, jk, jk] [] M r := by
  unfold F_X0_turnsOn_3 at h
  refine p_iload_n rfl ?_
  refine p_istore_n (Nat.le_of_ble_eq_true rfl) rfl ?_
  refine p_iconst cn_0 ?_
  refine p_istore_n (Nat.le_of_ble_eq_true rfl) rfl ?_
  exact p_fg (S_X0_turnsOn_3_4 hl FUEL h) ⟨Or.inr rfl, Or.inr rfl, Or.inr rfl, Or.inr rfl, trivial⟩
set_option maxRecDepth 100000 in
theorem pc_X0_turnsOn_3 {l : Launch} (hl : l.stackTraces = false) {M : PM} {a1 : Int32} {r : PR} (h : F_X0_turnsOn_3 M a1 = some r) : PC l 0 Y_X0_turnsOn [vR 3, vI a1] M r := pc_of hl (by decide +kernel) cok_X0_turnsOn (Nat.le_of_ble_eq_true rfl) rfl (S_X0_turnsOn_3 hl  h) rfl
def F_X10_turned_0 (M : PM) (a1 : Int32) : Option PR := bV (F_X10_needDay_0 M a1) fun M296 => cI (F_X0_turnsOn_3 M296 a1) fun v298 M297 => some (.inl (some (.int v298)), M297)
set_option maxRecDepth 100000 in
theorem S_X10_turned_0 {l : Launch} (hl : l.stackTraces = false) {M : PM} {a1 : Int32} {r : PR} (h : F_X10_turned_0 M a1 = some r) : PW l 7 Y_X10_turned k_X10_turned [vR 0, vI a1] [] M r := by
  unfold F_X10_turned_0 at h
  refine p_aload_n rfl ?_
  refine p_iload_n rfl ?_
  refine p_bV mok_X10_needDay rfl gt_0 rfl ins_X10_needDay lk_X10_182 (Nat.le_of_ble_eq_true rfl) (Nat.le_of_ble_eq_true rfl) rfl (fun _ h => pc_X10_needDay_0 hl h) h (fun M296 h => ?_)
  refine p_aload_n rfl ?_
  refine p_getR fk_X10_27 gt_0 rfl rfl ?_
  refine p_iload_n rfl ?_
  refine p_cI (av := [_, _]) ⟨mok_X0_turnsOn, Or.inl ⟨185, 3, 0, 0, _, rfl, rfl, rfl, gt_3, rfl, ins_X0_turnsOn, Or.inr lk_X10_185⟩⟩ (Nat.le_of_ble_eq_true rfl) (Nat.le_of_ble_eq_true rfl) rfl (fun _ h => pc_X0_turnsOn_3 hl h) h (fun v298 M297 h => ?_)
  exact p_iret rfl h
set_option maxRecDepth 100000 in
theorem pc_X10_turned_0 {l : Launch} (hl : l.stackTraces = false) {M : PM} {a1 : Int32} {r : PR} (h : F_X10_turned_0 M a1 = some r) : PC l 7 Y_X10_turned [vR 0, vI a1] M r := pc_of hl (by decide +kernel) cok_X10_turned (Nat.le_of_ble_eq_true rfl) rfl (S_X10_turned_0 hl  h) rfl
def F_X2_isHeld_4 (M : PM) (a1 : Int32) (a2 : Int32) : Option PR := cI (F_X2_isLaw_4 M a1) fun v300 M299 => (if v300 = 0 then (if (0 : Int32) &&& 1 = 0 then some (.inl (some (.int 0)), M299) else none) else if ixOK a1 12 = true then cI (F_X10_left M299 a2 (mA M299 5 a1.toNatClampNeg)) fun v302 M301 => if ixOK a1 12 = true then (if v302 = mA M301 6 a1.toNatClampNeg then (if (1 : Int32) &&& 1 = 1 then some (.inl (some (.int 1)), M301) else none) else (if (0 : Int32) &&& 1 = 0 then some (.inl (some (.int 0)), M301) else none)) else none else none)
set_option maxRecDepth 100000 in
theorem S_X2_isHeld_4 {l : Launch} (hl : l.stackTraces = false) {M : PM} {a1 : Int32} {a2 : Int32} {r : PR} (h : F_X2_isHeld_4 M a1 a2 = some r) : PW l 1 Y_X2_isHeld k_X2_isHeld [vR 4, vI a1, vI a2] [] M r := by
  unfold F_X2_isHeld_4 at h
  refine p_aload_n rfl ?_
  refine p_iload_n rfl ?_
  refine p_cI (av := [_, _]) ⟨mok_X2_isLaw, Or.inl ⟨50, 4, 2, 0, _, rfl, rfl, rfl, gt_4, rfl, ins_X2_isLaw, Or.inl lk_X2_50⟩⟩ (Nat.le_of_ble_eq_true rfl) (Nat.le_of_ble_eq_true rfl) rfl (fun _ h => pc_X2_isLaw_4 hl h) h (fun v300 M299 h => ?_)
  refine p_if_eq h 17 rfl rfl (fun _ h => ?_) (fun _ h => ?_)
  · refine p_iconst cn_0 ?_
    exact p_zret rfl h
  · refine p_iload_n rfl ?_
    refine p_aload_n rfl ?_
    refine p_getR fk_X2_15 gt_4 rfl rfl ?_
    refine p_iload_n rfl ?_
    refine p_iald gt_5 h (fun h => ?_)
    refine p_cI (av := [_, _]) ⟨mok_X10_left, Or.inr ⟨54, rfl, rfl, sta_X10_left, Or.inr lk_X2_54⟩⟩ (Nat.le_of_ble_eq_true rfl) (Nat.le_of_ble_eq_true rfl) rfl (fun _ h => pc_X10_left hl h) h (fun v302 M301 h => ?_)
    refine p_aload_n rfl ?_
    refine p_getR fk_X2_21 gt_4 rfl rfl ?_
    refine p_iload_n rfl ?_
    refine p_iald gt_6 h (fun h => ?_)
    refine p_icmp_ne h 17 rfl rfl (fun _ h => ?_) (fun _ h => ?_)
    · refine p_iconst cn_1 ?_
      refine p_goto 18 rfl rfl ?_
      exact p_zret rfl h
    · refine p_iconst cn_0 ?_
      exact p_zret rfl h
set_option maxRecDepth 100000 in
theorem pc_X2_isHeld_4 {l : Launch} (hl : l.stackTraces = false) {M : PM} {a1 : Int32} {a2 : Int32} {r : PR} (h : F_X2_isHeld_4 M a1 a2 = some r) : PC l 1 Y_X2_isHeld [vR 4, vI a1, vI a2] M r := pc_of hl (by decide +kernel) cok_X2_isHeld (Nat.le_of_ble_eq_true rfl) rfl (S_X2_isHeld_4 hl  h) rfl
def F_X10_lawsOfTown_0_54 (k14 : PM → Int32 → Int32 → Int32 → Option PR) (M : PM) (x2 : Int32) (x4 : Int32) (t0 : Int32) (t1 : Int32) : Option PR := lt (t0 ||| t1) fun y303 => lt (x4 + 1) fun y304 => k14 M x2 y303 y304
def F_X10_lawsOfTown_0_14 : Nat → PM → Int32 → Int32 → Int32 → Option PR
  | 0, _, _, _, _ => none
  | n + 1, M, x2, x3, x4 => (if mI M 4 4 ≤ x4 then some (.inl (some (.int x3)), M) else cI (F_X2_isHeld_4 M x4 x2) fun v306 M305 => (if v306 = 0 then F_X10_lawsOfTown_0_54 (F_X10_lawsOfTown_0_14 n) M305 x2 x4 x3 0 else F_X10_lawsOfTown_0_54 (F_X10_lawsOfTown_0_14 n) M305 x2 x4 x3 (1 <<< (x4 &&& 31))))
def F_X10_lawsOfTown_0 (M : PM) (a1 : Int32) : Option PR := cI (F_X0_turnsOn_3 M a1) fun v308 M307 => F_X10_lawsOfTown_0_14 FUEL M307 v308 0 0
set_option maxRecDepth 100000 in
theorem S_X10_lawsOfTown_0_54 {l : Launch} (hl : l.stackTraces = false) {k14 : PM → Int32 → Int32 → Int32 → Option PR} (hk14 : ∀ {M : PM} {x2 : Int32} {x3 : Int32} {x4 : Int32} {r : PR}, k14 M x2 x3 x4 = some r → PW l 2 Y_X10_lawsOfTown k_X10_lawsOfTown_14 [vR 0, jk, vI x2, vI x3, vI x4] [] M r) {M : PM} {x2 : Int32} {x4 : Int32} {t0 : Int32} {t1 : Int32} {r : PR} (h : F_X10_lawsOfTown_0_54 k14 M x2 x4 t0 t1 = some r) : PW l 2 Y_X10_lawsOfTown k_X10_lawsOfTown_54 [vR 0, jk, vI x2, jk, vI x4] [vI t1, vI t0] M r := by
  unfold F_X10_lawsOfTown_0_54 at h
  refine p_ior ?_
  have h := lt_h h
  refine p_istore_n (Nat.le_of_ble_eq_true rfl) rfl ?_
  have h := lt_h h
  refine p_iinc (Nat.le_of_ble_eq_true rfl) rfl (ci_1 _) rfl ?_
  refine p_goto 9 rfl rfl ?_
  exact p_fg (hk14 h) ⟨Or.inr rfl, Or.inl rfl, Or.inr rfl, Or.inr rfl, Or.inr rfl, trivial⟩
set_option maxRecDepth 100000 in
theorem S_X10_lawsOfTown_0_14 {l : Launch} (hl : l.stackTraces = false) : ∀ (n : Nat) {M : PM} {x2 : Int32} {x3 : Int32} {x4 : Int32} {r : PR}, F_X10_lawsOfTown_0_14  n M x2 x3 x4 = some r → PW l 2 Y_X10_lawsOfTown k_X10_lawsOfTown_14 [vR 0, jk, vI x2, vI x3, vI x4] [] M r := by
  intro n
  induction n with
  | zero => intro M x2 x3 x4 r h; exact nomatch (show (none : Option PR) = some r from h)
  | succ n ih =>
    intro M x2 x3 x4 r h
    rw [F_X10_lawsOfTown_0_14] at h
    refine p_iload rfl ?_
    refine p_aload_n rfl ?_
    refine p_getR fk_X10_27 gt_0 rfl rfl ?_
    refine p_getR fk_X10_128 gt_3 rfl rfl ?_
    refine p_getI fk_X10_132 gt_4 rfl ?_
    refine p_icmp_ge h 32 rfl rfl (fun _ h => ?_) (fun _ h => ?_)
    · refine p_iload_n rfl ?_
      exact p_iret rfl h
    · refine p_iload_n rfl ?_
      refine p_aload_n rfl ?_
      refine p_getR fk_X10_27 gt_0 rfl rfl ?_
      refine p_getR fk_X10_128 gt_3 rfl rfl ?_
      refine p_iload rfl ?_
      refine p_iload_n rfl ?_
      refine p_cI (av := [_, _, _]) ⟨mok_X2_isHeld, Or.inl ⟨388, 4, 2, 0, _, rfl, rfl, rfl, gt_4, rfl, ins_X2_isHeld, Or.inr lk_X10_388⟩⟩ (Nat.le_of_ble_eq_true rfl) (Nat.le_of_ble_eq_true rfl) rfl (fun _ h => pc_X2_isHeld_4 hl h) h (fun v306 M305 h => ?_)
      refine p_if_eq h 27 rfl rfl (fun _ h => ?_) (fun _ h => ?_)
      · refine p_iconst cn_0 ?_
        exact p_fg (S_X10_lawsOfTown_0_54 hl (fun h => ih h) h) ⟨Or.inr rfl, Or.inl rfl, Or.inr rfl, Or.inl rfl, Or.inr rfl, trivial⟩
      · refine p_iconst cn_1 ?_
        refine p_iload rfl ?_
        refine p_ishl ?_
        refine p_goto 28 rfl rfl ?_
        exact p_fg (S_X10_lawsOfTown_0_54 hl (fun h => ih h) h) ⟨Or.inr rfl, Or.inl rfl, Or.inr rfl, Or.inl rfl, Or.inr rfl, trivial⟩
set_option maxRecDepth 100000 in
theorem S_X10_lawsOfTown_0 {l : Launch} (hl : l.stackTraces = false) {M : PM} {a1 : Int32} {r : PR} (h : F_X10_lawsOfTown_0 M a1 = some r) : PW l 2 Y_X10_lawsOfTown k_X10_lawsOfTown [vR 0, vI a1, jk, jk, jk] [] M r := by
  unfold F_X10_lawsOfTown_0 at h
  refine p_aload_n rfl ?_
  refine p_getR fk_X10_27 gt_0 rfl rfl ?_
  refine p_iload_n rfl ?_
  refine p_cI (av := [_, _]) ⟨mok_X0_turnsOn, Or.inl ⟨185, 3, 0, 0, _, rfl, rfl, rfl, gt_3, rfl, ins_X0_turnsOn, Or.inr lk_X10_185⟩⟩ (Nat.le_of_ble_eq_true rfl) (Nat.le_of_ble_eq_true rfl) rfl (fun _ h => pc_X0_turnsOn_3 hl h) h (fun v308 M307 h => ?_)
  refine p_istore_n (Nat.le_of_ble_eq_true rfl) rfl ?_
  refine p_iconst cn_0 ?_
  refine p_istore_n (Nat.le_of_ble_eq_true rfl) rfl ?_
  refine p_iconst cn_0 ?_
  refine p_istore (Nat.le_of_ble_eq_true rfl) rfl ?_
  exact p_fg (S_X10_lawsOfTown_0_14 hl FUEL h) ⟨Or.inr rfl, Or.inl rfl, Or.inr rfl, Or.inr rfl, Or.inr rfl, trivial⟩
set_option maxRecDepth 100000 in
theorem pc_X10_lawsOfTown_0 {l : Launch} (hl : l.stackTraces = false) {M : PM} {a1 : Int32} {r : PR} (h : F_X10_lawsOfTown_0 M a1 = some r) : PC l 2 Y_X10_lawsOfTown [vR 0, vI a1] M r := pc_of hl (by decide +kernel) cok_X10_lawsOfTown (Nat.le_of_ble_eq_true rfl) rfl (S_X10_lawsOfTown_0 hl  h) rfl
def F_X10_holds_0 (M : PM) (a1 : Int32) : Option PR := bV (F_X10_needDay_0 M a1) fun M309 => cI (F_X10_lawsOfTown_0 M309 a1) fun v311 M310 => some (.inl (some (.int v311)), M310)
set_option maxRecDepth 100000 in
theorem S_X10_holds_0 {l : Launch} (hl : l.stackTraces = false) {M : PM} {a1 : Int32} {r : PR} (h : F_X10_holds_0 M a1 = some r) : PW l 7 Y_X10_holds k_X10_holds [vR 0, vI a1] [] M r := by
  unfold F_X10_holds_0 at h
  refine p_aload_n rfl ?_
  refine p_iload_n rfl ?_
  refine p_bV mok_X10_needDay rfl gt_0 rfl ins_X10_needDay lk_X10_182 (Nat.le_of_ble_eq_true rfl) (Nat.le_of_ble_eq_true rfl) rfl (fun _ h => pc_X10_needDay_0 hl h) h (fun M309 h => ?_)
  refine p_aload_n rfl ?_
  refine p_iload_n rfl ?_
  refine p_cI (av := [_, _]) ⟨mok_X10_lawsOfTown, Or.inl ⟨188, 0, 10, 0, _, rfl, rfl, rfl, gt_0, rfl, ins_X10_lawsOfTown, Or.inl lk_X10_188⟩⟩ (Nat.le_of_ble_eq_true rfl) (Nat.le_of_ble_eq_true rfl) rfl (fun _ h => pc_X10_lawsOfTown_0 hl h) h (fun v311 M310 h => ?_)
  exact p_iret rfl h
set_option maxRecDepth 100000 in
theorem pc_X10_holds_0 {l : Launch} (hl : l.stackTraces = false) {M : PM} {a1 : Int32} {r : PR} (h : F_X10_holds_0 M a1 = some r) : PC l 7 Y_X10_holds [vR 0, vI a1] M r := pc_of hl (by decide +kernel) cok_X10_holds (Nat.le_of_ble_eq_true rfl) rfl (S_X10_holds_0 hl  h) rfl
def F_X10_lawsOfHouse_0_67 (k15 : PM → Int32 → Int32 → Int32 → Int32 → Option PR) (M : PM) (x2 : Int32) (x3 : Int32) (x5 : Int32) (t0 : Int32) (t1 : Int32) : Option PR := lt (t0 ||| t1) fun y312 => lt (x5 + 1) fun y313 => k15 M x2 x3 y312 y313
def F_X10_lawsOfHouse_0_15 : Nat → PM → Int32 → Int32 → Int32 → Int32 → Option PR
  | 0, _, _, _, _, _ => none
  | n + 1, M, x2, x3, x4, x5 => (if mI M 4 4 ≤ x5 then some (.inl (some (.int x4)), M) else cI (F_X3_aheadOf_16 M x2 x5) fun v315 M314 => cI (F_X2_isHeld_4 M314 x5 (x3 + v315)) fun v317 M316 => (if v317 = 0 then F_X10_lawsOfHouse_0_67 (F_X10_lawsOfHouse_0_15 n) M316 x2 x3 x5 x4 0 else F_X10_lawsOfHouse_0_67 (F_X10_lawsOfHouse_0_15 n) M316 x2 x3 x5 x4 (1 <<< (x5 &&& 31))))
def F_X10_lawsOfHouse_0 (M : PM) (a1 : Int32) (a2 : Int32) : Option PR := cI (F_X0_turnsOn_3 M a1) fun v319 M318 => F_X10_lawsOfHouse_0_15 FUEL M318 a2 v319 0 0
set_option maxRecDepth 100000 in
theorem S_X10_lawsOfHouse_0_67 {l : Launch} (hl : l.stackTraces = false) {k15 : PM → Int32 → Int32 → Int32 → Int32 → Option PR} (hk15 : ∀ {M : PM} {x2 : Int32} {x3 : Int32} {x4 : Int32} {x5 : Int32} {r : PR}, k15 M x2 x3 x4 x5 = some r → PW l 2 Y_X10_lawsOfHouse k_X10_lawsOfHouse_15 [vR 0, jk, vI x2, vI x3, vI x4, vI x5] [] M r) {M : PM} {x2 : Int32} {x3 : Int32} {x5 : Int32} {t0 : Int32} {t1 : Int32} {r : PR} (h : F_X10_lawsOfHouse_0_67 k15 M x2 x3 x5 t0 t1 = some r) : PW l 2 Y_X10_lawsOfHouse k_X10_lawsOfHouse_67 [vR 0, jk, vI x2, vI x3, jk, vI x5] [vI t1, vI t0] M r := by
  unfold F_X10_lawsOfHouse_0_67 at h
  refine p_ior ?_
  have h := lt_h h
  refine p_istore (Nat.le_of_ble_eq_true rfl) rfl ?_
  have h := lt_h h
  refine p_iinc (Nat.le_of_ble_eq_true rfl) rfl (ci_1 _) rfl ?_
  refine p_goto 9 rfl rfl ?_
  exact p_fg (hk15 h) ⟨Or.inr rfl, Or.inl rfl, Or.inr rfl, Or.inr rfl, Or.inr rfl, Or.inr rfl, trivial⟩
set_option maxRecDepth 100000 in
theorem S_X10_lawsOfHouse_0_15 {l : Launch} (hl : l.stackTraces = false) : ∀ (n : Nat) {M : PM} {x2 : Int32} {x3 : Int32} {x4 : Int32} {x5 : Int32} {r : PR}, F_X10_lawsOfHouse_0_15  n M x2 x3 x4 x5 = some r → PW l 2 Y_X10_lawsOfHouse k_X10_lawsOfHouse_15 [vR 0, jk, vI x2, vI x3, vI x4, vI x5] [] M r := by
  intro n
  induction n with
  | zero => intro M x2 x3 x4 x5 r h; exact nomatch (show (none : Option PR) = some r from h)
  | succ n ih =>
    intro M x2 x3 x4 x5 r h
    rw [F_X10_lawsOfHouse_0_15] at h
    refine p_iload rfl ?_
    refine p_aload_n rfl ?_
    refine p_getR fk_X10_27 gt_0 rfl rfl ?_
    refine p_getR fk_X10_128 gt_3 rfl rfl ?_
    refine p_getI fk_X10_132 gt_4 rfl ?_
    refine p_icmp_ge h 38 rfl rfl (fun _ h => ?_) (fun _ h => ?_)
    · refine p_iload rfl ?_
      exact p_iret rfl h
    · refine p_iload rfl ?_
      refine p_aload_n rfl ?_
      refine p_getR fk_X10_27 gt_0 rfl rfl ?_
      refine p_getR fk_X10_128 gt_3 rfl rfl ?_
      refine p_iload rfl ?_
      refine p_iload_n rfl ?_
      refine p_aload_n rfl ?_
      refine p_getR fk_X10_34 gt_0 rfl rfl ?_
      refine p_iload_n rfl ?_
      refine p_iload rfl ?_
      refine p_cI (av := [_, _, _]) ⟨mok_X3_aheadOf, Or.inl ⟨171, 16, 3, 0, _, rfl, rfl, rfl, gt_16, rfl, ins_X3_aheadOf, Or.inr lk_X10_171⟩⟩ (Nat.le_of_ble_eq_true rfl) (Nat.le_of_ble_eq_true rfl) rfl (fun _ h => pc_X3_aheadOf_16 hl h) h (fun v315 M314 h => ?_)
      refine p_iadd ?_
      refine p_cI (av := [_, _, _]) ⟨mok_X2_isHeld, Or.inl ⟨388, 4, 2, 0, _, rfl, rfl, rfl, gt_4, rfl, ins_X2_isHeld, Or.inr lk_X10_388⟩⟩ (Nat.le_of_ble_eq_true rfl) (Nat.le_of_ble_eq_true rfl) rfl (fun _ h => pc_X2_isHeld_4 hl h) h (fun v317 M316 h => ?_)
      refine p_if_eq h 33 rfl rfl (fun _ h => ?_) (fun _ h => ?_)
      · refine p_iconst cn_0 ?_
        exact p_fg (S_X10_lawsOfHouse_0_67 hl (fun h => ih h) h) ⟨Or.inr rfl, Or.inl rfl, Or.inr rfl, Or.inr rfl, Or.inl rfl, Or.inr rfl, trivial⟩
      · refine p_iconst cn_1 ?_
        refine p_iload rfl ?_
        refine p_ishl ?_
        refine p_goto 34 rfl rfl ?_
        exact p_fg (S_X10_lawsOfHouse_0_67 hl (fun h => ih h) h) ⟨Or.inr rfl, Or.inl rfl, Or.inr rfl, Or.inr rfl, Or.inl rfl, Or.inr rfl, trivial⟩
set_option maxRecDepth 100000 in
theorem S_X10_lawsOfHouse_0 {l : Launch} (hl : l.stackTraces = false) {M : PM} {a1 : Int32} {a2 : Int32} {r : PR} (h : F_X10_lawsOfHouse_0 M a1 a2 = some r) : PW l 2 Y_X10_lawsOfHouse k_X10_lawsOfHouse [vR 0, vI a1, vI a2, jk, jk, jk] [] M r := by
  unfold F_X10_lawsOfHouse_0 at h
  refine p_aload_n rfl ?_
  refine p_getR fk_X10_27 gt_0 rfl rfl ?_
  refine p_iload_n rfl ?_
  refine p_cI (av := [_, _]) ⟨mok_X0_turnsOn, Or.inl ⟨185, 3, 0, 0, _, rfl, rfl, rfl, gt_3, rfl, ins_X0_turnsOn, Or.inr lk_X10_185⟩⟩ (Nat.le_of_ble_eq_true rfl) (Nat.le_of_ble_eq_true rfl) rfl (fun _ h => pc_X0_turnsOn_3 hl h) h (fun v319 M318 h => ?_)
  refine p_istore_n (Nat.le_of_ble_eq_true rfl) rfl ?_
  refine p_iconst cn_0 ?_
  refine p_istore (Nat.le_of_ble_eq_true rfl) rfl ?_
  refine p_iconst cn_0 ?_
  refine p_istore (Nat.le_of_ble_eq_true rfl) rfl ?_
  exact p_fg (S_X10_lawsOfHouse_0_15 hl FUEL h) ⟨Or.inr rfl, Or.inl rfl, Or.inr rfl, Or.inr rfl, Or.inr rfl, Or.inr rfl, trivial⟩
set_option maxRecDepth 100000 in
theorem pc_X10_lawsOfHouse_0 {l : Launch} (hl : l.stackTraces = false) {M : PM} {a1 : Int32} {a2 : Int32} {r : PR} (h : F_X10_lawsOfHouse_0 M a1 a2 = some r) : PC l 2 Y_X10_lawsOfHouse [vR 0, vI a1, vI a2] M r := pc_of hl (by decide +kernel) cok_X10_lawsOfHouse (Nat.le_of_ble_eq_true rfl) rfl (S_X10_lawsOfHouse_0 hl  h) rfl
def F_X10_inHouse_0 (M : PM) (a1 : Int32) (a2 : Int32) : Option PR := bV (F_X10_needDay_0 M a1) fun M320 => bV (F_X10_needHouse_0 M320 a2) fun M321 => cI (F_X10_lawsOfHouse_0 M321 a1 a2) fun v323 M322 => some (.inl (some (.int v323)), M322)
set_option maxRecDepth 100000 in
theorem S_X10_inHouse_0 {l : Launch} (hl : l.stackTraces = false) {M : PM} {a1 : Int32} {a2 : Int32} {r : PR} (h : F_X10_inHouse_0 M a1 a2 = some r) : PW l 8 Y_X10_inHouse k_X10_inHouse [vR 0, vI a1, vI a2] [] M r := by
  unfold F_X10_inHouse_0 at h
  refine p_aload_n rfl ?_
  refine p_iload_n rfl ?_
  refine p_bV mok_X10_needDay rfl gt_0 rfl ins_X10_needDay lk_X10_182 (Nat.le_of_ble_eq_true rfl) (Nat.le_of_ble_eq_true rfl) rfl (fun _ h => pc_X10_needDay_0 hl h) h (fun M320 h => ?_)
  refine p_aload_n rfl ?_
  refine p_iload_n rfl ?_
  refine p_bV mok_X10_needHouse rfl gt_0 rfl ins_X10_needHouse lk_X10_168 (Nat.le_of_ble_eq_true rfl) (Nat.le_of_ble_eq_true rfl) rfl (fun _ h => pc_X10_needHouse_0 hl h) h (fun M321 h => ?_)
  refine p_aload_n rfl ?_
  refine p_iload_n rfl ?_
  refine p_iload_n rfl ?_
  refine p_cI (av := [_, _, _]) ⟨mok_X10_lawsOfHouse, Or.inl ⟨191, 0, 10, 0, _, rfl, rfl, rfl, gt_0, rfl, ins_X10_lawsOfHouse, Or.inl lk_X10_191⟩⟩ (Nat.le_of_ble_eq_true rfl) (Nat.le_of_ble_eq_true rfl) rfl (fun _ h => pc_X10_lawsOfHouse_0 hl h) h (fun v323 M322 h => ?_)
  exact p_iret rfl h
set_option maxRecDepth 100000 in
theorem pc_X10_inHouse_0 {l : Launch} (hl : l.stackTraces = false) {M : PM} {a1 : Int32} {a2 : Int32} {r : PR} (h : F_X10_inHouse_0 M a1 a2 = some r) : PC l 8 Y_X10_inHouse [vR 0, vI a1, vI a2] M r := pc_of hl (by decide +kernel) cok_X10_inHouse (Nat.le_of_ble_eq_true rfl) rfl (S_X10_inHouse_0 hl  h) rfl
def F_X10_clashes_0_37 (k9 : PM → Int32 → Int32 → Int32 → Option PR) (M : PM) (x1 : Int32) (x2 : Int32) (x3 : Int32) : Option PR := lt (x3 + 1) fun y324 => k9 M x1 x2 y324
def F_X10_clashes_0_9 : Nat → PM → Int32 → Int32 → Int32 → Option PR
  | 0, _, _, _, _ => none
  | n + 1, M, x1, x2, x3 => (if mI M 3 4 ≤ x3 then some (.inl (some (.int x2)), M) else cI (F_X10_lawsOfHouse_0 M x1 x3) fun v326 M325 => cI (F_X10_lawsOfTown_0 M325 x1) fun v328 M327 => (if v326 = v328 then F_X10_clashes_0_37 (F_X10_clashes_0_9 n) M327 x1 x2 x3 else lt (x2 + 1) fun y329 => F_X10_clashes_0_37 (F_X10_clashes_0_9 n) M327 x1 y329 x3))
def F_X10_clashes_0 (M : PM) (a1 : Int32) : Option PR := bV (F_X10_needDay_0 M a1) fun M330 => F_X10_clashes_0_9 FUEL M330 a1 0 0
set_option maxRecDepth 100000 in
theorem S_X10_clashes_0_37 {l : Launch} (hl : l.stackTraces = false) {k9 : PM → Int32 → Int32 → Int32 → Option PR} (hk9 : ∀ {M : PM} {x1 : Int32} {x2 : Int32} {x3 : Int32} {r : PR}, k9 M x1 x2 x3 = some r → PW l 7 Y_X10_clashes k_X10_clashes_9 [vR 0, vI x1, vI x2, vI x3] [] M r) {M : PM} {x1 : Int32} {x2 : Int32} {x3 : Int32} {r : PR} (h : F_X10_clashes_0_37 k9 M x1 x2 x3 = some r) : PW l 7 Y_X10_clashes k_X10_clashes_37 [vR 0, vI x1, vI x2, vI x3] [] M r := by
  unfold F_X10_clashes_0_37 at h
  have h := lt_h h
  refine p_iinc (Nat.le_of_ble_eq_true rfl) rfl (ci_1 _) rfl ?_
  refine p_goto 7 rfl rfl ?_
  exact p_fg (hk9 h) ⟨Or.inr rfl, Or.inr rfl, Or.inr rfl, Or.inr rfl, trivial⟩
set_option maxRecDepth 100000 in
theorem S_X10_clashes_0_9 {l : Launch} (hl : l.stackTraces = false) : ∀ (n : Nat) {M : PM} {x1 : Int32} {x2 : Int32} {x3 : Int32} {r : PR}, F_X10_clashes_0_9  n M x1 x2 x3 = some r → PW l 7 Y_X10_clashes k_X10_clashes_9 [vR 0, vI x1, vI x2, vI x3] [] M r := by
  intro n
  induction n with
  | zero => intro M x1 x2 x3 r h; exact nomatch (show (none : Option PR) = some r from h)
  | succ n ih =>
    intro M x1 x2 x3 r h
    rw [F_X10_clashes_0_9] at h
    refine p_iload_n rfl ?_
    refine p_aload_n rfl ?_
    refine p_getR fk_X10_27 gt_0 rfl rfl ?_
    refine p_getI fk_X10_143 gt_3 rfl ?_
    refine p_icmp_ge h 23 rfl rfl (fun _ h => ?_) (fun _ h => ?_)
    · refine p_iload_n rfl ?_
      exact p_iret rfl h
    · refine p_aload_n rfl ?_
      refine p_iload_n rfl ?_
      refine p_iload_n rfl ?_
      refine p_cI (av := [_, _, _]) ⟨mok_X10_lawsOfHouse, Or.inl ⟨191, 0, 10, 0, _, rfl, rfl, rfl, gt_0, rfl, ins_X10_lawsOfHouse, Or.inl lk_X10_191⟩⟩ (Nat.le_of_ble_eq_true rfl) (Nat.le_of_ble_eq_true rfl) rfl (fun _ h => pc_X10_lawsOfHouse_0 hl h) h (fun v326 M325 h => ?_)
      refine p_aload_n rfl ?_
      refine p_iload_n rfl ?_
      refine p_cI (av := [_, _]) ⟨mok_X10_lawsOfTown, Or.inl ⟨188, 0, 10, 0, _, rfl, rfl, rfl, gt_0, rfl, ins_X10_lawsOfTown, Or.inl lk_X10_188⟩⟩ (Nat.le_of_ble_eq_true rfl) (Nat.le_of_ble_eq_true rfl) rfl (fun _ h => pc_X10_lawsOfTown_0 hl h) h (fun v328 M327 h => ?_)
      refine p_icmp_eq h 21 rfl rfl (fun _ h => ?_) (fun _ h => ?_)
      · exact p_fg (S_X10_clashes_0_37 hl (fun h => ih h) h) ⟨Or.inr rfl, Or.inr rfl, Or.inr rfl, Or.inr rfl, trivial⟩
      · have h := lt_h h
        refine p_iinc (Nat.le_of_ble_eq_true rfl) rfl (ci_1 _) rfl ?_
        exact p_fg (S_X10_clashes_0_37 hl (fun h => ih h) h) ⟨Or.inr rfl, Or.inr rfl, Or.inr rfl, Or.inr rfl, trivial⟩
set_option maxRecDepth 100000 in
theorem S_X10_clashes_0 {l : Launch} (hl : l.stackTraces = false) {M : PM} {a1 : Int32} {r : PR} (h : F_X10_clashes_0 M a1 = some r) : PW l 7 Y_X10_clashes k_X10_clashes [vR 0, vI a1, jk, jk] [] M r := by
  unfold F_X10_clashes_0 at h
  refine p_aload_n rfl ?_
  refine p_iload_n rfl ?_
  refine p_bV mok_X10_needDay rfl gt_0 rfl ins_X10_needDay lk_X10_182 (Nat.le_of_ble_eq_true rfl) (Nat.le_of_ble_eq_true rfl) rfl (fun _ h => pc_X10_needDay_0 hl h) h (fun M330 h => ?_)
  refine p_iconst cn_0 ?_
  refine p_istore_n (Nat.le_of_ble_eq_true rfl) rfl ?_
  refine p_iconst cn_0 ?_
  refine p_istore_n (Nat.le_of_ble_eq_true rfl) rfl ?_
  exact p_fg (S_X10_clashes_0_9 hl FUEL h) ⟨Or.inr rfl, Or.inr rfl, Or.inr rfl, Or.inr rfl, trivial⟩
set_option maxRecDepth 100000 in
theorem pc_X10_clashes_0 {l : Launch} (hl : l.stackTraces = false) {M : PM} {a1 : Int32} {r : PR} (h : F_X10_clashes_0 M a1 = some r) : PC l 7 Y_X10_clashes [vR 0, vI a1] M r := pc_of hl (by decide +kernel) cok_X10_clashes (Nat.le_of_ble_eq_true rfl) rfl (S_X10_clashes_0 hl  h) rfl
def F_X10_daysLeaving (M : PM) (a0 : Int32) (a1 : Int32) (a2 : Int64) (a3 : Int32) : Option PR := cI (F_X10_left M (a0 - a3) a1) fun v332 M331 => (if v332 < 64 then some (.inl (some (.long (a2 <<< (v332.toInt64 &&& 63)))), M331) else some (.inl (some (.long (0 : Int64))), M331))
set_option maxRecDepth 100000 in
theorem S_X10_daysLeaving {l : Launch} (hl : l.stackTraces = false) {M : PM} {a0 : Int32} {a1 : Int32} {a2 : Int64} {a3 : Int32} {r : PR} (h : F_X10_daysLeaving M a0 a1 a2 a3 = some r) : PW l 1 Y_X10_daysLeaving k_X10_daysLeaving [vI a0, vI a1, vJ a2, jk, vI a3, jk] [] M r := by
  unfold F_X10_daysLeaving at h
  refine p_iload_n rfl ?_
  refine p_iload rfl ?_
  refine p_isub ?_
  refine p_iload_n rfl ?_
  refine p_cI (av := [_, _]) ⟨mok_X10_left, Or.inr ⟨175, rfl, rfl, sta_X10_left, Or.inl lk_X10_175⟩⟩ (Nat.le_of_ble_eq_true rfl) (Nat.le_of_ble_eq_true rfl) rfl (fun _ h => pc_X10_left hl h) h (fun v332 M331 h => ?_)
  refine p_istore (Nat.le_of_ble_eq_true rfl) rfl ?_
  refine p_iload rfl ?_
  refine p_bipush cb_64 ?_
  refine p_icmp_lt h 11 rfl rfl (fun _ h => ?_) (fun _ h => ?_)
  · refine p_lload_n rfl ?_
    refine p_iload rfl ?_
    refine p_lshl ?_
    exact p_lret rfl h
  · refine p_lconst cl_0 ?_
    refine p_goto 14 rfl rfl ?_
    exact p_lret rfl h
set_option maxRecDepth 100000 in
theorem pc_X10_daysLeaving {l : Launch} (hl : l.stackTraces = false) {M : PM} {a0 : Int32} {a1 : Int32} {a2 : Int64} {a3 : Int32} {r : PR} (h : F_X10_daysLeaving M a0 a1 a2 a3 = some r) : PC l 1 Y_X10_daysLeaving [vI a0, vI a1, vJ a2, vI a3] M r := pc_of hl (by decide +kernel) cok_X10_daysLeaving (Nat.le_of_ble_eq_true rfl) rfl (S_X10_daysLeaving hl  h) rfl
def F_X2_heldFrom_4 (M : PM) (a1 : Int32) (a2 : Int32) : Option PR := cI (F_X2_isLaw_4 M a1) fun v334 M333 => (if v334 = 0 then some (.inl (some (.long (0 : Int64))), M333) else if ixOK a1 12 = true then if ixOK a1 12 = true then if ixOK a1 12 = true then cJ (F_X10_daysLeaving M333 (mA M333 6 a1.toNatClampNeg) (mA M333 5 a1.toNatClampNeg) (mB M333 7 a1.toNatClampNeg) a2) fun v336 M335 => some (.inl (some (.long v336)), M335) else none else none else none)
set_option maxRecDepth 100000 in
theorem S_X2_heldFrom_4 {l : Launch} (hl : l.stackTraces = false) {M : PM} {a1 : Int32} {a2 : Int32} {r : PR} (h : F_X2_heldFrom_4 M a1 a2 = some r) : PW l 2 Y_X2_heldFrom k_X2_heldFrom [vR 4, vI a1, vI a2] [] M r := by
  unfold F_X2_heldFrom_4 at h
  refine p_aload_n rfl ?_
  refine p_iload_n rfl ?_
  refine p_cI (av := [_, _]) ⟨mok_X2_isLaw, Or.inl ⟨50, 4, 2, 0, _, rfl, rfl, rfl, gt_4, rfl, ins_X2_isLaw, Or.inl lk_X2_50⟩⟩ (Nat.le_of_ble_eq_true rfl) (Nat.le_of_ble_eq_true rfl) rfl (fun _ h => pc_X2_isLaw_4 hl h) h (fun v334 M333 h => ?_)
  refine p_if_eq h 19 rfl rfl (fun _ h => ?_) (fun _ h => ?_)
  · refine p_lconst cl_0 ?_
    exact p_lret rfl h
  · refine p_aload_n rfl ?_
    refine p_getR fk_X2_21 gt_4 rfl rfl ?_
    refine p_iload_n rfl ?_
    refine p_iald gt_6 h (fun h => ?_)
    refine p_aload_n rfl ?_
    refine p_getR fk_X2_15 gt_4 rfl rfl ?_
    refine p_iload_n rfl ?_
    refine p_iald gt_5 h (fun h => ?_)
    refine p_aload_n rfl ?_
    refine p_getR fk_X2_24 gt_4 rfl rfl ?_
    refine p_iload_n rfl ?_
    refine p_lald gt_7 h (fun h => ?_)
    refine p_iload_n rfl ?_
    refine p_cJ (av := [_, _, _, _]) ⟨mok_X10_daysLeaving, Or.inr ⟨57, rfl, rfl, sta_X10_daysLeaving, Or.inr lk_X2_57⟩⟩ (Nat.le_of_ble_eq_true rfl) (Nat.le_of_ble_eq_true rfl) rfl (fun _ h => pc_X10_daysLeaving hl h) h (fun v336 M335 h => ?_)
    refine p_goto 20 rfl rfl ?_
    exact p_lret rfl h
set_option maxRecDepth 100000 in
theorem pc_X2_heldFrom_4 {l : Launch} (hl : l.stackTraces = false) {M : PM} {a1 : Int32} {a2 : Int32} {r : PR} (h : F_X2_heldFrom_4 M a1 a2 = some r) : PC l 2 Y_X2_heldFrom [vR 4, vI a1, vI a2] M r := pc_of hl (by decide +kernel) cok_X2_heldFrom (Nat.le_of_ble_eq_true rfl) rfl (S_X2_heldFrom_4 hl  h) rfl
def F_X2_isLaw_9 (M : PM) (a1 : Int32) : Option PR := (if a1 < 0 then (if (0 : Int32) &&& 1 = 0 then some (.inl (some (.int 0)), M) else none) else (if mI M 9 4 ≤ a1 then (if (0 : Int32) &&& 1 = 0 then some (.inl (some (.int 0)), M) else none) else (if (1 : Int32) &&& 1 = 1 then some (.inl (some (.int 1)), M) else none)))
set_option maxRecDepth 100000 in
theorem S_X2_isLaw_9 {l : Launch} (hl : l.stackTraces = false) {M : PM} {a1 : Int32} {r : PR} (h : F_X2_isLaw_9 M a1 = some r) : PW l 0 Y_X2_isLaw k_X2_isLaw [vR 9, vI a1] [] M r := by
  unfold F_X2_isLaw_9 at h
  refine p_iload_n rfl ?_
  refine p_if_lt h 8 rfl rfl (fun _ h => ?_) (fun _ h => ?_)
  · refine p_iconst cn_0 ?_
    exact p_zret rfl h
  · refine p_iload_n rfl ?_
    refine p_aload_n rfl ?_
    refine p_getI fk_X2_31 gt_9 rfl ?_
    refine p_icmp_ge h 8 rfl rfl (fun _ h => ?_) (fun _ h => ?_)
    · refine p_iconst cn_0 ?_
      exact p_zret rfl h
    · refine p_iconst cn_1 ?_
      refine p_goto 9 rfl rfl ?_
      exact p_zret rfl h
set_option maxRecDepth 100000 in
theorem pc_X2_isLaw_9 {l : Launch} (hl : l.stackTraces = false) {M : PM} {a1 : Int32} {r : PR} (h : F_X2_isLaw_9 M a1 = some r) : PC l 0 Y_X2_isLaw [vR 9, vI a1] M r := pc_of hl (by decide +kernel) cok_X2_isLaw (Nat.le_of_ble_eq_true rfl) rfl (S_X2_isLaw_9 hl  h) rfl
def F_X2_heldFrom_9 (M : PM) (a1 : Int32) (a2 : Int32) : Option PR := cI (F_X2_isLaw_9 M a1) fun v338 M337 => (if v338 = 0 then some (.inl (some (.long (0 : Int64))), M337) else if ixOK a1 6 = true then if ixOK a1 6 = true then if ixOK a1 6 = true then cJ (F_X10_daysLeaving M337 (mA M337 11 a1.toNatClampNeg) (mA M337 10 a1.toNatClampNeg) (mB M337 12 a1.toNatClampNeg) a2) fun v340 M339 => some (.inl (some (.long v340)), M339) else none else none else none)
set_option maxRecDepth 100000 in
theorem S_X2_heldFrom_9 {l : Launch} (hl : l.stackTraces = false) {M : PM} {a1 : Int32} {a2 : Int32} {r : PR} (h : F_X2_heldFrom_9 M a1 a2 = some r) : PW l 2 Y_X2_heldFrom k_X2_heldFrom [vR 9, vI a1, vI a2] [] M r := by
  unfold F_X2_heldFrom_9 at h
  refine p_aload_n rfl ?_
  refine p_iload_n rfl ?_
  refine p_cI (av := [_, _]) ⟨mok_X2_isLaw, Or.inl ⟨50, 9, 2, 0, _, rfl, rfl, rfl, gt_9, rfl, ins_X2_isLaw, Or.inl lk_X2_50⟩⟩ (Nat.le_of_ble_eq_true rfl) (Nat.le_of_ble_eq_true rfl) rfl (fun _ h => pc_X2_isLaw_9 hl h) h (fun v338 M337 h => ?_)
  refine p_if_eq h 19 rfl rfl (fun _ h => ?_) (fun _ h => ?_)
  · refine p_lconst cl_0 ?_
    exact p_lret rfl h
  · refine p_aload_n rfl ?_
    refine p_getR fk_X2_21 gt_9 rfl rfl ?_
    refine p_iload_n rfl ?_
    refine p_iald gt_11 h (fun h => ?_)
    refine p_aload_n rfl ?_
    refine p_getR fk_X2_15 gt_9 rfl rfl ?_
    refine p_iload_n rfl ?_
    refine p_iald gt_10 h (fun h => ?_)
    refine p_aload_n rfl ?_
    refine p_getR fk_X2_24 gt_9 rfl rfl ?_
    refine p_iload_n rfl ?_
    refine p_lald gt_12 h (fun h => ?_)
    refine p_iload_n rfl ?_
    refine p_cJ (av := [_, _, _, _]) ⟨mok_X10_daysLeaving, Or.inr ⟨57, rfl, rfl, sta_X10_daysLeaving, Or.inr lk_X2_57⟩⟩ (Nat.le_of_ble_eq_true rfl) (Nat.le_of_ble_eq_true rfl) rfl (fun _ h => pc_X10_daysLeaving hl h) h (fun v340 M339 h => ?_)
    refine p_goto 20 rfl rfl ?_
    exact p_lret rfl h
set_option maxRecDepth 100000 in
theorem pc_X2_heldFrom_9 {l : Launch} (hl : l.stackTraces = false) {M : PM} {a1 : Int32} {a2 : Int32} {r : PR} (h : F_X2_heldFrom_9 M a1 a2 = some r) : PC l 2 Y_X2_heldFrom [vR 9, vI a1, vI a2] M r := pc_of hl (by decide +kernel) cok_X2_heldFrom (Nat.le_of_ble_eq_true rfl) rfl (S_X2_heldFrom_9 hl  h) rfl
def F_X2_justSoMany_4_68 (M : PM) (x1 : Int32) (t0 : Int64) (t1 : Int64) : Option PR := lt (t0 &&& t1) fun y341 => (if x1 &&& 8 = 0 then some (.inl (some (.long (y341 &&& ((mJ M 4 8) ^^^ (-1 : Int64))))), M) else some (.inl (some (.long (y341 &&& (mJ M 4 8)))), M))
def F_X2_justSoMany_4_44 (M : PM) (x1 : Int32) (t0 : Int64) (t1 : Int64) : Option PR := lt (t0 &&& t1) fun y342 => (if x1 &&& 4 = 0 then F_X2_justSoMany_4_68 M x1 y342 ((mJ M 4 7) ^^^ (-1 : Int64)) else F_X2_justSoMany_4_68 M x1 y342 (mJ M 4 7))
def F_X2_justSoMany_4_21 (M : PM) (x1 : Int32) (t0 : Int64) : Option PR := (if x1 &&& 2 = 0 then F_X2_justSoMany_4_44 M x1 t0 ((mJ M 4 6) ^^^ (-1 : Int64)) else F_X2_justSoMany_4_44 M x1 t0 (mJ M 4 6))
def F_X2_justSoMany_4 (M : PM) (a1 : Int32) : Option PR := (if a1 &&& 1 = 0 then F_X2_justSoMany_4_21 M a1 ((mJ M 4 5) ^^^ (-1 : Int64)) else F_X2_justSoMany_4_21 M a1 (mJ M 4 5))
set_option maxRecDepth 100000 in
theorem S_X2_justSoMany_4_68 {l : Launch} (hl : l.stackTraces = false) {M : PM} {x1 : Int32} {t0 : Int64} {t1 : Int64} {r : PR} (h : F_X2_justSoMany_4_68  M x1 t0 t1 = some r) : PW l 0 Y_X2_justSoMany k_X2_justSoMany_68 [vR 4, vI x1, jk, jk] [vJ t1, vJ t0] M r := by
  unfold F_X2_justSoMany_4_68 at h
  refine p_land ?_
  have h := lt_h h
  refine p_lstore_n (Nat.le_of_ble_eq_true rfl) rfl ?_
  refine p_lload_n rfl ?_
  refine p_iload_n rfl ?_
  refine p_bipush cb_8 ?_
  refine p_iand ?_
  refine p_if_eq h 48 rfl rfl (fun _ h => ?_) (fun _ h => ?_)
  · refine p_aload_n rfl ?_
    refine p_getJ fk_X2_96 gt_4 rfl ?_
    refine p_ldc2_w co_X2_103 ?_
    refine p_lxor ?_
    refine p_land ?_
    exact p_lret rfl h
  · refine p_aload_n rfl ?_
    refine p_getJ fk_X2_96 gt_4 rfl ?_
    refine p_goto 52 rfl rfl ?_
    refine p_land ?_
    exact p_lret rfl h
set_option maxRecDepth 100000 in
theorem S_X2_justSoMany_4_44 {l : Launch} (hl : l.stackTraces = false) {M : PM} {x1 : Int32} {t0 : Int64} {t1 : Int64} {r : PR} (h : F_X2_justSoMany_4_44  M x1 t0 t1 = some r) : PW l 0 Y_X2_justSoMany k_X2_justSoMany_44 [vR 4, vI x1, jk, jk] [vJ t1, vJ t0] M r := by
  unfold F_X2_justSoMany_4_44 at h
  refine p_land ?_
  have h := lt_h h
  refine p_lstore_n (Nat.le_of_ble_eq_true rfl) rfl ?_
  refine p_lload_n rfl ?_
  refine p_iload_n rfl ?_
  refine p_iconst cn_4 ?_
  refine p_iand ?_
  refine p_if_eq h 34 rfl rfl (fun _ h => ?_) (fun _ h => ?_)
  · refine p_aload_n rfl ?_
    refine p_getJ fk_X2_93 gt_4 rfl ?_
    refine p_ldc2_w co_X2_103 ?_
    refine p_lxor ?_
    exact p_fg (S_X2_justSoMany_4_68 hl h) ⟨Or.inr rfl, Or.inr rfl, Or.inl rfl, Or.inl rfl, trivial⟩
  · refine p_aload_n rfl ?_
    refine p_getJ fk_X2_93 gt_4 rfl ?_
    refine p_goto 38 rfl rfl ?_
    exact p_fg (S_X2_justSoMany_4_68 hl h) ⟨Or.inr rfl, Or.inr rfl, Or.inl rfl, Or.inl rfl, trivial⟩
set_option maxRecDepth 100000 in
theorem S_X2_justSoMany_4_21 {l : Launch} (hl : l.stackTraces = false) {M : PM} {x1 : Int32} {t0 : Int64} {r : PR} (h : F_X2_justSoMany_4_21  M x1 t0 = some r) : PW l 0 Y_X2_justSoMany k_X2_justSoMany_21 [vR 4, vI x1, jk, jk] [vJ t0] M r := by
  unfold F_X2_justSoMany_4_21 at h
  refine p_lstore_n (Nat.le_of_ble_eq_true rfl) rfl ?_
  refine p_lload_n rfl ?_
  refine p_iload_n rfl ?_
  refine p_iconst cn_2 ?_
  refine p_iand ?_
  refine p_if_eq h 20 rfl rfl (fun _ h => ?_) (fun _ h => ?_)
  · refine p_aload_n rfl ?_
    refine p_getJ fk_X2_90 gt_4 rfl ?_
    refine p_ldc2_w co_X2_103 ?_
    refine p_lxor ?_
    exact p_fg (S_X2_justSoMany_4_44 hl h) ⟨Or.inr rfl, Or.inr rfl, Or.inl rfl, Or.inl rfl, trivial⟩
  · refine p_aload_n rfl ?_
    refine p_getJ fk_X2_90 gt_4 rfl ?_
    refine p_goto 24 rfl rfl ?_
    exact p_fg (S_X2_justSoMany_4_44 hl h) ⟨Or.inr rfl, Or.inr rfl, Or.inl rfl, Or.inl rfl, trivial⟩
set_option maxRecDepth 100000 in
theorem S_X2_justSoMany_4 {l : Launch} (hl : l.stackTraces = false) {M : PM} {a1 : Int32} {r : PR} (h : F_X2_justSoMany_4 M a1 = some r) : PW l 0 Y_X2_justSoMany k_X2_justSoMany [vR 4, vI a1, jk, jk] [] M r := by
  unfold F_X2_justSoMany_4 at h
  refine p_iload_n rfl ?_
  refine p_iconst cn_1 ?_
  refine p_iand ?_
  refine p_if_eq h 7 rfl rfl (fun _ h => ?_) (fun _ h => ?_)
  · refine p_aload_n rfl ?_
    refine p_getJ fk_X2_86 gt_4 rfl ?_
    refine p_ldc2_w co_X2_103 ?_
    refine p_lxor ?_
    exact p_fg (S_X2_justSoMany_4_21 hl h) ⟨Or.inr rfl, Or.inr rfl, Or.inl rfl, Or.inl rfl, trivial⟩
  · refine p_aload_n rfl ?_
    refine p_getJ fk_X2_86 gt_4 rfl ?_
    refine p_goto 11 rfl rfl ?_
    exact p_fg (S_X2_justSoMany_4_21 hl h) ⟨Or.inr rfl, Or.inr rfl, Or.inl rfl, Or.inl rfl, trivial⟩
set_option maxRecDepth 100000 in
theorem pc_X2_justSoMany_4 {l : Launch} (hl : l.stackTraces = false) {M : PM} {a1 : Int32} {r : PR} (h : F_X2_justSoMany_4 M a1 = some r) : PC l 0 Y_X2_justSoMany [vR 4, vI a1] M r := pc_of hl (by decide +kernel) cok_X2_justSoMany (Nat.le_of_ble_eq_true rfl) rfl (S_X2_justSoMany_4 hl  h) rfl
def F_X7_daysOf_76 (M : PM) (a1 : Int32) (a2 : Int32) (a3 : Int32) : Option PR := if ixOK a1 100 = true then lt (mA M 78 a1.toNatClampNeg) fun y343 => if ixOK a1 100 = true then (if mA M 77 a1.toNatClampNeg = 0 then cJ (F_X2_heldFrom_4 M y343 a3) fun v345 M344 => some (.inl (some (.long v345)), M344) else if mA M 77 a1.toNatClampNeg = 1 then cJ (F_X2_justSoMany_4 M y343) fun v347 M346 => some (.inl (some (.long v347)), M346) else if mA M 77 a1.toNatClampNeg = 2 then if ixOK a1 100 = true then if ixOK a1 100 = true then cJ (F_X10_daysLeaving M (mA M 79 a1.toNatClampNeg) y343 (mB M 80 a1.toNatClampNeg) a2) fun v349 M348 => some (.inl (some (.long v349)), M348) else none else none else if mA M 77 a1.toNatClampNeg = 3 then if ixOK a1 100 = true then if ixOK a1 100 = true then cI (F_X3_aheadOf_16 M y343 (mA M 79 a1.toNatClampNeg)) fun v351 M350 => cJ (F_X2_heldFrom_4 M350 (mA M 79 a1.toNatClampNeg) (a3 + v351)) fun v353 M352 => some (.inl (some (.long v353)), M352) else none else none else cJ (F_X2_heldFrom_9 M y343 a3) fun v355 M354 => some (.inl (some (.long v355)), M354)) else none else none
set_option maxRecDepth 100000 in
theorem S_X7_daysOf_76 {l : Launch} (hl : l.stackTraces = false) {M : PM} {a1 : Int32} {a2 : Int32} {a3 : Int32} {r : PR} (h : F_X7_daysOf_76 M a1 a2 a3 = some r) : PW l 3 Y_X7_daysOf k_X7_daysOf [vR 76, vI a1, vI a2, vI a3, jk] [] M r := by
  unfold F_X7_daysOf_76 at h
  refine p_aload_n rfl ?_
  refine p_getR fk_X7_15 gt_76 rfl rfl ?_
  refine p_iload_n rfl ?_
  refine p_iald gt_78 h (fun h => ?_)
  have h := lt_h h
  refine p_istore (Nat.le_of_ble_eq_true rfl) rfl ?_
  refine p_aload_n rfl ?_
  refine p_getR fk_X7_11 gt_76 rfl rfl ?_
  refine p_iload_n rfl ?_
  refine p_iald gt_77 h (fun h => ?_)
  refine p_ts4 h 10 rfl rfl 17 rfl rfl 23 rfl rfl 35 rfl rfl 54 rfl rfl (fun _ h => ?_) (fun _ h => ?_) (fun _ h => ?_) (fun _ h => ?_) (fun h => ?_)
  · refine p_aload_n rfl ?_
    refine p_getR fk_X7_32 gt_76 rfl rfl ?_
    refine p_getR fk_X7_66 gt_3 rfl rfl ?_
    refine p_iload rfl ?_
    refine p_iload_n rfl ?_
    refine p_cJ (av := [_, _, _]) ⟨mok_X2_heldFrom, Or.inl ⟨82, 4, 2, 0, _, rfl, rfl, rfl, gt_4, rfl, ins_X2_heldFrom, Or.inr lk_X7_82⟩⟩ (Nat.le_of_ble_eq_true rfl) (Nat.le_of_ble_eq_true rfl) rfl (fun _ h => pc_X2_heldFrom_4 hl h) h (fun v345 M344 h => ?_)
    exact p_lret rfl h
  · refine p_aload_n rfl ?_
    refine p_getR fk_X7_32 gt_76 rfl rfl ?_
    refine p_getR fk_X7_66 gt_3 rfl rfl ?_
    refine p_iload rfl ?_
    refine p_cJ (av := [_, _]) ⟨mok_X2_justSoMany, Or.inl ⟨86, 4, 2, 0, _, rfl, rfl, rfl, gt_4, rfl, ins_X2_justSoMany, Or.inr lk_X7_86⟩⟩ (Nat.le_of_ble_eq_true rfl) (Nat.le_of_ble_eq_true rfl) rfl (fun _ h => pc_X2_justSoMany_4 hl h) h (fun v347 M346 h => ?_)
    exact p_lret rfl h
  · refine p_aload_n rfl ?_
    refine p_getR fk_X7_18 gt_76 rfl rfl ?_
    refine p_iload_n rfl ?_
    refine p_iald gt_79 h (fun h => ?_)
    refine p_iload rfl ?_
    refine p_aload_n rfl ?_
    refine p_getR fk_X7_21 gt_76 rfl rfl ?_
    refine p_iload_n rfl ?_
    refine p_lald gt_80 h (fun h => ?_)
    refine p_iload_n rfl ?_
    refine p_cJ (av := [_, _, _, _]) ⟨mok_X10_daysLeaving, Or.inr ⟨89, rfl, rfl, sta_X10_daysLeaving, Or.inr lk_X7_89⟩⟩ (Nat.le_of_ble_eq_true rfl) (Nat.le_of_ble_eq_true rfl) rfl (fun _ h => pc_X10_daysLeaving hl h) h (fun v349 M348 h => ?_)
    exact p_lret rfl h
  · refine p_aload_n rfl ?_
    refine p_getR fk_X7_32 gt_76 rfl rfl ?_
    refine p_getR fk_X7_66 gt_3 rfl rfl ?_
    refine p_aload_n rfl ?_
    refine p_getR fk_X7_18 gt_76 rfl rfl ?_
    refine p_iload_n rfl ?_
    refine p_iald gt_79 h (fun h => ?_)
    refine p_iload_n rfl ?_
    refine p_aload_n rfl ?_
    refine p_getR fk_X7_36 gt_76 rfl rfl ?_
    refine p_iload rfl ?_
    refine p_aload_n rfl ?_
    refine p_getR fk_X7_18 gt_76 rfl rfl ?_
    refine p_iload_n rfl ?_
    refine p_iald gt_79 h (fun h => ?_)
    refine p_cI (av := [_, _, _]) ⟨mok_X3_aheadOf, Or.inl ⟨93, 16, 3, 0, _, rfl, rfl, rfl, gt_16, rfl, ins_X3_aheadOf, Or.inr lk_X7_93⟩⟩ (Nat.le_of_ble_eq_true rfl) (Nat.le_of_ble_eq_true rfl) rfl (fun _ h => pc_X3_aheadOf_16 hl h) h (fun v351 M350 h => ?_)
    refine p_iadd ?_
    refine p_cJ (av := [_, _, _]) ⟨mok_X2_heldFrom, Or.inl ⟨82, 4, 2, 0, _, rfl, rfl, rfl, gt_4, rfl, ins_X2_heldFrom, Or.inr lk_X7_82⟩⟩ (Nat.le_of_ble_eq_true rfl) (Nat.le_of_ble_eq_true rfl) rfl (fun _ h => pc_X2_heldFrom_4 hl h) h (fun v353 M352 h => ?_)
    exact p_lret rfl h
  · refine p_aload_n rfl ?_
    refine p_getR fk_X7_32 gt_76 rfl rfl ?_
    refine p_getR fk_X7_98 gt_3 rfl rfl ?_
    refine p_iload rfl ?_
    refine p_iload_n rfl ?_
    refine p_cJ (av := [_, _, _]) ⟨mok_X2_heldFrom, Or.inl ⟨82, 9, 2, 0, _, rfl, rfl, rfl, gt_9, rfl, ins_X2_heldFrom, Or.inr lk_X7_82⟩⟩ (Nat.le_of_ble_eq_true rfl) (Nat.le_of_ble_eq_true rfl) rfl (fun _ h => pc_X2_heldFrom_9 hl h) h (fun v355 M354 h => ?_)
    exact p_lret rfl h
set_option maxRecDepth 100000 in
theorem pc_X7_daysOf_76 {l : Launch} (hl : l.stackTraces = false) {M : PM} {a1 : Int32} {a2 : Int32} {a3 : Int32} {r : PR} (h : F_X7_daysOf_76 M a1 a2 a3 = some r) : PC l 3 Y_X7_daysOf [vR 76, vI a1, vI a2, vI a3] M r := pc_of hl (by decide +kernel) cok_X7_daysOf (Nat.le_of_ble_eq_true rfl) rfl (S_X7_daysOf_76 hl  h) rfl
def F_X2_tally_4_22 : Nat → PM → Int32 → Int32 → Option PR
  | 0, _, _, _ => none
  | n + 1, M, x1, x2 => (if mI M 4 4 ≤ x2 then some (.inl none, M) else cJ (F_X2_heldFrom_4 M x2 x1) fun v357 M356 => lt ((mJ M356 4 5) &&& v357) fun y358 => lt ((mJ M356 4 6) &&& y358) fun y359 => lt ((mJ M356 4 7) &&& y359) fun y360 => lt (sJ (sJ (sJ M356 4 5 ((mJ M356 4 5) ^^^ v357)) 4 6 ((mJ (sJ M356 4 5 ((mJ M356 4 5) ^^^ v357)) 4 6) ^^^ y358)) 4 7 ((mJ (sJ (sJ M356 4 5 ((mJ M356 4 5) ^^^ v357)) 4 6 ((mJ (sJ M356 4 5 ((mJ M356 4 5) ^^^ v357)) 4 6) ^^^ y358)) 4 7) ^^^ y359)) fun M361 => lt (x2 + 1) fun y362 => F_X2_tally_4_22 n (sJ M361 4 8 ((mJ M361 4 8) ^^^ y360)) x1 y362)
def F_X2_tally_4 (M : PM) (a1 : Int32) : Option PR := F_X2_tally_4_22 FUEL (sJ (sJ (sJ (sJ M 4 5 (0 : Int64)) 4 6 (0 : Int64)) 4 7 (0 : Int64)) 4 8 (0 : Int64)) a1 0
set_option maxRecDepth 100000 in
theorem S_X2_tally_4_22 {l : Launch} (hl : l.stackTraces = false) : ∀ (n : Nat) {M : PM} {x1 : Int32} {x2 : Int32} {r : PR}, F_X2_tally_4_22  n M x1 x2 = some r → PW l 3 Y_X2_tally k_X2_tally_22 [vR 4, vI x1, vI x2, jk, jk, jk, jk, jk, jk, jk, jk] [] M r := by
  intro n
  induction n with
  | zero => intro M x1 x2 r h; exact nomatch (show (none : Option PR) = some r from h)
  | succ n ih =>
    intro M x1 x2 r h
    rw [F_X2_tally_4_22] at h
    refine p_iload_n rfl ?_
    refine p_aload_n rfl ?_
    refine p_getI fk_X2_31 gt_4 rfl ?_
    refine p_icmp_ge h 64 rfl rfl (fun _ h => ?_) (fun _ h => ?_)
    · exact p_ret rfl h
    · refine p_aload_n rfl ?_
      refine p_iload_n rfl ?_
      refine p_iload_n rfl ?_
      refine p_cJ (av := [_, _, _]) ⟨mok_X2_heldFrom, Or.inl ⟨99, 4, 2, 0, _, rfl, rfl, rfl, gt_4, rfl, ins_X2_heldFrom, Or.inl lk_X2_99⟩⟩ (Nat.le_of_ble_eq_true rfl) (Nat.le_of_ble_eq_true rfl) rfl (fun _ h => pc_X2_heldFrom_4 hl h) h (fun v357 M356 h => ?_)
      refine p_lstore_n (Nat.le_of_ble_eq_true rfl) rfl ?_
      refine p_aload_n rfl ?_
      refine p_getJ fk_X2_86 gt_4 rfl ?_
      refine p_lload_n rfl ?_
      refine p_land ?_
      have h := lt_h h
      refine p_lstore (Nat.le_of_ble_eq_true rfl) rfl ?_
      refine p_aload_n rfl ?_
      refine p_getJ fk_X2_90 gt_4 rfl ?_
      refine p_lload rfl ?_
      refine p_land ?_
      have h := lt_h h
      refine p_lstore (Nat.le_of_ble_eq_true rfl) rfl ?_
      refine p_aload_n rfl ?_
      refine p_getJ fk_X2_93 gt_4 rfl ?_
      refine p_lload rfl ?_
      refine p_land ?_
      have h := lt_h h
      refine p_lstore (Nat.le_of_ble_eq_true rfl) rfl ?_
      refine p_aload_n rfl ?_
      refine p_dup rfl ?_
      refine p_getJ fk_X2_86 gt_4 rfl ?_
      refine p_lload_n rfl ?_
      refine p_lxor ?_
      refine p_putJ fk_X2_86 gt_4 rfl ?_
      refine p_aload_n rfl ?_
      refine p_dup rfl ?_
      refine p_getJ fk_X2_90 gt_4 rfl ?_
      refine p_lload rfl ?_
      refine p_lxor ?_
      refine p_putJ fk_X2_90 gt_4 rfl ?_
      refine p_aload_n rfl ?_
      refine p_dup rfl ?_
      refine p_getJ fk_X2_93 gt_4 rfl ?_
      refine p_lload rfl ?_
      refine p_lxor ?_
      refine p_putJ fk_X2_93 gt_4 rfl ?_
      have h := lt_h h
      refine p_aload_n rfl ?_
      refine p_dup rfl ?_
      refine p_getJ fk_X2_96 gt_4 rfl ?_
      refine p_lload rfl ?_
      refine p_lxor ?_
      refine p_putJ fk_X2_96 gt_4 rfl ?_
      have h := lt_h h
      refine p_iinc (Nat.le_of_ble_eq_true rfl) rfl (ci_1 _) rfl ?_
      refine p_goto 14 rfl rfl ?_
      exact p_fg (ih h) ⟨Or.inr rfl, Or.inr rfl, Or.inr rfl, Or.inl rfl, Or.inl rfl, Or.inl rfl, Or.inl rfl, Or.inl rfl, Or.inl rfl, Or.inl rfl, Or.inl rfl, trivial⟩
set_option maxRecDepth 100000 in
theorem S_X2_tally_4 {l : Launch} (hl : l.stackTraces = false) {M : PM} {a1 : Int32} {r : PR} (h : F_X2_tally_4 M a1 = some r) : PW l 3 Y_X2_tally k_X2_tally [vR 4, vI a1, jk, jk, jk, jk, jk, jk, jk, jk, jk] [] M r := by
  unfold F_X2_tally_4 at h
  refine p_aload_n rfl ?_
  refine p_lconst cl_0 ?_
  refine p_putJ fk_X2_86 gt_4 rfl ?_
  refine p_aload_n rfl ?_
  refine p_lconst cl_0 ?_
  refine p_putJ fk_X2_90 gt_4 rfl ?_
  refine p_aload_n rfl ?_
  refine p_lconst cl_0 ?_
  refine p_putJ fk_X2_93 gt_4 rfl ?_
  refine p_aload_n rfl ?_
  refine p_lconst cl_0 ?_
  refine p_putJ fk_X2_96 gt_4 rfl ?_
  refine p_iconst cn_0 ?_
  refine p_istore_n (Nat.le_of_ble_eq_true rfl) rfl ?_
  exact p_fg (S_X2_tally_4_22 hl FUEL h) ⟨Or.inr rfl, Or.inr rfl, Or.inr rfl, Or.inl rfl, Or.inl rfl, Or.inl rfl, Or.inl rfl, Or.inl rfl, Or.inl rfl, Or.inl rfl, Or.inl rfl, trivial⟩
set_option maxRecDepth 100000 in
theorem pc_X2_tally_4 {l : Launch} (hl : l.stackTraces = false) {M : PM} {a1 : Int32} {r : PR} (h : F_X2_tally_4 M a1 = some r) : PC l 3 Y_X2_tally [vR 4, vI a1] M r := pc_of hl (by decide +kernel) cok_X2_tally (Nat.le_of_ble_eq_true rfl) rfl (S_X2_tally_4 hl  h) rfl
def F_X7_daysFrom_76_168 (k23 : PM → Int32 → Int32 → Int32 → Int32 → Option PR) (M : PM) (x1 : Int32) (x2 : Int32) (x3 : Int32) (x4 : Int32) : Option PR := lt (x4 + 1) fun y363 => k23 M x1 x2 x3 y363
def F_X7_daysFrom_76_167 (k23 : PM → Int32 → Int32 → Int32 → Int32 → Option PR) (M : PM) (x1 : Int32) (x2 : Int32) (x3 : Int32) (x4 : Int32) (t1 : Int32) (t2 : Int64) : Option PR := if ixOK t1 100 = true then F_X7_daysFrom_76_168 k23 (sB M 81 t1.toNatClampNeg t2) x1 x2 x3 x4 else none
def F_X7_daysFrom_76_107 (k23 : PM → Int32 → Int32 → Int32 → Int32 → Option PR) (M : PM) (x1 : Int32) (x2 : Int32) (x3 : Int32) (x4 : Int32) : Option PR := (if x3 ≤ 1 then F_X7_daysFrom_76_168 k23 M x1 x2 x3 x4 else lt (x3 + (-1)) fun y364 => if ixOK x4 100 = true then (if mA M 77 x4.toNatClampNeg = 6 then if ixOK (y364 - 1) 100 = true then if ixOK y364 100 = true then F_X7_daysFrom_76_167 k23 M x1 x2 y364 x4 (y364 - 1) ((mB M 81 (y364 - 1).toNatClampNeg) &&& (mB M 81 y364.toNatClampNeg)) else none else none else if ixOK (y364 - 1) 100 = true then if ixOK y364 100 = true then F_X7_daysFrom_76_167 k23 M x1 x2 y364 x4 (y364 - 1) ((mB M 81 (y364 - 1).toNatClampNeg) ||| (mB M 81 y364.toNatClampNeg)) else none else none) else none)
def F_X7_daysFrom_76_69 (k23 : PM → Int32 → Int32 → Int32 → Int32 → Option PR) (M : PM) (x1 : Int32) (x2 : Int32) (x3 : Int32) (x4 : Int32) : Option PR := if ixOK x4 100 = true then (if mA M 77 x4.toNatClampNeg = 5 then (if x3 ≤ 0 then F_X7_daysFrom_76_107 k23 M x1 x2 x3 x4 else if ixOK (x3 - 1) 100 = true then if ixOK (x3 - 1) 100 = true then F_X7_daysFrom_76_168 k23 (sB M 81 (x3 - 1).toNatClampNeg ((mB M 81 (x3 - 1).toNatClampNeg) ^^^ (-1 : Int64))) x1 x2 x3 x4 else none else none) else F_X7_daysFrom_76_107 k23 M x1 x2 x3 x4) else none
def F_X7_daysFrom_76_23 : Nat → PM → Int32 → Int32 → Int32 → Int32 → Option PR
  | 0, _, _, _, _, _ => none
  | n + 1, M, x1, x2, x3, x4 => (if mI M 76 7 ≤ x4 then (if x3 ≤ 0 then some (.inl (some (.long (-1 : Int64))), M) else if ixOK 0 100 = true then some (.inl (some (.long (mB M 81 (0 : Int32).toNatClampNeg))), M) else none) else if ixOK x4 100 = true then (if 5 ≤ mA M 77 x4.toNatClampNeg then F_X7_daysFrom_76_69 (F_X7_daysFrom_76_23 n) M x1 x2 x3 x4 else (if 100 ≤ x3 then F_X7_daysFrom_76_69 (F_X7_daysFrom_76_23 n) M x1 x2 x3 x4 else cJ (F_X7_daysOf_76 M x4 x1 x2) fun v366 M365 => if ixOK x3 100 = true then lt (x3 + 1) fun y367 => F_X7_daysFrom_76_168 (F_X7_daysFrom_76_23 n) (sB M365 81 x3.toNatClampNeg v366) x1 x2 y367 x4 else none)) else none)
def F_X7_daysFrom_76_18 (M : PM) (x1 : Int32) (x2 : Int32) : Option PR := F_X7_daysFrom_76_23 FUEL M x1 x2 0 0
def F_X7_daysFrom_76 (M : PM) (a1 : Int32) (a2 : Int32) : Option PR := (if mI M 76 8 = 0 then F_X7_daysFrom_76_18 M a1 a2 else cV (F_X2_tally_4 M a2) fun M368 => F_X7_daysFrom_76_18 M368 a1 a2)
set_option maxRecDepth 100000 in
theorem S_X7_daysFrom_76_168 {l : Launch} (hl : l.stackTraces = false) {k23 : PM → Int32 → Int32 → Int32 → Int32 → Option PR} (hk23 : ∀ {M : PM} {x1 : Int32} {x2 : Int32} {x3 : Int32} {x4 : Int32} {r : PR}, k23 M x1 x2 x3 x4 = some r → PW l 4 Y_X7_daysFrom k_X7_daysFrom_23 [vR 76, vI x1, vI x2, vI x3, vI x4] [] M r) {M : PM} {x1 : Int32} {x2 : Int32} {x3 : Int32} {x4 : Int32} {r : PR} (h : F_X7_daysFrom_76_168 k23 M x1 x2 x3 x4 = some r) : PW l 4 Y_X7_daysFrom k_X7_daysFrom_168 [vR 76, vI x1, vI x2, vI x3, vI x4] [] M r := by
  unfold F_X7_daysFrom_76_168 at h
  have h := lt_h h
  refine p_iinc (Nat.le_of_ble_eq_true rfl) rfl (ci_1 _) rfl ?_
  refine p_goto 12 rfl rfl ?_
  exact p_fg (hk23 h) ⟨Or.inr rfl, Or.inr rfl, Or.inr rfl, Or.inr rfl, Or.inr rfl, trivial⟩
set_option maxRecDepth 100000 in
theorem S_X7_daysFrom_76_167 {l : Launch} (hl : l.stackTraces = false) {k23 : PM → Int32 → Int32 → Int32 → Int32 → Option PR} (hk23 : ∀ {M : PM} {x1 : Int32} {x2 : Int32} {x3 : Int32} {x4 : Int32} {r : PR}, k23 M x1 x2 x3 x4 = some r → PW l 4 Y_X7_daysFrom k_X7_daysFrom_23 [vR 76, vI x1, vI x2, vI x3, vI x4] [] M r) {M : PM} {x1 : Int32} {x2 : Int32} {x3 : Int32} {x4 : Int32} {t1 : Int32} {t2 : Int64} {r : PR} (h : F_X7_daysFrom_76_167 k23 M x1 x2 x3 x4 t1 t2 = some r) : PW l 4 Y_X7_daysFrom k_X7_daysFrom_167 [vR 76, vI x1, vI x2, vI x3, vI x4] [vJ t2, vI t1, vR 81] M r := by
  unfold F_X7_daysFrom_76_167 at h
  refine p_last gt_81 h (fun h => ?_)
  exact p_fg (S_X7_daysFrom_76_168 hl hk23 h) ⟨Or.inr rfl, Or.inr rfl, Or.inr rfl, Or.inr rfl, Or.inr rfl, trivial⟩
set_option maxRecDepth 100000 in
theorem S_X7_daysFrom_76_107 {l : Launch} (hl : l.stackTraces = false) {k23 : PM → Int32 → Int32 → Int32 → Int32 → Option PR} (hk23 : ∀ {M : PM} {x1 : Int32} {x2 : Int32} {x3 : Int32} {x4 : Int32} {r : PR}, k23 M x1 x2 x3 x4 = some r → PW l 4 Y_X7_daysFrom k_X7_daysFrom_23 [vR 76, vI x1, vI x2, vI x3, vI x4] [] M r) {M : PM} {x1 : Int32} {x2 : Int32} {x3 : Int32} {x4 : Int32} {r : PR} (h : F_X7_daysFrom_76_107 k23 M x1 x2 x3 x4 = some r) : PW l 4 Y_X7_daysFrom k_X7_daysFrom_107 [vR 76, vI x1, vI x2, vI x3, vI x4] [] M r := by
  unfold F_X7_daysFrom_76_107 at h
  refine p_iload_n rfl ?_
  refine p_iconst cn_1 ?_
  refine p_icmp_le h 98 rfl rfl (fun _ h => ?_) (fun _ h => ?_)
  · exact p_fg (S_X7_daysFrom_76_168 hl hk23 h) ⟨Or.inr rfl, Or.inr rfl, Or.inr rfl, Or.inr rfl, Or.inr rfl, trivial⟩
  · have h := lt_h h
    refine p_iinc (Nat.le_of_ble_eq_true rfl) rfl (ci_m1 _) rfl ?_
    refine p_aload_n rfl ?_
    refine p_getR fk_X7_25 gt_76 rfl rfl ?_
    refine p_iload_n rfl ?_
    refine p_iconst cn_1 ?_
    refine p_isub ?_
    refine p_aload_n rfl ?_
    refine p_getR fk_X7_11 gt_76 rfl rfl ?_
    refine p_iload rfl ?_
    refine p_iald gt_77 h (fun h => ?_)
    refine p_bipush cb_6 ?_
    refine p_icmp_ne h 86 rfl rfl (fun _ h => ?_) (fun _ h => ?_)
    · refine p_aload_n rfl ?_
      refine p_getR fk_X7_25 gt_76 rfl rfl ?_
      refine p_iload_n rfl ?_
      refine p_iconst cn_1 ?_
      refine p_isub ?_
      refine p_lald gt_81 h (fun h => ?_)
      refine p_aload_n rfl ?_
      refine p_getR fk_X7_25 gt_76 rfl rfl ?_
      refine p_iload_n rfl ?_
      refine p_lald gt_81 h (fun h => ?_)
      refine p_land ?_
      refine p_goto 97 rfl rfl ?_
      exact p_fg (S_X7_daysFrom_76_167 hl hk23 h) ⟨Or.inr rfl, Or.inr rfl, Or.inr rfl, Or.inr rfl, Or.inr rfl, trivial⟩
    · refine p_aload_n rfl ?_
      refine p_getR fk_X7_25 gt_76 rfl rfl ?_
      refine p_iload_n rfl ?_
      refine p_iconst cn_1 ?_
      refine p_isub ?_
      refine p_lald gt_81 h (fun h => ?_)
      refine p_aload_n rfl ?_
      refine p_getR fk_X7_25 gt_76 rfl rfl ?_
      refine p_iload_n rfl ?_
      refine p_lald gt_81 h (fun h => ?_)
      refine p_lor ?_
      exact p_fg (S_X7_daysFrom_76_167 hl hk23 h) ⟨Or.inr rfl, Or.inr rfl, Or.inr rfl, Or.inr rfl, Or.inr rfl, trivial⟩
set_option maxRecDepth 100000 in
theorem S_X7_daysFrom_76_69 {l : Launch} (hl : l.stackTraces = false) {k23 : PM → Int32 → Int32 → Int32 → Int32 → Option PR} (hk23 : ∀ {M : PM} {x1 : Int32} {x2 : Int32} {x3 : Int32} {x4 : Int32} {r : PR}, k23 M x1 x2 x3 x4 = some r → PW l 4 Y_X7_daysFrom k_X7_daysFrom_23 [vR 76, vI x1, vI x2, vI x3, vI x4] [] M r) {M : PM} {x1 : Int32} {x2 : Int32} {x3 : Int32} {x4 : Int32} {r : PR} (h : F_X7_daysFrom_76_69 k23 M x1 x2 x3 x4 = some r) : PW l 4 Y_X7_daysFrom k_X7_daysFrom_69 [vR 76, vI x1, vI x2, vI x3, vI x4] [] M r := by
  unfold F_X7_daysFrom_76_69 at h
  refine p_aload_n rfl ?_
  refine p_getR fk_X7_11 gt_76 rfl rfl ?_
  refine p_iload rfl ?_
  refine p_iald gt_77 h (fun h => ?_)
  refine p_iconst cn_5 ?_
  refine p_icmp_ne h 59 rfl rfl (fun _ h => ?_) (fun _ h => ?_)
  · refine p_iload_n rfl ?_
    refine p_if_le h 59 rfl rfl (fun _ h => ?_) (fun _ h => ?_)
    · exact p_fg (S_X7_daysFrom_76_107 hl hk23 h) ⟨Or.inr rfl, Or.inr rfl, Or.inr rfl, Or.inr rfl, Or.inr rfl, trivial⟩
    · refine p_aload_n rfl ?_
      refine p_getR fk_X7_25 gt_76 rfl rfl ?_
      refine p_iload_n rfl ?_
      refine p_iconst cn_1 ?_
      refine p_isub ?_
      refine p_aload_n rfl ?_
      refine p_getR fk_X7_25 gt_76 rfl rfl ?_
      refine p_iload_n rfl ?_
      refine p_iconst cn_1 ?_
      refine p_isub ?_
      refine p_lald gt_81 h (fun h => ?_)
      refine p_ldc2_w co_X7_80 ?_
      refine p_lxor ?_
      refine p_last gt_81 h (fun h => ?_)
      refine p_goto 98 rfl rfl ?_
      exact p_fg (S_X7_daysFrom_76_168 hl hk23 h) ⟨Or.inr rfl, Or.inr rfl, Or.inr rfl, Or.inr rfl, Or.inr rfl, trivial⟩
  · exact p_fg (S_X7_daysFrom_76_107 hl hk23 h) ⟨Or.inr rfl, Or.inr rfl, Or.inr rfl, Or.inr rfl, Or.inr rfl, trivial⟩
set_option maxRecDepth 100000 in
theorem S_X7_daysFrom_76_23 {l : Launch} (hl : l.stackTraces = false) : ∀ (n : Nat) {M : PM} {x1 : Int32} {x2 : Int32} {x3 : Int32} {x4 : Int32} {r : PR}, F_X7_daysFrom_76_23  n M x1 x2 x3 x4 = some r → PW l 4 Y_X7_daysFrom k_X7_daysFrom_23 [vR 76, vI x1, vI x2, vI x3, vI x4] [] M r := by
  intro n
  induction n with
  | zero => intro M x1 x2 x3 x4 r h; exact nomatch (show (none : Option PR) = some r from h)
  | succ n ih =>
    intro M x1 x2 x3 x4 r h
    rw [F_X7_daysFrom_76_23] at h
    refine p_iload rfl ?_
    refine p_aload_n rfl ?_
    refine p_getI fk_X7_40 gt_76 rfl ?_
    refine p_icmp_ge h 100 rfl rfl (fun _ h => ?_) (fun _ h => ?_)
    · refine p_iload_n rfl ?_
      refine p_if_le h 107 rfl rfl (fun _ h => ?_) (fun _ h => ?_)
      · refine p_ldc2_w co_X7_80 ?_
        exact p_lret rfl h
      · refine p_aload_n rfl ?_
        refine p_getR fk_X7_25 gt_76 rfl rfl ?_
        refine p_iconst cn_0 ?_
        refine p_lald gt_81 h (fun h => ?_)
        refine p_goto 108 rfl rfl ?_
        exact p_lret rfl h
    · refine p_aload_n rfl ?_
      refine p_getR fk_X7_11 gt_76 rfl rfl ?_
      refine p_iload rfl ?_
      refine p_iald gt_77 h (fun h => ?_)
      refine p_iconst cn_5 ?_
      refine p_icmp_ge h 36 rfl rfl (fun _ h => ?_) (fun _ h => ?_)
      · exact p_fg (S_X7_daysFrom_76_69 hl (fun h => ih h) h) ⟨Or.inr rfl, Or.inr rfl, Or.inr rfl, Or.inr rfl, Or.inr rfl, trivial⟩
      · refine p_iload_n rfl ?_
        refine p_bipush cb_100 ?_
        refine p_icmp_ge h 36 rfl rfl (fun _ h => ?_) (fun _ h => ?_)
        · exact p_fg (S_X7_daysFrom_76_69 hl (fun h => ih h) h) ⟨Or.inr rfl, Or.inr rfl, Or.inr rfl, Or.inr rfl, Or.inr rfl, trivial⟩
        · refine p_aload_n rfl ?_
          refine p_getR fk_X7_25 gt_76 rfl rfl ?_
          refine p_iload_n rfl ?_
          refine p_aload_n rfl ?_
          refine p_iload rfl ?_
          refine p_iload_n rfl ?_
          refine p_iload_n rfl ?_
          refine p_cJ (av := [_, _, _, _]) ⟨mok_X7_daysOf, Or.inl ⟨76, 76, 7, 0, _, rfl, rfl, rfl, gt_76, rfl, ins_X7_daysOf, Or.inl lk_X7_76⟩⟩ (Nat.le_of_ble_eq_true rfl) (Nat.le_of_ble_eq_true rfl) rfl (fun _ h => pc_X7_daysOf_76 hl h) h (fun v366 M365 h => ?_)
          refine p_last gt_81 h (fun h => ?_)
          have h := lt_h h
          refine p_iinc (Nat.le_of_ble_eq_true rfl) rfl (ci_1 _) rfl ?_
          refine p_goto 98 rfl rfl ?_
          exact p_fg (S_X7_daysFrom_76_168 hl (fun h => ih h) h) ⟨Or.inr rfl, Or.inr rfl, Or.inr rfl, Or.inr rfl, Or.inr rfl, trivial⟩
set_option maxRecDepth 100000 in
theorem S_X7_daysFrom_76_18 {l : Launch} (hl : l.stackTraces = false) {M : PM} {x1 : Int32} {x2 : Int32} {r : PR} (h : F_X7_daysFrom_76_18  M x1 x2 = some r) : PW l 4 Y_X7_daysFrom k_X7_daysFrom_18 [vR 76, vI x1, vI x2, jk, jk] [] M r := by
  unfold F_X7_daysFrom_76_18 at h
  refine p_iconst cn_0 ?_
  refine p_istore_n (Nat.le_of_ble_eq_true rfl) rfl ?_
  refine p_iconst cn_0 ?_
  refine p_istore (Nat.le_of_ble_eq_true rfl) rfl ?_
  exact p_fg (S_X7_daysFrom_76_23 hl FUEL h) ⟨Or.inr rfl, Or.inr rfl, Or.inr rfl, Or.inr rfl, Or.inr rfl, trivial⟩
set_option maxRecDepth 100000 in
theorem S_X7_daysFrom_76 {l : Launch} (hl : l.stackTraces = false) {M : PM} {a1 : Int32} {a2 : Int32} {r : PR} (h : F_X7_daysFrom_76 M a1 a2 = some r) : PW l 4 Y_X7_daysFrom k_X7_daysFrom [vR 76, vI a1, vI a2, jk, jk] [] M r := by
  unfold F_X7_daysFrom_76 at h
  refine p_aload_n rfl ?_
  refine p_getZ fk_X7_43 gt_76 rfl ?_
  refine p_if_eq h 8 rfl rfl (fun _ h => ?_) (fun _ h => ?_)
  · exact p_fg (S_X7_daysFrom_76_18 hl h) ⟨Or.inr rfl, Or.inr rfl, Or.inr rfl, Or.inl rfl, Or.inl rfl, trivial⟩
  · refine p_aload_n rfl ?_
    refine p_getR fk_X7_32 gt_76 rfl rfl ?_
    refine p_getR fk_X7_66 gt_3 rfl rfl ?_
    refine p_iload_n rfl ?_
    refine p_cV (av := [_, _]) ⟨mok_X2_tally, Or.inl ⟨70, 4, 2, 0, _, rfl, rfl, rfl, gt_4, rfl, ins_X2_tally, Or.inr lk_X7_70⟩⟩ (Nat.le_of_ble_eq_true rfl) (Nat.le_of_ble_eq_true rfl) rfl (fun _ h => pc_X2_tally_4 hl h) h (fun M368 h => ?_)
    exact p_fg (S_X7_daysFrom_76_18 hl h) ⟨Or.inr rfl, Or.inr rfl, Or.inr rfl, Or.inl rfl, Or.inl rfl, trivial⟩
set_option maxRecDepth 100000 in
theorem pc_X7_daysFrom_76 {l : Launch} (hl : l.stackTraces = false) {M : PM} {a1 : Int32} {a2 : Int32} {r : PR} (h : F_X7_daysFrom_76 M a1 a2 = some r) : PC l 4 Y_X7_daysFrom [vR 76, vI a1, vI a2] M r := pc_of hl (by decide +kernel) cok_X7_daysFrom (Nat.le_of_ble_eq_true rfl) rfl (S_X7_daysFrom_76 hl  h) rfl
def F_X10_such_0 (M : PM) (a1 : Int32) : Option PR := bV (F_X10_needDay_0 M a1) fun M369 => cI (F_X0_turnsOn_3 M369 a1) fun v371 M370 => cJ (F_X7_daysFrom_76 M370 a1 v371) fun v373 M372 => (if lg_cmp (v373 &&& (1 : Int64)) (0 : Int64) = 0 then (if (0 : Int32) &&& 1 = 0 then some (.inl (some (.int 0)), M372) else none) else (if (1 : Int32) &&& 1 = 1 then some (.inl (some (.int 1)), M372) else none))
set_option maxRecDepth 100000 in
theorem S_X10_such_0 {l : Launch} (hl : l.stackTraces = false) {M : PM} {a1 : Int32} {r : PR} (h : F_X10_such_0 M a1 = some r) : PW l 7 Y_X10_such k_X10_such [vR 0, vI a1] [] M r := by
  unfold F_X10_such_0 at h
  refine p_aload_n rfl ?_
  refine p_iload_n rfl ?_
  refine p_bV mok_X10_needDay rfl gt_0 rfl ins_X10_needDay lk_X10_182 (Nat.le_of_ble_eq_true rfl) (Nat.le_of_ble_eq_true rfl) rfl (fun _ h => pc_X10_needDay_0 hl h) h (fun M369 h => ?_)
  refine p_aload_n rfl ?_
  refine p_getR fk_X10_47 gt_0 rfl rfl ?_
  refine p_iload_n rfl ?_
  refine p_aload_n rfl ?_
  refine p_getR fk_X10_27 gt_0 rfl rfl ?_
  refine p_iload_n rfl ?_
  refine p_cI (av := [_, _]) ⟨mok_X0_turnsOn, Or.inl ⟨185, 3, 0, 0, _, rfl, rfl, rfl, gt_3, rfl, ins_X0_turnsOn, Or.inr lk_X10_185⟩⟩ (Nat.le_of_ble_eq_true rfl) (Nat.le_of_ble_eq_true rfl) rfl (fun _ h => pc_X0_turnsOn_3 hl h) h (fun v371 M370 h => ?_)
  refine p_cJ (av := [_, _, _]) ⟨mok_X7_daysFrom, Or.inl ⟨194, 76, 7, 0, _, rfl, rfl, rfl, gt_76, rfl, ins_X7_daysFrom, Or.inr lk_X10_194⟩⟩ (Nat.le_of_ble_eq_true rfl) (Nat.le_of_ble_eq_true rfl) rfl (fun _ h => pc_X7_daysFrom_76 hl h) h (fun v373 M372 h => ?_)
  refine p_lconst cl_1 ?_
  refine p_land ?_
  refine p_lconst cl_0 ?_
  refine p_lcmp ?_
  refine p_if_eq h 18 rfl rfl (fun _ h => ?_) (fun _ h => ?_)
  · refine p_iconst cn_0 ?_
    exact p_zret rfl h
  · refine p_iconst cn_1 ?_
    refine p_goto 19 rfl rfl ?_
    exact p_zret rfl h
set_option maxRecDepth 100000 in
theorem pc_X10_such_0 {l : Launch} (hl : l.stackTraces = false) {M : PM} {a1 : Int32} {r : PR} (h : F_X10_such_0 M a1 = some r) : PC l 7 Y_X10_such [vR 0, vI a1] M r := pc_of hl (by decide +kernel) cok_X10_such (Nat.le_of_ble_eq_true rfl) rfl (S_X10_such_0 hl  h) rfl
def F_X0_settledDay_3_4 : Nat → PM → Int32 → Int32 → Option PR
  | 0, _, _, _ => none
  | n + 1, M, x1, x2 => (if mI M 3 5 ≤ x2 then some (.inl (some (.int x1)), M) else if ixOK x2 3 = true then cI (F_J9_max_7cf53 M x1 ((mA M 15 x2.toNatClampNeg) + 1)) fun v375 M374 => lt (x2 + 1) fun y376 => F_X0_settledDay_3_4 n M374 v375 y376 else none)
def F_X0_settledDay_3 (M : PM)  : Option PR := F_X0_settledDay_3_4 FUEL M 0 0
set_option maxRecDepth 100000 in
theorem S_X0_settledDay_3_4 {l : Launch} (hl : l.stackTraces = false) : ∀ (n : Nat) {M : PM} {x1 : Int32} {x2 : Int32} {r : PR}, F_X0_settledDay_3_4  n M x1 x2 = some r → PW l 1 Y_X0_settledDay k_X0_settledDay_4 [vR 3, vI x1, vI x2] [] M r := by
  intro n
  induction n with
  | zero => intro M x1 x2 r h; exact nomatch (show (none : Option PR) = some r from h)
  | succ n ih =>
    intro M x1 x2 r h
    rw [F_X0_settledDay_3_4] at h
    refine p_iload_n rfl ?_
    refine p_aload_n rfl ?_
    refine p_getI fk_X0_50 gt_3 rfl ?_
    refine p_icmp_ge h 19 rfl rfl (fun _ h => ?_) (fun _ h => ?_)
    · refine p_iload_n rfl ?_
      exact p_iret rfl h
    · refine p_iload_n rfl ?_
      refine p_aload_n rfl ?_
      refine p_getR fk_X0_27 gt_3 rfl rfl ?_
      refine p_iload_n rfl ?_
      refine p_iald gt_15 h (fun h => ?_)
      refine p_iconst cn_1 ?_
      refine p_iadd ?_
      refine p_cI (av := [_, _]) ⟨mok_J9_max_7cf53, Or.inr ⟨53, rfl, rfl, sta_J9_max_7cf53, Or.inl lk_X0_53⟩⟩ (Nat.le_of_ble_eq_true rfl) (Nat.le_of_ble_eq_true rfl) rfl (fun _ h => pc_J9_max_7cf53 hl h) h (fun v375 M374 h => ?_)
      refine p_istore_n (Nat.le_of_ble_eq_true rfl) rfl ?_
      have h := lt_h h
      refine p_iinc (Nat.le_of_ble_eq_true rfl) rfl (ci_1 _) rfl ?_
      refine p_goto 4 rfl rfl ?_
      exact p_fg (ih h) ⟨Or.inr rfl, Or.inr rfl, Or.inr rfl, trivial⟩
set_option maxRecDepth 100000 in
theorem S_X0_settledDay_3 {l : Launch} (hl : l.stackTraces = false) {M : PM}  {r : PR} (h : F_X0_settledDay_3 M  = some r) : PW l 1 Y_X0_settledDay k_X0_settledDay [vR 3, jk, jk] [] M r := by
  unfold F_X0_settledDay_3 at h
  refine p_iconst cn_0 ?_
  refine p_istore_n (Nat.le_of_ble_eq_true rfl) rfl ?_
  refine p_iconst cn_0 ?_
  refine p_istore_n (Nat.le_of_ble_eq_true rfl) rfl ?_
  exact p_fg (S_X0_settledDay_3_4 hl FUEL h) ⟨Or.inr rfl, Or.inr rfl, Or.inr rfl, trivial⟩
set_option maxRecDepth 100000 in
theorem pc_X0_settledDay_3 {l : Launch} (hl : l.stackTraces = false) {M : PM}  {r : PR} (h : F_X0_settledDay_3 M  = some r) : PC l 1 Y_X0_settledDay [vR 3] M r := pc_of hl (by decide +kernel) cok_X0_settledDay (Nat.le_of_ble_eq_true rfl) rfl (S_X0_settledDay_3 hl  h) rfl
def F_X0_stretchFrom_3_46 (k14 : PM → Int32 → Int32 → Int32 → Option PR) (M : PM) (x1 : Int32) (x3 : Int32) (t0 : Int32) : Option PR := lt (x3 + 1) fun y377 => k14 M x1 t0 y377
def F_X0_stretchFrom_3_14 : Nat → PM → Int32 → Int32 → Int32 → Option PR
  | 0, _, _, _, _ => none
  | n + 1, M, x1, x2, x3 => (if mI M 3 5 ≤ x3 then some (.inl (some (.int ((x2 - x1) + 1))), M) else if ixOK x3 3 = true then (if mA M 15 x3.toNatClampNeg < x1 then F_X0_stretchFrom_3_46 (F_X0_stretchFrom_3_14 n) M x1 x3 x2 else if ixOK x3 3 = true then cI (F_J9_min_7cf53 M x2 (mA M 15 x3.toNatClampNeg)) fun v379 M378 => F_X0_stretchFrom_3_46 (F_X0_stretchFrom_3_14 n) M378 x1 x3 v379 else none) else none)
def F_X0_stretchFrom_3 (M : PM) (a1 : Int32) : Option PR := cI (F_J9_min_7cf53 M ((a1 + 64) - 1) 999999999) fun v381 M380 => F_X0_stretchFrom_3_14 FUEL M380 a1 v381 0
set_option maxRecDepth 100000 in
theorem S_X0_stretchFrom_3_46 {l : Launch} (hl : l.stackTraces = false) {k14 : PM → Int32 → Int32 → Int32 → Option PR} (hk14 : ∀ {M : PM} {x1 : Int32} {x2 : Int32} {x3 : Int32} {r : PR}, k14 M x1 x2 x3 = some r → PW l 1 Y_X0_stretchFrom k_X0_stretchFrom_14 [vR 3, vI x1, vI x2, vI x3] [] M r) {M : PM} {x1 : Int32} {x3 : Int32} {t0 : Int32} {r : PR} (h : F_X0_stretchFrom_3_46 k14 M x1 x3 t0 = some r) : PW l 1 Y_X0_stretchFrom k_X0_stretchFrom_46 [vR 3, vI x1, jk, vI x3] [vI t0] M r := by
  unfold F_X0_stretchFrom_3_46 at h
  refine p_istore_n (Nat.le_of_ble_eq_true rfl) rfl ?_
  have h := lt_h h
  refine p_iinc (Nat.le_of_ble_eq_true rfl) rfl (ci_1 _) rfl ?_
  refine p_goto 10 rfl rfl ?_
  exact p_fg (hk14 h) ⟨Or.inr rfl, Or.inr rfl, Or.inr rfl, Or.inr rfl, trivial⟩
set_option maxRecDepth 100000 in
theorem S_X0_stretchFrom_3_14 {l : Launch} (hl : l.stackTraces = false) : ∀ (n : Nat) {M : PM} {x1 : Int32} {x2 : Int32} {x3 : Int32} {r : PR}, F_X0_stretchFrom_3_14  n M x1 x2 x3 = some r → PW l 1 Y_X0_stretchFrom k_X0_stretchFrom_14 [vR 3, vI x1, vI x2, vI x3] [] M r := by
  intro n
  induction n with
  | zero => intro M x1 x2 x3 r h; exact nomatch (show (none : Option PR) = some r from h)
  | succ n ih =>
    intro M x1 x2 x3 r h
    rw [F_X0_stretchFrom_3_14] at h
    refine p_iload_n rfl ?_
    refine p_aload_n rfl ?_
    refine p_getI fk_X0_50 gt_3 rfl ?_
    refine p_icmp_ge h 31 rfl rfl (fun _ h => ?_) (fun _ h => ?_)
    · refine p_iload_n rfl ?_
      refine p_iload_n rfl ?_
      refine p_isub ?_
      refine p_iconst cn_1 ?_
      refine p_iadd ?_
      exact p_iret rfl h
    · refine p_aload_n rfl ?_
      refine p_getR fk_X0_27 gt_3 rfl rfl ?_
      refine p_iload_n rfl ?_
      refine p_iald gt_15 h (fun h => ?_)
      refine p_iload_n rfl ?_
      refine p_icmp_lt h 27 rfl rfl (fun _ h => ?_) (fun _ h => ?_)
      · refine p_iload_n rfl ?_
        exact p_fg (S_X0_stretchFrom_3_46 hl (fun h => ih h) h) ⟨Or.inr rfl, Or.inr rfl, Or.inl rfl, Or.inr rfl, trivial⟩
      · refine p_iload_n rfl ?_
        refine p_aload_n rfl ?_
        refine p_getR fk_X0_27 gt_3 rfl rfl ?_
        refine p_iload_n rfl ?_
        refine p_iald gt_15 h (fun h => ?_)
        refine p_cI (av := [_, _]) ⟨mok_J9_min_7cf53, Or.inr ⟨60, rfl, rfl, sta_J9_min_7cf53, Or.inl lk_X0_60⟩⟩ (Nat.le_of_ble_eq_true rfl) (Nat.le_of_ble_eq_true rfl) rfl (fun _ h => pc_J9_min_7cf53 hl h) h (fun v379 M378 h => ?_)
        refine p_goto 28 rfl rfl ?_
        exact p_fg (S_X0_stretchFrom_3_46 hl (fun h => ih h) h) ⟨Or.inr rfl, Or.inr rfl, Or.inl rfl, Or.inr rfl, trivial⟩
set_option maxRecDepth 100000 in
theorem S_X0_stretchFrom_3 {l : Launch} (hl : l.stackTraces = false) {M : PM} {a1 : Int32} {r : PR} (h : F_X0_stretchFrom_3 M a1 = some r) : PW l 1 Y_X0_stretchFrom k_X0_stretchFrom [vR 3, vI a1, jk, jk] [] M r := by
  unfold F_X0_stretchFrom_3 at h
  refine p_iload_n rfl ?_
  refine p_bipush cb_64 ?_
  refine p_iadd ?_
  refine p_iconst cn_1 ?_
  refine p_isub ?_
  refine p_ldc co_X0_59 ?_
  refine p_cI (av := [_, _]) ⟨mok_J9_min_7cf53, Or.inr ⟨60, rfl, rfl, sta_J9_min_7cf53, Or.inl lk_X0_60⟩⟩ (Nat.le_of_ble_eq_true rfl) (Nat.le_of_ble_eq_true rfl) rfl (fun _ h => pc_J9_min_7cf53 hl h) h (fun v381 M380 h => ?_)
  refine p_istore_n (Nat.le_of_ble_eq_true rfl) rfl ?_
  refine p_iconst cn_0 ?_
  refine p_istore_n (Nat.le_of_ble_eq_true rfl) rfl ?_
  exact p_fg (S_X0_stretchFrom_3_14 hl FUEL h) ⟨Or.inr rfl, Or.inr rfl, Or.inr rfl, Or.inr rfl, trivial⟩
set_option maxRecDepth 100000 in
theorem pc_X0_stretchFrom_3 {l : Launch} (hl : l.stackTraces = false) {M : PM} {a1 : Int32} {r : PR} (h : F_X0_stretchFrom_3 M a1 = some r) : PC l 1 Y_X0_stretchFrom [vR 3, vI a1] M r := pc_of hl (by decide +kernel) cok_X0_stretchFrom (Nat.le_of_ble_eq_true rfl) rfl (S_X0_stretchFrom_3 hl  h) rfl
def F_X10_low (M : PM) (a0 : Int32) : Option PR := (if a0 < 64 then (if 1 ≤ a0 then some (.inl (some (.long (((1 : Int64) <<< (a0.toInt64 &&& 63)) - (1 : Int64)))), M) else some (.inl (some (.long (0 : Int64))), M)) else some (.inl (some (.long (-1 : Int64))), M))
set_option maxRecDepth 100000 in
theorem S_X10_low {l : Launch} (hl : l.stackTraces = false) {M : PM} {a0 : Int32} {r : PR} (h : F_X10_low M a0 = some r) : PW l 0 Y_X10_low k_X10_low [vI a0] [] M r := by
  unfold F_X10_low at h
  refine p_iload_n rfl ?_
  refine p_bipush cb_64 ?_
  refine p_icmp_lt h 5 rfl rfl (fun _ h => ?_) (fun _ h => ?_)
  · refine p_iload_n rfl ?_
    refine p_iconst cn_1 ?_
    refine p_icmp_ge h 10 rfl rfl (fun _ h => ?_) (fun _ h => ?_)
    · refine p_lconst cl_1 ?_
      refine p_iload_n rfl ?_
      refine p_lshl ?_
      refine p_lconst cl_1 ?_
      refine p_lsub ?_
      exact p_lret rfl h
    · refine p_lconst cl_0 ?_
      refine p_goto 15 rfl rfl ?_
      exact p_lret rfl h
  · refine p_ldc2_w co_X10_416 ?_
    refine p_goto 15 rfl rfl ?_
    exact p_lret rfl h
set_option maxRecDepth 100000 in
theorem pc_X10_low {l : Launch} (hl : l.stackTraces = false) {M : PM} {a0 : Int32} {r : PR} (h : F_X10_low M a0 = some r) : PC l 0 Y_X10_low [vI a0] M r := pc_of hl (by decide +kernel) cok_X10_low (Nat.le_of_ble_eq_true rfl) rfl (S_X10_low hl  h) rfl
def F_J13_bitCount_95d88 (M : PM) (a0 : Int64) : Option PR := lt (a0 - (((a0.toUInt64 >>> ((1 : Int32).toInt64.toUInt64 &&& Int64.toUInt64 63)).toInt64) &&& (6148914691236517205 : Int64))) fun y382 => lt ((y382 &&& (3689348814741910323 : Int64)) + (((y382.toUInt64 >>> ((2 : Int32).toInt64.toUInt64 &&& Int64.toUInt64 63)).toInt64) &&& (3689348814741910323 : Int64))) fun y383 => lt ((y383 + ((y383.toUInt64 >>> ((4 : Int32).toInt64.toUInt64 &&& Int64.toUInt64 63)).toInt64)) &&& (1085102592571150095 : Int64)) fun y384 => lt (y384 + ((y384.toUInt64 >>> ((8 : Int32).toInt64.toUInt64 &&& Int64.toUInt64 63)).toInt64)) fun y385 => lt (y385 + ((y385.toUInt64 >>> ((16 : Int32).toInt64.toUInt64 &&& Int64.toUInt64 63)).toInt64)) fun y386 => lt (y386 + ((y386.toUInt64 >>> ((32 : Int32).toInt64.toUInt64 &&& Int64.toUInt64 63)).toInt64)) fun y387 => some (.inl (some (.int (y387.toInt32 &&& 127))), M)
set_option maxRecDepth 100000 in
theorem S_J13_bitCount_95d88 {l : Launch} (hl : l.stackTraces = false) {M : PM} {a0 : Int64} {r : PR} (h : F_J13_bitCount_95d88 M a0 = some r) : PW l 0 Y_J13_bitCount_95d88 k_J13_bitCount_95d88 [vJ a0, jk] [] M r := by
  unfold F_J13_bitCount_95d88 at h
  refine p_lload_n rfl ?_
  refine p_lload_n rfl ?_
  refine p_iconst cn_1 ?_
  refine p_lushr ?_
  refine p_ldc2_w co_J13_314 ?_
  refine p_land ?_
  refine p_lsub ?_
  have h := lt_h h
  refine p_lstore_n (Nat.le_of_ble_eq_true rfl) rfl ?_
  refine p_lload_n rfl ?_
  refine p_ldc2_w co_J13_316 ?_
  refine p_land ?_
  refine p_lload_n rfl ?_
  refine p_iconst cn_2 ?_
  refine p_lushr ?_
  refine p_ldc2_w co_J13_316 ?_
  refine p_land ?_
  refine p_ladd ?_
  have h := lt_h h
  refine p_lstore_n (Nat.le_of_ble_eq_true rfl) rfl ?_
  refine p_lload_n rfl ?_
  refine p_lload_n rfl ?_
  refine p_iconst cn_4 ?_
  refine p_lushr ?_
  refine p_ladd ?_
  refine p_ldc2_w co_J13_318 ?_
  refine p_land ?_
  have h := lt_h h
  refine p_lstore_n (Nat.le_of_ble_eq_true rfl) rfl ?_
  refine p_lload_n rfl ?_
  refine p_lload_n rfl ?_
  refine p_bipush cb_8 ?_
  refine p_lushr ?_
  refine p_ladd ?_
  have h := lt_h h
  refine p_lstore_n (Nat.le_of_ble_eq_true rfl) rfl ?_
  refine p_lload_n rfl ?_
  refine p_lload_n rfl ?_
  refine p_bipush cb_16 ?_
  refine p_lushr ?_
  refine p_ladd ?_
  have h := lt_h h
  refine p_lstore_n (Nat.le_of_ble_eq_true rfl) rfl ?_
  refine p_lload_n rfl ?_
  refine p_lload_n rfl ?_
  refine p_bipush cb_32 ?_
  refine p_lushr ?_
  refine p_ladd ?_
  have h := lt_h h
  refine p_lstore_n (Nat.le_of_ble_eq_true rfl) rfl ?_
  refine p_lload_n rfl ?_
  refine p_l2i ?_
  refine p_bipush cb_127 ?_
  refine p_iand ?_
  exact p_iret rfl h
set_option maxRecDepth 100000 in
theorem pc_J13_bitCount_95d88 {l : Launch} (hl : l.stackTraces = false) {M : PM} {a0 : Int64} {r : PR} (h : F_J13_bitCount_95d88 M a0 = some r) : PC l 0 Y_J13_bitCount_95d88 [vJ a0] M r := pc_of hl (by decide +kernel) cok_J13_bitCount_95d88 (Nat.le_of_ble_eq_true rfl) rfl (S_J13_bitCount_95d88 hl  h) rfl
def F_X10_lowest (M : PM) (a0 : Int64) : Option PR := cI (F_J13_bitCount_95d88 M ((a0 &&& (-a0)) - (1 : Int64))) fun v389 M388 => some (.inl (some (.int v389)), M388)
set_option maxRecDepth 100000 in
theorem S_X10_lowest {l : Launch} (hl : l.stackTraces = false) {M : PM} {a0 : Int64} {r : PR} (h : F_X10_lowest M a0 = some r) : PW l 1 Y_X10_lowest k_X10_lowest [vJ a0, jk] [] M r := by
  unfold F_X10_lowest at h
  refine p_lload_n rfl ?_
  refine p_lload_n rfl ?_
  refine p_lneg ?_
  refine p_land ?_
  refine p_lconst cl_1 ?_
  refine p_lsub ?_
  refine p_cI (av := [_]) ⟨mok_J13_bitCount_95d88, Or.inr ⟨232, rfl, rfl, sta_J13_bitCount_95d88, Or.inl lk_X10_232⟩⟩ (Nat.le_of_ble_eq_true rfl) (Nat.le_of_ble_eq_true rfl) rfl (fun _ h => pc_J13_bitCount_95d88 hl h) h (fun v389 M388 h => ?_)
  exact p_iret rfl h
set_option maxRecDepth 100000 in
theorem pc_X10_lowest {l : Launch} (hl : l.stackTraces = false) {M : PM} {a0 : Int64} {r : PR} (h : F_X10_lowest M a0 = some r) : PC l 1 Y_X10_lowest [vJ a0] M r := pc_of hl (by decide +kernel) cok_X10_lowest (Nat.le_of_ble_eq_true rfl) rfl (S_X10_lowest hl  h) rfl
def F_X7_firstFrom_76_27 : Nat → PM → Int32 → Int32 → Option PR
  | 0, _, _, _ => none
  | n + 1, M, x2, x4 => (if x2 < x4 then some (.inl (some (.int (-1))), M) else cI (F_X0_stretchFrom_3 M x4) fun v391 M390 => cI (F_X0_turnsOn_3 M390 x4) fun v393 M392 => cJ (F_X7_daysFrom_76 M392 x4 v393) fun v395 M394 => cJ (F_X10_low M394 v391) fun v397 M396 => lt (v395 &&& v397) fun y398 => (if lg_cmp y398 (0 : Int64) = 0 then cI (F_J9_max_7cf53 M396 v391 1) fun v400 M399 => lt (x4 + v400) fun y401 => F_X7_firstFrom_76_27 n M399 x2 y401 else cI (F_X10_lowest M396 y398) fun v403 M402 => some (.inl (some (.int (x4 + v403))), M402)))
def F_X7_firstFrom_76 (M : PM) (a1 : Int32) : Option PR := cI (F_X0_settledDay_3 M) fun v405 M404 => cI (F_J9_max_7cf53 M404 a1 v405) fun v407 M406 => cI (F_J9_min_7cf53 M406 (v407 + (mI M406 76 9)) 999999999) fun v409 M408 => F_X7_firstFrom_76_27 FUEL M408 v409 a1
set_option maxRecDepth 100000 in
theorem S_X7_firstFrom_76_27 {l : Launch} (hl : l.stackTraces = false) : ∀ (n : Nat) {M : PM} {x2 : Int32} {x4 : Int32} {r : PR}, F_X7_firstFrom_76_27  n M x2 x4 = some r → PW l 5 Y_X7_firstFrom k_X7_firstFrom_27 [vR 76, jk, vI x2, jk, vI x4, jk, jk] [] M r := by
  intro n
  induction n with
  | zero => intro M x2 x4 r h; exact nomatch (show (none : Option PR) = some r from h)
  | succ n ih =>
    intro M x2 x4 r h
    rw [F_X7_firstFrom_76_27] at h
    refine p_iload rfl ?_
    refine p_iload_n rfl ?_
    refine p_icmp_gt h 50 rfl rfl (fun _ h => ?_) (fun _ h => ?_)
    · refine p_iconst cn_m1 ?_
      exact p_iret rfl h
    · refine p_aload_n rfl ?_
      refine p_getR fk_X7_32 gt_76 rfl rfl ?_
      refine p_iload rfl ?_
      refine p_cI (av := [_, _]) ⟨mok_X0_stretchFrom, Or.inl ⟨114, 3, 0, 0, _, rfl, rfl, rfl, gt_3, rfl, ins_X0_stretchFrom, Or.inr lk_X7_114⟩⟩ (Nat.le_of_ble_eq_true rfl) (Nat.le_of_ble_eq_true rfl) rfl (fun _ h => pc_X0_stretchFrom_3 hl h) h (fun v391 M390 h => ?_)
      refine p_istore_n (Nat.le_of_ble_eq_true rfl) rfl ?_
      refine p_aload_n rfl ?_
      refine p_iload rfl ?_
      refine p_aload_n rfl ?_
      refine p_getR fk_X7_32 gt_76 rfl rfl ?_
      refine p_iload rfl ?_
      refine p_cI (av := [_, _]) ⟨mok_X0_turnsOn, Or.inl ⟨118, 3, 0, 0, _, rfl, rfl, rfl, gt_3, rfl, ins_X0_turnsOn, Or.inr lk_X7_118⟩⟩ (Nat.le_of_ble_eq_true rfl) (Nat.le_of_ble_eq_true rfl) rfl (fun _ h => pc_X0_turnsOn_3 hl h) h (fun v393 M392 h => ?_)
      refine p_cJ (av := [_, _, _]) ⟨mok_X7_daysFrom, Or.inl ⟨121, 76, 7, 0, _, rfl, rfl, rfl, gt_76, rfl, ins_X7_daysFrom, Or.inl lk_X7_121⟩⟩ (Nat.le_of_ble_eq_true rfl) (Nat.le_of_ble_eq_true rfl) rfl (fun _ h => pc_X7_daysFrom_76 hl h) h (fun v395 M394 h => ?_)
      refine p_iload_n rfl ?_
      refine p_cJ (av := [_]) ⟨mok_X10_low, Or.inr ⟨124, rfl, rfl, sta_X10_low, Or.inr lk_X7_124⟩⟩ (Nat.le_of_ble_eq_true rfl) (Nat.le_of_ble_eq_true rfl) rfl (fun _ h => pc_X10_low hl h) h (fun v397 M396 h => ?_)
      refine p_land ?_
      have h := lt_h h
      refine p_lstore (Nat.le_of_ble_eq_true rfl) rfl ?_
      refine p_lload rfl ?_
      refine p_lconst cl_0 ?_
      refine p_lcmp ?_
      refine p_if_eq h 43 rfl rfl (fun _ h => ?_) (fun _ h => ?_)
      · refine p_iload rfl ?_
        refine p_iload_n rfl ?_
        refine p_iconst cn_1 ?_
        refine p_cI (av := [_, _]) ⟨mok_J9_max_7cf53, Or.inr ⟨105, rfl, rfl, sta_J9_max_7cf53, Or.inl lk_X7_105⟩⟩ (Nat.le_of_ble_eq_true rfl) (Nat.le_of_ble_eq_true rfl) rfl (fun _ h => pc_J9_max_7cf53 hl h) h (fun v400 M399 h => ?_)
        refine p_iadd ?_
        have h := lt_h h
        refine p_istore (Nat.le_of_ble_eq_true rfl) rfl ?_
        refine p_goto 15 rfl rfl ?_
        exact p_fg (ih h) ⟨Or.inr rfl, Or.inl rfl, Or.inr rfl, Or.inl rfl, Or.inr rfl, Or.inl rfl, Or.inl rfl, trivial⟩
      · refine p_iload rfl ?_
        refine p_lload rfl ?_
        refine p_cI (av := [_]) ⟨mok_X10_lowest, Or.inr ⟨127, rfl, rfl, sta_X10_lowest, Or.inr lk_X7_127⟩⟩ (Nat.le_of_ble_eq_true rfl) (Nat.le_of_ble_eq_true rfl) rfl (fun _ h => pc_X10_lowest hl h) h (fun v403 M402 h => ?_)
        refine p_iadd ?_
        exact p_iret rfl h
set_option maxRecDepth 100000 in
theorem S_X7_firstFrom_76 {l : Launch} (hl : l.stackTraces = false) {M : PM} {a1 : Int32} {r : PR} (h : F_X7_firstFrom_76 M a1 = some r) : PW l 5 Y_X7_firstFrom k_X7_firstFrom [vR 76, vI a1, jk, jk, jk, jk, jk] [] M r := by
  unfold F_X7_firstFrom_76 at h
  refine p_iload_n rfl ?_
  refine p_aload_n rfl ?_
  refine p_getR fk_X7_32 gt_76 rfl rfl ?_
  refine p_cI (av := [_]) ⟨mok_X0_settledDay, Or.inl ⟨101, 3, 0, 0, _, rfl, rfl, rfl, gt_3, rfl, ins_X0_settledDay, Or.inr lk_X7_101⟩⟩ (Nat.le_of_ble_eq_true rfl) (Nat.le_of_ble_eq_true rfl) rfl (fun _ h => pc_X0_settledDay_3 hl h) h (fun v405 M404 h => ?_)
  refine p_cI (av := [_, _]) ⟨mok_J9_max_7cf53, Or.inr ⟨105, rfl, rfl, sta_J9_max_7cf53, Or.inl lk_X7_105⟩⟩ (Nat.le_of_ble_eq_true rfl) (Nat.le_of_ble_eq_true rfl) rfl (fun _ h => pc_J9_max_7cf53 hl h) h (fun v407 M406 h => ?_)
  refine p_aload_n rfl ?_
  refine p_getI fk_X7_28 gt_76 rfl ?_
  refine p_iadd ?_
  refine p_ldc co_X7_110 ?_
  refine p_cI (av := [_, _]) ⟨mok_J9_min_7cf53, Or.inr ⟨111, rfl, rfl, sta_J9_min_7cf53, Or.inl lk_X7_111⟩⟩ (Nat.le_of_ble_eq_true rfl) (Nat.le_of_ble_eq_true rfl) rfl (fun _ h => pc_J9_min_7cf53 hl h) h (fun v409 M408 h => ?_)
  refine p_istore_n (Nat.le_of_ble_eq_true rfl) rfl ?_
  refine p_iconst cn_1 ?_
  refine p_istore_n (Nat.le_of_ble_eq_true rfl) rfl ?_
  refine p_iload_n rfl ?_
  refine p_istore (Nat.le_of_ble_eq_true rfl) rfl ?_
  exact p_fg (S_X7_firstFrom_76_27 hl FUEL h) ⟨Or.inr rfl, Or.inl rfl, Or.inr rfl, Or.inl rfl, Or.inr rfl, Or.inl rfl, Or.inl rfl, trivial⟩
set_option maxRecDepth 100000 in
theorem pc_X7_firstFrom_76 {l : Launch} (hl : l.stackTraces = false) {M : PM} {a1 : Int32} {r : PR} (h : F_X7_firstFrom_76 M a1 = some r) : PC l 5 Y_X7_firstFrom [vR 76, vI a1] M r := pc_of hl (by decide +kernel) cok_X7_firstFrom (Nat.le_of_ble_eq_true rfl) rfl (S_X7_firstFrom_76 hl  h) rfl
def F_X10_next_0 (M : PM) (a1 : Int32) : Option PR := bV (F_X10_needDay_0 M a1) fun M410 => cI (F_X7_firstFrom_76 M410 a1) fun v412 M411 => some (.inl (some (.int v412)), M411)
set_option maxRecDepth 100000 in
theorem S_X10_next_0 {l : Launch} (hl : l.stackTraces = false) {M : PM} {a1 : Int32} {r : PR} (h : F_X10_next_0 M a1 = some r) : PW l 7 Y_X10_next k_X10_next [vR 0, vI a1] [] M r := by
  unfold F_X10_next_0 at h
  refine p_aload_n rfl ?_
  refine p_iload_n rfl ?_
  refine p_bV mok_X10_needDay rfl gt_0 rfl ins_X10_needDay lk_X10_182 (Nat.le_of_ble_eq_true rfl) (Nat.le_of_ble_eq_true rfl) rfl (fun _ h => pc_X10_needDay_0 hl h) h (fun M410 h => ?_)
  refine p_aload_n rfl ?_
  refine p_getR fk_X10_47 gt_0 rfl rfl ?_
  refine p_iload_n rfl ?_
  refine p_cI (av := [_, _]) ⟨mok_X7_firstFrom, Or.inl ⟨198, 76, 7, 0, _, rfl, rfl, rfl, gt_76, rfl, ins_X7_firstFrom, Or.inr lk_X10_198⟩⟩ (Nat.le_of_ble_eq_true rfl) (Nat.le_of_ble_eq_true rfl) rfl (fun _ h => pc_X7_firstFrom_76 hl h) h (fun v412 M411 h => ?_)
  exact p_iret rfl h
set_option maxRecDepth 100000 in
theorem pc_X10_next_0 {l : Launch} (hl : l.stackTraces = false) {M : PM} {a1 : Int32} {r : PR} (h : F_X10_next_0 M a1 = some r) : PC l 7 Y_X10_next [vR 0, vI a1] M r := pc_of hl (by decide +kernel) cok_X10_next (Nat.le_of_ble_eq_true rfl) rfl (S_X10_next_0 hl  h) rfl
def F_X10_needLaws_0 (M : PM) (a1 : Int32) : Option PR := cI (F_X10_all M (mI M 4 4)) fun v414 M413 => (if a1 &&& (v414 ^^^ (-1)) = 0 then bV (F_X10_need_0 M413 1) fun M416 => some (.inl none, M416) else bV (F_X10_need_0 M413 0) fun M415 => some (.inl none, M415))
set_option maxRecDepth 100000 in
theorem S_X10_needLaws_0 {l : Launch} (hl : l.stackTraces = false) {M : PM} {a1 : Int32} {r : PR} (h : F_X10_needLaws_0 M a1 = some r) : PW l 7 Y_X10_needLaws k_X10_needLaws [vR 0, vI a1] [] M r := by
  unfold F_X10_needLaws_0 at h
  refine p_aload_n rfl ?_
  refine p_iload_n rfl ?_
  refine p_aload_n rfl ?_
  refine p_getR fk_X10_27 gt_0 rfl rfl ?_
  refine p_getR fk_X10_128 gt_3 rfl rfl ?_
  refine p_getI fk_X10_132 gt_4 rfl ?_
  refine p_cI (av := [_]) ⟨mok_X10_all, Or.inr ⟨237, rfl, rfl, sta_X10_all, Or.inl lk_X10_237⟩⟩ (Nat.le_of_ble_eq_true rfl) (Nat.le_of_ble_eq_true rfl) rfl (fun _ h => pc_X10_all hl h) h (fun v414 M413 h => ?_)
  refine p_iconst cn_m1 ?_
  refine p_ixor ?_
  refine p_iand ?_
  refine p_if_ne h 13 rfl rfl (fun _ h => ?_) (fun _ h => ?_)
  · refine p_iconst cn_1 ?_
    refine p_goto 14 rfl rfl ?_
    refine p_bV mok_X10_need rfl gt_0 rfl ins_X10_need lk_X10_101 (Nat.le_of_ble_eq_true rfl) (Nat.le_of_ble_eq_true rfl) rfl (fun _ h => pc_X10_need_0 hl h) h (fun M416 h => ?_)
    exact p_ret rfl h
  · refine p_iconst cn_0 ?_
    refine p_bV mok_X10_need rfl gt_0 rfl ins_X10_need lk_X10_101 (Nat.le_of_ble_eq_true rfl) (Nat.le_of_ble_eq_true rfl) rfl (fun _ h => pc_X10_need_0 hl h) h (fun M415 h => ?_)
    exact p_ret rfl h
set_option maxRecDepth 100000 in
theorem pc_X10_needLaws_0 {l : Launch} (hl : l.stackTraces = false) {M : PM} {a1 : Int32} {r : PR} (h : F_X10_needLaws_0 M a1 = some r) : PC l 7 Y_X10_needLaws [vR 0, vI a1] M r := pc_of hl (by decide +kernel) cok_X10_needLaws (Nat.le_of_ble_eq_true rfl) rfl (S_X10_needLaws_0 hl  h) rfl
def F_X2_meetingWith_4 (M : PM) (a1 : Int32) : Option PR := cI (F_X2_isLaw_4 M a1) fun v418 M417 => (if v418 = 0 then some (.inl (some (.int 0)), M417) else if ixOK a1 12 = true then some (.inl (some (.int (mA M417 8 a1.toNatClampNeg))), M417) else none)
set_option maxRecDepth 100000 in
theorem S_X2_meetingWith_4 {l : Launch} (hl : l.stackTraces = false) {M : PM} {a1 : Int32} {r : PR} (h : F_X2_meetingWith_4 M a1 = some r) : PW l 1 Y_X2_meetingWith k_X2_meetingWith [vR 4, vI a1] [] M r := by
  unfold F_X2_meetingWith_4 at h
  refine p_aload_n rfl ?_
  refine p_iload_n rfl ?_
  refine p_cI (av := [_, _]) ⟨mok_X2_isLaw, Or.inl ⟨50, 4, 2, 0, _, rfl, rfl, rfl, gt_4, rfl, ins_X2_isLaw, Or.inl lk_X2_50⟩⟩ (Nat.le_of_ble_eq_true rfl) (Nat.le_of_ble_eq_true rfl) rfl (fun _ h => pc_X2_isLaw_4 hl h) h (fun v418 M417 h => ?_)
  refine p_if_eq h 9 rfl rfl (fun _ h => ?_) (fun _ h => ?_)
  · refine p_iconst cn_0 ?_
    exact p_iret rfl h
  · refine p_aload_n rfl ?_
    refine p_getR fk_X2_28 gt_4 rfl rfl ?_
    refine p_iload_n rfl ?_
    refine p_iald gt_8 h (fun h => ?_)
    refine p_goto 10 rfl rfl ?_
    exact p_iret rfl h
set_option maxRecDepth 100000 in
theorem pc_X2_meetingWith_4 {l : Launch} (hl : l.stackTraces = false) {M : PM} {a1 : Int32} {r : PR} (h : F_X2_meetingWith_4 M a1 = some r) : PC l 1 Y_X2_meetingWith [vR 4, vI a1] M r := pc_of hl (by decide +kernel) cok_X2_meetingWith (Nat.le_of_ble_eq_true rfl) rfl (S_X2_meetingWith_4 hl  h) rfl
def F_X10_never_0_88 (k7 : PM → Int32 → Int32 → Option PR) (M : PM) (x1 : Int32) (x2 : Int32) : Option PR := lt (x2 + 1) fun y419 => k7 M x1 y419
def F_X10_never_0_42 (k7 : PM → Int32 → Int32 → Option PR) : Nat → PM → Int32 → Int32 → Int32 → Int32 → Option PR
  | 0, _, _, _, _, _ => none
  | n + 1, M, x1, x2, x3, x4 => (if mI M 4 4 ≤ x4 then F_X10_never_0_88 k7 M x1 x2 else cI (F_X10_isIn M x2 x1) fun v421 M420 => (if v421 = 0 then F_X10_never_0_88 k7 M420 x1 x2 else cI (F_X10_isIn M420 x4 x3) fun v423 M422 => (if v423 = 0 then lt (x4 + 1) fun y424 => F_X10_never_0_42 k7 n M422 x1 x2 x3 y424 else some (.inl (some (.int ((100 * x2) + x4))), M422))))
def F_X10_never_0_7 : Nat → PM → Int32 → Int32 → Option PR
  | 0, _, _, _ => none
  | n + 1, M, x1, x2 => (if mI M 4 4 ≤ x2 then some (.inl (some (.int (-1))), M) else cI (F_X2_meetingWith_4 M x2) fun v426 M425 => lt (x1 &&& (v426 ^^^ (-1))) fun y427 => lt (x2 + 1) fun y428 => F_X10_never_0_42 (F_X10_never_0_7 n) FUEL M425 x1 x2 y427 y428)
def F_X10_never_0 (M : PM) (a1 : Int32) : Option PR := bV (F_X10_needLaws_0 M a1) fun M429 => F_X10_never_0_7 FUEL M429 a1 0
set_option maxRecDepth 100000 in
theorem S_X10_never_0_88 {l : Launch} (hl : l.stackTraces = false) {k7 : PM → Int32 → Int32 → Option PR} (hk7 : ∀ {M : PM} {x1 : Int32} {x2 : Int32} {r : PR}, k7 M x1 x2 = some r → PW l 8 Y_X10_never k_X10_never_7 [vR 0, vI x1, vI x2, jk, jk] [] M r) {M : PM} {x1 : Int32} {x2 : Int32} {r : PR} (h : F_X10_never_0_88 k7 M x1 x2 = some r) : PW l 8 Y_X10_never k_X10_never_88 [vR 0, vI x1, vI x2, jk, jk] [] M r := by
  unfold F_X10_never_0_88 at h
  have h := lt_h h
  refine p_iinc (Nat.le_of_ble_eq_true rfl) rfl (ci_1 _) rfl ?_
  refine p_goto 5 rfl rfl ?_
  exact p_fg (hk7 h) ⟨Or.inr rfl, Or.inr rfl, Or.inr rfl, Or.inl rfl, Or.inl rfl, trivial⟩
set_option maxRecDepth 100000 in
theorem S_X10_never_0_42 {l : Launch} (hl : l.stackTraces = false) {k7 : PM → Int32 → Int32 → Option PR} (hk7 : ∀ {M : PM} {x1 : Int32} {x2 : Int32} {r : PR}, k7 M x1 x2 = some r → PW l 8 Y_X10_never k_X10_never_7 [vR 0, vI x1, vI x2, jk, jk] [] M r) : ∀ (n : Nat) {M : PM} {x1 : Int32} {x2 : Int32} {x3 : Int32} {x4 : Int32} {r : PR}, F_X10_never_0_42 k7 n M x1 x2 x3 x4 = some r → PW l 8 Y_X10_never k_X10_never_42 [vR 0, vI x1, vI x2, vI x3, vI x4] [] M r := by
  intro n
  induction n with
  | zero => intro M x1 x2 x3 x4 r h; exact nomatch (show (none : Option PR) = some r from h)
  | succ n ih =>
    intro M x1 x2 x3 x4 r h
    rw [F_X10_never_0_42] at h
    refine p_iload rfl ?_
    refine p_aload_n rfl ?_
    refine p_getR fk_X10_27 gt_0 rfl rfl ?_
    refine p_getR fk_X10_128 gt_3 rfl rfl ?_
    refine p_getI fk_X10_132 gt_4 rfl ?_
    refine p_icmp_ge h 47 rfl rfl (fun _ h => ?_) (fun _ h => ?_)
    · exact p_fg (S_X10_never_0_88 hl hk7 h) ⟨Or.inr rfl, Or.inr rfl, Or.inr rfl, Or.inl rfl, Or.inl rfl, trivial⟩
    · refine p_iload_n rfl ?_
      refine p_iload_n rfl ?_
      refine p_cI (av := [_, _]) ⟨mok_X10_isIn, Or.inr ⟨207, rfl, rfl, sta_X10_isIn, Or.inl lk_X10_207⟩⟩ (Nat.le_of_ble_eq_true rfl) (Nat.le_of_ble_eq_true rfl) rfl (fun _ h => pc_X10_isIn hl h) h (fun v421 M420 h => ?_)
      refine p_if_eq h 47 rfl rfl (fun _ h => ?_) (fun _ h => ?_)
      · exact p_fg (S_X10_never_0_88 hl hk7 h) ⟨Or.inr rfl, Or.inr rfl, Or.inr rfl, Or.inl rfl, Or.inl rfl, trivial⟩
      · refine p_iload rfl ?_
        refine p_iload_n rfl ?_
        refine p_cI (av := [_, _]) ⟨mok_X10_isIn, Or.inr ⟨207, rfl, rfl, sta_X10_isIn, Or.inl lk_X10_207⟩⟩ (Nat.le_of_ble_eq_true rfl) (Nat.le_of_ble_eq_true rfl) rfl (fun _ h => pc_X10_isIn hl h) h (fun v423 M422 h => ?_)
        refine p_if_eq h 45 rfl rfl (fun _ h => ?_) (fun _ h => ?_)
        · have h := lt_h h
          refine p_iinc (Nat.le_of_ble_eq_true rfl) rfl (ci_1 _) rfl ?_
          refine p_goto 25 rfl rfl ?_
          exact p_fg (ih h) ⟨Or.inr rfl, Or.inr rfl, Or.inr rfl, Or.inr rfl, Or.inr rfl, trivial⟩
        · refine p_bipush cb_100 ?_
          refine p_iload_n rfl ?_
          refine p_imul ?_
          refine p_iload rfl ?_
          refine p_iadd ?_
          exact p_iret rfl h
set_option maxRecDepth 100000 in
theorem S_X10_never_0_7 {l : Launch} (hl : l.stackTraces = false) : ∀ (n : Nat) {M : PM} {x1 : Int32} {x2 : Int32} {r : PR}, F_X10_never_0_7  n M x1 x2 = some r → PW l 8 Y_X10_never k_X10_never_7 [vR 0, vI x1, vI x2, jk, jk] [] M r := by
  intro n
  induction n with
  | zero => intro M x1 x2 r h; exact nomatch (show (none : Option PR) = some r from h)
  | succ n ih =>
    intro M x1 x2 r h
    rw [F_X10_never_0_7] at h
    refine p_iload_n rfl ?_
    refine p_aload_n rfl ?_
    refine p_getR fk_X10_27 gt_0 rfl rfl ?_
    refine p_getR fk_X10_128 gt_3 rfl rfl ?_
    refine p_getI fk_X10_132 gt_4 rfl ?_
    refine p_icmp_ge h 49 rfl rfl (fun _ h => ?_) (fun _ h => ?_)
    · refine p_iconst cn_m1 ?_
      exact p_iret rfl h
    · refine p_iload_n rfl ?_
      refine p_aload_n rfl ?_
      refine p_getR fk_X10_27 gt_0 rfl rfl ?_
      refine p_getR fk_X10_128 gt_3 rfl rfl ?_
      refine p_iload_n rfl ?_
      refine p_cI (av := [_, _]) ⟨mok_X2_meetingWith, Or.inl ⟨204, 4, 2, 0, _, rfl, rfl, rfl, gt_4, rfl, ins_X2_meetingWith, Or.inr lk_X10_204⟩⟩ (Nat.le_of_ble_eq_true rfl) (Nat.le_of_ble_eq_true rfl) rfl (fun _ h => pc_X2_meetingWith_4 hl h) h (fun v426 M425 h => ?_)
      refine p_iconst cn_m1 ?_
      refine p_ixor ?_
      refine p_iand ?_
      have h := lt_h h
      refine p_istore_n (Nat.le_of_ble_eq_true rfl) rfl ?_
      refine p_iload_n rfl ?_
      refine p_iconst cn_1 ?_
      refine p_iadd ?_
      have h := lt_h h
      refine p_istore (Nat.le_of_ble_eq_true rfl) rfl ?_
      exact p_fg (S_X10_never_0_42 hl (fun h => ih h) FUEL h) ⟨Or.inr rfl, Or.inr rfl, Or.inr rfl, Or.inr rfl, Or.inr rfl, trivial⟩
set_option maxRecDepth 100000 in
theorem S_X10_never_0 {l : Launch} (hl : l.stackTraces = false) {M : PM} {a1 : Int32} {r : PR} (h : F_X10_never_0 M a1 = some r) : PW l 8 Y_X10_never k_X10_never [vR 0, vI a1, jk, jk, jk] [] M r := by
  unfold F_X10_never_0 at h
  refine p_aload_n rfl ?_
  refine p_iload_n rfl ?_
  refine p_bV mok_X10_needLaws rfl gt_0 rfl ins_X10_needLaws lk_X10_201 (Nat.le_of_ble_eq_true rfl) (Nat.le_of_ble_eq_true rfl) rfl (fun _ h => pc_X10_needLaws_0 hl h) h (fun M429 h => ?_)
  refine p_iconst cn_0 ?_
  refine p_istore_n (Nat.le_of_ble_eq_true rfl) rfl ?_
  exact p_fg (S_X10_never_0_7 hl FUEL h) ⟨Or.inr rfl, Or.inr rfl, Or.inr rfl, Or.inl rfl, Or.inl rfl, trivial⟩
set_option maxRecDepth 100000 in
theorem pc_X10_never_0 {l : Launch} (hl : l.stackTraces = false) {M : PM} {a1 : Int32} {r : PR} (h : F_X10_never_0 M a1 = some r) : PC l 8 Y_X10_never [vR 0, vI a1] M r := pc_of hl (by decide +kernel) cok_X10_never (Nat.le_of_ble_eq_true rfl) rfl (S_X10_never_0 hl  h) rfl
def F_X2_firstDayOfAll_4_84 (k7 : PM → Int32 → Int32 → Int32 → Int32 → Option PR) (M : PM) (x1 : Int32) (x2 : Int32) (x3 : Int32) (x4 : Int32) : Option PR := lt (x4 + 1) fun y430 => k7 M x1 x2 x3 y430
def F_X2_firstDayOfAll_4_60 (k7 : PM → Int32 → Int32 → Int32 → Int32 → Option PR) (M : PM) (x1 : Int32) (x2 : Int32) (x3 : Int32) (x4 : Int32) : Option PR := cI (F_X2_isHeld_4 M x4 x2) fun v432 M431 => (if v432 = 0 then some (.inl (some (.int (-1))), M431) else if ixOK x4 12 = true then cI (F_X10_commonTurn M431 x3 (mA M431 5 x4.toNatClampNeg)) fun v434 M433 => F_X2_firstDayOfAll_4_84 k7 M433 x1 x2 v434 x4 else none)
def F_X2_firstDayOfAll_4_28 (k7 : PM → Int32 → Int32 → Int32 → Int32 → Option PR) : Nat → PM → Int32 → Int32 → Int32 → Int32 → Int32 → Option PR
  | 0, _, _, _, _, _, _ => none
  | n + 1, M, x1, x2, x3, x4, x5 => if ixOK x4 12 = true then (if mA M 5 x4.toNatClampNeg ≤ x5 then F_X2_firstDayOfAll_4_60 k7 M x1 x2 x3 x4 else cI (F_X2_isHeld_4 M x4 x2) fun v436 M435 => (if v436 = 0 then lt (x2 + x3) fun y437 => lt (x5 + 1) fun y438 => F_X2_firstDayOfAll_4_28 k7 n M435 x1 y437 x3 x4 y438 else F_X2_firstDayOfAll_4_60 k7 M435 x1 x2 x3 x4)) else none
def F_X2_firstDayOfAll_4_7 : Nat → PM → Int32 → Int32 → Int32 → Int32 → Option PR
  | 0, _, _, _, _, _ => none
  | n + 1, M, x1, x2, x3, x4 => (if mI M 4 4 ≤ x4 then some (.inl (some (.int x2)), M) else cI (F_X10_isIn M x4 x1) fun v440 M439 => (if v440 = 0 then F_X2_firstDayOfAll_4_84 (F_X2_firstDayOfAll_4_7 n) M439 x1 x2 x3 x4 else F_X2_firstDayOfAll_4_28 (F_X2_firstDayOfAll_4_7 n) FUEL M439 x1 x2 x3 x4 0))
def F_X2_firstDayOfAll_4 (M : PM) (a1 : Int32) : Option PR := F_X2_firstDayOfAll_4_7 FUEL M a1 0 1 0
set_option maxRecDepth 100000 in
theorem S_X2_firstDayOfAll_4_84 {l : Launch} (hl : l.stackTraces = false) {k7 : PM → Int32 → Int32 → Int32 → Int32 → Option PR} (hk7 : ∀ {M : PM} {x1 : Int32} {x2 : Int32} {x3 : Int32} {x4 : Int32} {r : PR}, k7 M x1 x2 x3 x4 = some r → PW l 2 Y_X2_firstDayOfAll k_X2_firstDayOfAll_7 [vR 4, vI x1, vI x2, vI x3, vI x4, jk] [] M r) {M : PM} {x1 : Int32} {x2 : Int32} {x3 : Int32} {x4 : Int32} {r : PR} (h : F_X2_firstDayOfAll_4_84 k7 M x1 x2 x3 x4 = some r) : PW l 2 Y_X2_firstDayOfAll k_X2_firstDayOfAll_84 [vR 4, vI x1, vI x2, vI x3, vI x4, jk] [] M r := by
  unfold F_X2_firstDayOfAll_4_84 at h
  have h := lt_h h
  refine p_iinc (Nat.le_of_ble_eq_true rfl) rfl (ci_1 _) rfl ?_
  refine p_goto 6 rfl rfl ?_
  exact p_fg (hk7 h) ⟨Or.inr rfl, Or.inr rfl, Or.inr rfl, Or.inr rfl, Or.inr rfl, Or.inl rfl, trivial⟩
set_option maxRecDepth 100000 in
theorem S_X2_firstDayOfAll_4_60 {l : Launch} (hl : l.stackTraces = false) {k7 : PM → Int32 → Int32 → Int32 → Int32 → Option PR} (hk7 : ∀ {M : PM} {x1 : Int32} {x2 : Int32} {x3 : Int32} {x4 : Int32} {r : PR}, k7 M x1 x2 x3 x4 = some r → PW l 2 Y_X2_firstDayOfAll k_X2_firstDayOfAll_7 [vR 4, vI x1, vI x2, vI x3, vI x4, jk] [] M r) {M : PM} {x1 : Int32} {x2 : Int32} {x3 : Int32} {x4 : Int32} {r : PR} (h : F_X2_firstDayOfAll_4_60 k7 M x1 x2 x3 x4 = some r) : PW l 2 Y_X2_firstDayOfAll k_X2_firstDayOfAll_60 [vR 4, vI x1, vI x2, vI x3, vI x4, jk] [] M r := by
  unfold F_X2_firstDayOfAll_4_60 at h
  refine p_aload_n rfl ?_
  refine p_iload rfl ?_
  refine p_iload_n rfl ?_
  refine p_cI (av := [_, _, _]) ⟨mok_X2_isHeld, Or.inl ⟨71, 4, 2, 0, _, rfl, rfl, rfl, gt_4, rfl, ins_X2_isHeld, Or.inl lk_X2_71⟩⟩ (Nat.le_of_ble_eq_true rfl) (Nat.le_of_ble_eq_true rfl) rfl (fun _ h => pc_X2_isHeld_4 hl h) h (fun v432 M431 h => ?_)
  refine p_if_ne h 40 rfl rfl (fun _ h => ?_) (fun _ h => ?_)
  · refine p_iconst cn_m1 ?_
    exact p_iret rfl h
  · refine p_iload_n rfl ?_
    refine p_aload_n rfl ?_
    refine p_getR fk_X2_15 gt_4 rfl rfl ?_
    refine p_iload rfl ?_
    refine p_iald gt_5 h (fun h => ?_)
    refine p_cI (av := [_, _]) ⟨mok_X10_commonTurn, Or.inr ⟨68, rfl, rfl, sta_X10_commonTurn, Or.inr lk_X2_68⟩⟩ (Nat.le_of_ble_eq_true rfl) (Nat.le_of_ble_eq_true rfl) rfl (fun _ h => pc_X10_commonTurn hl h) h (fun v434 M433 h => ?_)
    refine p_istore_n (Nat.le_of_ble_eq_true rfl) rfl ?_
    exact p_fg (S_X2_firstDayOfAll_4_84 hl hk7 h) ⟨Or.inr rfl, Or.inr rfl, Or.inr rfl, Or.inr rfl, Or.inr rfl, Or.inl rfl, trivial⟩
set_option maxRecDepth 100000 in
theorem S_X2_firstDayOfAll_4_28 {l : Launch} (hl : l.stackTraces = false) {k7 : PM → Int32 → Int32 → Int32 → Int32 → Option PR} (hk7 : ∀ {M : PM} {x1 : Int32} {x2 : Int32} {x3 : Int32} {x4 : Int32} {r : PR}, k7 M x1 x2 x3 x4 = some r → PW l 2 Y_X2_firstDayOfAll k_X2_firstDayOfAll_7 [vR 4, vI x1, vI x2, vI x3, vI x4, jk] [] M r) : ∀ (n : Nat) {M : PM} {x1 : Int32} {x2 : Int32} {x3 : Int32} {x4 : Int32} {x5 : Int32} {r : PR}, F_X2_firstDayOfAll_4_28 k7 n M x1 x2 x3 x4 x5 = some r → PW l 2 Y_X2_firstDayOfAll k_X2_firstDayOfAll_28 [vR 4, vI x1, vI x2, vI x3, vI x4, vI x5] [] M r := by
  intro n
  induction n with
  | zero => intro M x1 x2 x3 x4 x5 r h; exact nomatch (show (none : Option PR) = some r from h)
  | succ n ih =>
    intro M x1 x2 x3 x4 x5 r h
    rw [F_X2_firstDayOfAll_4_28] at h
    refine p_iload rfl ?_
    refine p_aload_n rfl ?_
    refine p_getR fk_X2_15 gt_4 rfl rfl ?_
    refine p_iload rfl ?_
    refine p_iald gt_5 h (fun h => ?_)
    refine p_icmp_ge h 33 rfl rfl (fun _ h => ?_) (fun _ h => ?_)
    · exact p_fg (S_X2_firstDayOfAll_4_60 hl hk7 h) ⟨Or.inr rfl, Or.inr rfl, Or.inr rfl, Or.inr rfl, Or.inr rfl, Or.inl rfl, trivial⟩
    · refine p_aload_n rfl ?_
      refine p_iload rfl ?_
      refine p_iload_n rfl ?_
      refine p_cI (av := [_, _, _]) ⟨mok_X2_isHeld, Or.inl ⟨71, 4, 2, 0, _, rfl, rfl, rfl, gt_4, rfl, ins_X2_isHeld, Or.inl lk_X2_71⟩⟩ (Nat.le_of_ble_eq_true rfl) (Nat.le_of_ble_eq_true rfl) rfl (fun _ h => pc_X2_isHeld_4 hl h) h (fun v436 M435 h => ?_)
      refine p_if_ne h 33 rfl rfl (fun _ h => ?_) (fun _ h => ?_)
      · refine p_iload_n rfl ?_
        refine p_iload_n rfl ?_
        refine p_iadd ?_
        have h := lt_h h
        refine p_istore_n (Nat.le_of_ble_eq_true rfl) rfl ?_
        have h := lt_h h
        refine p_iinc (Nat.le_of_ble_eq_true rfl) rfl (ci_1 _) rfl ?_
        refine p_goto 16 rfl rfl ?_
        exact p_fg (ih h) ⟨Or.inr rfl, Or.inr rfl, Or.inr rfl, Or.inr rfl, Or.inr rfl, Or.inr rfl, trivial⟩
      · exact p_fg (S_X2_firstDayOfAll_4_60 hl hk7 h) ⟨Or.inr rfl, Or.inr rfl, Or.inr rfl, Or.inr rfl, Or.inr rfl, Or.inl rfl, trivial⟩
set_option maxRecDepth 100000 in
theorem S_X2_firstDayOfAll_4_7 {l : Launch} (hl : l.stackTraces = false) : ∀ (n : Nat) {M : PM} {x1 : Int32} {x2 : Int32} {x3 : Int32} {x4 : Int32} {r : PR}, F_X2_firstDayOfAll_4_7  n M x1 x2 x3 x4 = some r → PW l 2 Y_X2_firstDayOfAll k_X2_firstDayOfAll_7 [vR 4, vI x1, vI x2, vI x3, vI x4, jk] [] M r := by
  intro n
  induction n with
  | zero => intro M x1 x2 x3 x4 r h; exact nomatch (show (none : Option PR) = some r from h)
  | succ n ih =>
    intro M x1 x2 x3 x4 r h
    rw [F_X2_firstDayOfAll_4_7] at h
    refine p_iload rfl ?_
    refine p_aload_n rfl ?_
    refine p_getI fk_X2_31 gt_4 rfl ?_
    refine p_icmp_ge h 49 rfl rfl (fun _ h => ?_) (fun _ h => ?_)
    · refine p_iload_n rfl ?_
      exact p_iret rfl h
    · refine p_iload rfl ?_
      refine p_iload_n rfl ?_
      refine p_cI (av := [_, _]) ⟨mok_X10_isIn, Or.inr ⟨61, rfl, rfl, sta_X10_isIn, Or.inr lk_X2_61⟩⟩ (Nat.le_of_ble_eq_true rfl) (Nat.le_of_ble_eq_true rfl) rfl (fun _ h => pc_X10_isIn hl h) h (fun v440 M439 h => ?_)
      refine p_if_eq h 47 rfl rfl (fun _ h => ?_) (fun _ h => ?_)
      · exact p_fg (S_X2_firstDayOfAll_4_84 hl (fun h => ih h) h) ⟨Or.inr rfl, Or.inr rfl, Or.inr rfl, Or.inr rfl, Or.inr rfl, Or.inl rfl, trivial⟩
      · refine p_iconst cn_0 ?_
        refine p_istore (Nat.le_of_ble_eq_true rfl) rfl ?_
        exact p_fg (S_X2_firstDayOfAll_4_28 hl (fun h => ih h) FUEL h) ⟨Or.inr rfl, Or.inr rfl, Or.inr rfl, Or.inr rfl, Or.inr rfl, Or.inr rfl, trivial⟩
set_option maxRecDepth 100000 in
theorem S_X2_firstDayOfAll_4 {l : Launch} (hl : l.stackTraces = false) {M : PM} {a1 : Int32} {r : PR} (h : F_X2_firstDayOfAll_4 M a1 = some r) : PW l 2 Y_X2_firstDayOfAll k_X2_firstDayOfAll [vR 4, vI a1, jk, jk, jk, jk] [] M r := by
  unfold F_X2_firstDayOfAll_4 at h
  refine p_iconst cn_0 ?_
  refine p_istore_n (Nat.le_of_ble_eq_true rfl) rfl ?_
  refine p_iconst cn_1 ?_
  refine p_istore_n (Nat.le_of_ble_eq_true rfl) rfl ?_
  refine p_iconst cn_0 ?_
  refine p_istore (Nat.le_of_ble_eq_true rfl) rfl ?_
  exact p_fg (S_X2_firstDayOfAll_4_7 hl FUEL h) ⟨Or.inr rfl, Or.inr rfl, Or.inr rfl, Or.inr rfl, Or.inr rfl, Or.inl rfl, trivial⟩
set_option maxRecDepth 100000 in
theorem pc_X2_firstDayOfAll_4 {l : Launch} (hl : l.stackTraces = false) {M : PM} {a1 : Int32} {r : PR} (h : F_X2_firstDayOfAll_4 M a1 = some r) : PC l 2 Y_X2_firstDayOfAll [vR 4, vI a1] M r := pc_of hl (by decide +kernel) cok_X2_firstDayOfAll (Nat.le_of_ble_eq_true rfl) rfl (S_X2_firstDayOfAll_4 hl  h) rfl
def F_X10_together_0 (M : PM) (a1 : Int32) : Option PR := bV (F_X10_needLaws_0 M a1) fun M441 => cI (F_X2_firstDayOfAll_4 M441 a1) fun v443 M442 => some (.inl (some (.int v443)), M442)
set_option maxRecDepth 100000 in
theorem S_X10_together_0 {l : Launch} (hl : l.stackTraces = false) {M : PM} {a1 : Int32} {r : PR} (h : F_X10_together_0 M a1 = some r) : PW l 8 Y_X10_together k_X10_together [vR 0, vI a1] [] M r := by
  unfold F_X10_together_0 at h
  refine p_aload_n rfl ?_
  refine p_iload_n rfl ?_
  refine p_bV mok_X10_needLaws rfl gt_0 rfl ins_X10_needLaws lk_X10_201 (Nat.le_of_ble_eq_true rfl) (Nat.le_of_ble_eq_true rfl) rfl (fun _ h => pc_X10_needLaws_0 hl h) h (fun M441 h => ?_)
  refine p_aload_n rfl ?_
  refine p_getR fk_X10_27 gt_0 rfl rfl ?_
  refine p_getR fk_X10_128 gt_3 rfl rfl ?_
  refine p_iload_n rfl ?_
  refine p_cI (av := [_, _]) ⟨mok_X2_firstDayOfAll, Or.inl ⟨211, 4, 2, 0, _, rfl, rfl, rfl, gt_4, rfl, ins_X2_firstDayOfAll, Or.inr lk_X10_211⟩⟩ (Nat.le_of_ble_eq_true rfl) (Nat.le_of_ble_eq_true rfl) rfl (fun _ h => pc_X2_firstDayOfAll_4 hl h) h (fun v443 M442 h => ?_)
  exact p_iret rfl h
set_option maxRecDepth 100000 in
theorem pc_X10_together_0 {l : Launch} (hl : l.stackTraces = false) {M : PM} {a1 : Int32} {r : PR} (h : F_X10_together_0 M a1 = some r) : PC l 8 Y_X10_together [vR 0, vI a1] M r := pc_of hl (by decide +kernel) cok_X10_together (Nat.le_of_ble_eq_true rfl) rfl (S_X10_together_0 hl  h) rfl
def F_J6_bitCount_0f7a4 (M : PM) (a0 : Int32) : Option PR := lt (a0 - (((a0.toUInt32 >>> ((1 : Int32).toUInt32 &&& Int32.toUInt32 31)).toInt32) &&& 1431655765)) fun y444 => lt ((y444 &&& 858993459) + (((y444.toUInt32 >>> ((2 : Int32).toUInt32 &&& Int32.toUInt32 31)).toInt32) &&& 858993459)) fun y445 => lt ((y445 + ((y445.toUInt32 >>> ((4 : Int32).toUInt32 &&& Int32.toUInt32 31)).toInt32)) &&& 252645135) fun y446 => lt (y446 + ((y446.toUInt32 >>> ((8 : Int32).toUInt32 &&& Int32.toUInt32 31)).toInt32)) fun y447 => lt (y447 + ((y447.toUInt32 >>> ((16 : Int32).toUInt32 &&& Int32.toUInt32 31)).toInt32)) fun y448 => some (.inl (some (.int (y448 &&& 63))), M)
set_option maxRecDepth 100000 in
theorem S_J6_bitCount_0f7a4 {l : Launch} (hl : l.stackTraces = false) {M : PM} {a0 : Int32} {r : PR} (h : F_J6_bitCount_0f7a4 M a0 = some r) : PW l 0 Y_J6_bitCount_0f7a4 k_J6_bitCount_0f7a4 [vI a0] [] M r := by
  unfold F_J6_bitCount_0f7a4 at h
  refine p_iload_n rfl ?_
  refine p_iload_n rfl ?_
  refine p_iconst cn_1 ?_
  refine p_iushr ?_
  refine p_ldc_w co_J6_265 ?_
  refine p_iand ?_
  refine p_isub ?_
  have h := lt_h h
  refine p_istore_n (Nat.le_of_ble_eq_true rfl) rfl ?_
  refine p_iload_n rfl ?_
  refine p_ldc_w co_J6_266 ?_
  refine p_iand ?_
  refine p_iload_n rfl ?_
  refine p_iconst cn_2 ?_
  refine p_iushr ?_
  refine p_ldc_w co_J6_266 ?_
  refine p_iand ?_
  refine p_iadd ?_
  have h := lt_h h
  refine p_istore_n (Nat.le_of_ble_eq_true rfl) rfl ?_
  refine p_iload_n rfl ?_
  refine p_iload_n rfl ?_
  refine p_iconst cn_4 ?_
  refine p_iushr ?_
  refine p_iadd ?_
  refine p_ldc_w co_J6_267 ?_
  refine p_iand ?_
  have h := lt_h h
  refine p_istore_n (Nat.le_of_ble_eq_true rfl) rfl ?_
  refine p_iload_n rfl ?_
  refine p_iload_n rfl ?_
  refine p_bipush cb_8 ?_
  refine p_iushr ?_
  refine p_iadd ?_
  have h := lt_h h
  refine p_istore_n (Nat.le_of_ble_eq_true rfl) rfl ?_
  refine p_iload_n rfl ?_
  refine p_iload_n rfl ?_
  refine p_bipush cb_16 ?_
  refine p_iushr ?_
  refine p_iadd ?_
  have h := lt_h h
  refine p_istore_n (Nat.le_of_ble_eq_true rfl) rfl ?_
  refine p_iload_n rfl ?_
  refine p_bipush cb_63 ?_
  refine p_iand ?_
  exact p_iret rfl h
set_option maxRecDepth 100000 in
theorem pc_J6_bitCount_0f7a4 {l : Launch} (hl : l.stackTraces = false) {M : PM} {a0 : Int32} {r : PR} (h : F_J6_bitCount_0f7a4 M a0 = some r) : PC l 0 Y_J6_bitCount_0f7a4 [vI a0] M r := pc_of hl (by decide +kernel) cok_J6_bitCount_0f7a4 (Nat.le_of_ble_eq_true rfl) rfl (S_J6_bitCount_0f7a4 hl  h) rfl
def F_X2_allMeet_4_33 (k2 : PM → Int32 → Int32 → Option PR) (M : PM) (x1 : Int32) (x2 : Int32) : Option PR := lt (x2 + 1) fun y449 => k2 M x1 y449
def F_X2_allMeet_4_2 : Nat → PM → Int32 → Int32 → Option PR
  | 0, _, _, _ => none
  | n + 1, M, x1, x2 => (if mI M 4 4 ≤ x2 then (if (1 : Int32) &&& 1 = 1 then some (.inl (some (.int 1)), M) else none) else cI (F_X10_isIn M x2 x1) fun v451 M450 => (if v451 = 0 then F_X2_allMeet_4_33 (F_X2_allMeet_4_2 n) M450 x1 x2 else if ixOK x2 12 = true then (if x1 &&& ((mA M450 8 x2.toNatClampNeg) ^^^ (-1)) = 0 then F_X2_allMeet_4_33 (F_X2_allMeet_4_2 n) M450 x1 x2 else (if (0 : Int32) &&& 1 = 0 then some (.inl (some (.int 0)), M450) else none)) else none))
def F_X2_allMeet_4 (M : PM) (a1 : Int32) : Option PR := F_X2_allMeet_4_2 FUEL M a1 0
set_option maxRecDepth 100000 in
theorem S_X2_allMeet_4_33 {l : Launch} (hl : l.stackTraces = false) {k2 : PM → Int32 → Int32 → Option PR} (hk2 : ∀ {M : PM} {x1 : Int32} {x2 : Int32} {r : PR}, k2 M x1 x2 = some r → PW l 1 Y_X2_allMeet k_X2_allMeet_2 [vR 4, vI x1, vI x2] [] M r) {M : PM} {x1 : Int32} {x2 : Int32} {r : PR} (h : F_X2_allMeet_4_33 k2 M x1 x2 = some r) : PW l 1 Y_X2_allMeet k_X2_allMeet_33 [vR 4, vI x1, vI x2] [] M r := by
  unfold F_X2_allMeet_4_33 at h
  have h := lt_h h
  refine p_iinc (Nat.le_of_ble_eq_true rfl) rfl (ci_1 _) rfl ?_
  refine p_goto 2 rfl rfl ?_
  exact p_fg (hk2 h) ⟨Or.inr rfl, Or.inr rfl, Or.inr rfl, trivial⟩
set_option maxRecDepth 100000 in
theorem S_X2_allMeet_4_2 {l : Launch} (hl : l.stackTraces = false) : ∀ (n : Nat) {M : PM} {x1 : Int32} {x2 : Int32} {r : PR}, F_X2_allMeet_4_2  n M x1 x2 = some r → PW l 1 Y_X2_allMeet k_X2_allMeet_2 [vR 4, vI x1, vI x2] [] M r := by
  intro n
  induction n with
  | zero => intro M x1 x2 r h; exact nomatch (show (none : Option PR) = some r from h)
  | succ n ih =>
    intro M x1 x2 r h
    rw [F_X2_allMeet_4_2] at h
    refine p_iload_n rfl ?_
    refine p_aload_n rfl ?_
    refine p_getI fk_X2_31 gt_4 rfl ?_
    refine p_icmp_ge h 23 rfl rfl (fun _ h => ?_) (fun _ h => ?_)
    · refine p_iconst cn_1 ?_
      exact p_zret rfl h
    · refine p_iload_n rfl ?_
      refine p_iload_n rfl ?_
      refine p_cI (av := [_, _]) ⟨mok_X10_isIn, Or.inr ⟨61, rfl, rfl, sta_X10_isIn, Or.inr lk_X2_61⟩⟩ (Nat.le_of_ble_eq_true rfl) (Nat.le_of_ble_eq_true rfl) rfl (fun _ h => pc_X10_isIn hl h) h (fun v451 M450 h => ?_)
      refine p_if_eq h 21 rfl rfl (fun _ h => ?_) (fun _ h => ?_)
      · exact p_fg (S_X2_allMeet_4_33 hl (fun h => ih h) h) ⟨Or.inr rfl, Or.inr rfl, Or.inr rfl, trivial⟩
      · refine p_iload_n rfl ?_
        refine p_aload_n rfl ?_
        refine p_getR fk_X2_28 gt_4 rfl rfl ?_
        refine p_iload_n rfl ?_
        refine p_iald gt_8 h (fun h => ?_)
        refine p_iconst cn_m1 ?_
        refine p_ixor ?_
        refine p_iand ?_
        refine p_if_eq h 21 rfl rfl (fun _ h => ?_) (fun _ h => ?_)
        · exact p_fg (S_X2_allMeet_4_33 hl (fun h => ih h) h) ⟨Or.inr rfl, Or.inr rfl, Or.inr rfl, trivial⟩
        · refine p_iconst cn_0 ?_
          exact p_zret rfl h
set_option maxRecDepth 100000 in
theorem S_X2_allMeet_4 {l : Launch} (hl : l.stackTraces = false) {M : PM} {a1 : Int32} {r : PR} (h : F_X2_allMeet_4 M a1 = some r) : PW l 1 Y_X2_allMeet k_X2_allMeet [vR 4, vI a1, jk] [] M r := by
  unfold F_X2_allMeet_4 at h
  refine p_iconst cn_0 ?_
  refine p_istore_n (Nat.le_of_ble_eq_true rfl) rfl ?_
  exact p_fg (S_X2_allMeet_4_2 hl FUEL h) ⟨Or.inr rfl, Or.inr rfl, Or.inr rfl, trivial⟩
set_option maxRecDepth 100000 in
theorem pc_X2_allMeet_4 {l : Launch} (hl : l.stackTraces = false) {M : PM} {a1 : Int32} {r : PR} (h : F_X2_allMeet_4 M a1 = some r) : PC l 1 Y_X2_allMeet [vR 4, vI a1] M r := pc_of hl (by decide +kernel) cok_X2_allMeet (Nat.le_of_ble_eq_true rfl) rfl (S_X2_allMeet_4 hl  h) rfl
def F_X2_greatestSet_4_48 (k15 : PM → Int32 → Int32 → Int32 → Int32 → Option PR) (M : PM) (x1 : Int32) (x2 : Int32) (x3 : Int32) (x4 : Int32) : Option PR := lt (x4 + 1) fun y452 => k15 M x1 x2 x3 y452
def F_X2_greatestSet_4_15 : Nat → PM → Int32 → Int32 → Int32 → Int32 → Option PR
  | 0, _, _, _, _, _ => none
  | n + 1, M, x1, x2, x3, x4 => (if x3 < x4 then some (.inl (some (.int x1)), M) else cI (F_J6_bitCount_0f7a4 M x4) fun v454 M453 => (if v454 ≤ x2 then F_X2_greatestSet_4_48 (F_X2_greatestSet_4_15 n) M453 x1 x2 x3 x4 else cI (F_X2_allMeet_4 M453 x4) fun v456 M455 => (if v456 = 0 then F_X2_greatestSet_4_48 (F_X2_greatestSet_4_15 n) M455 x1 x2 x3 x4 else cI (F_J6_bitCount_0f7a4 M455 x4) fun v458 M457 => F_X2_greatestSet_4_48 (F_X2_greatestSet_4_15 n) M457 x4 v458 x3 x4)))
def F_X2_greatestSet_4 (M : PM)  : Option PR := cI (F_X10_all M (mI M 4 4)) fun v460 M459 => F_X2_greatestSet_4_15 FUEL M459 0 0 v460 0
set_option maxRecDepth 100000 in
theorem S_X2_greatestSet_4_48 {l : Launch} (hl : l.stackTraces = false) {k15 : PM → Int32 → Int32 → Int32 → Int32 → Option PR} (hk15 : ∀ {M : PM} {x1 : Int32} {x2 : Int32} {x3 : Int32} {x4 : Int32} {r : PR}, k15 M x1 x2 x3 x4 = some r → PW l 2 Y_X2_greatestSet k_X2_greatestSet_15 [vR 4, vI x1, vI x2, vI x3, vI x4] [] M r) {M : PM} {x1 : Int32} {x2 : Int32} {x3 : Int32} {x4 : Int32} {r : PR} (h : F_X2_greatestSet_4_48 k15 M x1 x2 x3 x4 = some r) : PW l 2 Y_X2_greatestSet k_X2_greatestSet_48 [vR 4, vI x1, vI x2, vI x3, vI x4] [] M r := by
  unfold F_X2_greatestSet_4_48 at h
  have h := lt_h h
  refine p_iinc (Nat.le_of_ble_eq_true rfl) rfl (ci_1 _) rfl ?_
  refine p_goto 10 rfl rfl ?_
  exact p_fg (hk15 h) ⟨Or.inr rfl, Or.inr rfl, Or.inr rfl, Or.inr rfl, Or.inr rfl, trivial⟩
set_option maxRecDepth 100000 in
theorem S_X2_greatestSet_4_15 {l : Launch} (hl : l.stackTraces = false) : ∀ (n : Nat) {M : PM} {x1 : Int32} {x2 : Int32} {x3 : Int32} {x4 : Int32} {r : PR}, F_X2_greatestSet_4_15  n M x1 x2 x3 x4 = some r → PW l 2 Y_X2_greatestSet k_X2_greatestSet_15 [vR 4, vI x1, vI x2, vI x3, vI x4] [] M r := by
  intro n
  induction n with
  | zero => intro M x1 x2 x3 x4 r h; exact nomatch (show (none : Option PR) = some r from h)
  | succ n ih =>
    intro M x1 x2 x3 x4 r h
    rw [F_X2_greatestSet_4_15] at h
    refine p_iload rfl ?_
    refine p_iload_n rfl ?_
    refine p_icmp_gt h 28 rfl rfl (fun _ h => ?_) (fun _ h => ?_)
    · refine p_iload_n rfl ?_
      exact p_iret rfl h
    · refine p_iload rfl ?_
      refine p_cI (av := [_]) ⟨mok_J6_bitCount_0f7a4, Or.inr ⟨78, rfl, rfl, sta_J6_bitCount_0f7a4, Or.inl lk_X2_78⟩⟩ (Nat.le_of_ble_eq_true rfl) (Nat.le_of_ble_eq_true rfl) rfl (fun _ h => pc_J6_bitCount_0f7a4 hl h) h (fun v454 M453 h => ?_)
      refine p_iload_n rfl ?_
      refine p_icmp_le h 26 rfl rfl (fun _ h => ?_) (fun _ h => ?_)
      · exact p_fg (S_X2_greatestSet_4_48 hl (fun h => ih h) h) ⟨Or.inr rfl, Or.inr rfl, Or.inr rfl, Or.inr rfl, Or.inr rfl, trivial⟩
      · refine p_aload_n rfl ?_
        refine p_iload rfl ?_
        refine p_cI (av := [_, _]) ⟨mok_X2_allMeet, Or.inl ⟨83, 4, 2, 0, _, rfl, rfl, rfl, gt_4, rfl, ins_X2_allMeet, Or.inl lk_X2_83⟩⟩ (Nat.le_of_ble_eq_true rfl) (Nat.le_of_ble_eq_true rfl) rfl (fun _ h => pc_X2_allMeet_4 hl h) h (fun v456 M455 h => ?_)
        refine p_if_eq h 26 rfl rfl (fun _ h => ?_) (fun _ h => ?_)
        · exact p_fg (S_X2_greatestSet_4_48 hl (fun h => ih h) h) ⟨Or.inr rfl, Or.inr rfl, Or.inr rfl, Or.inr rfl, Or.inr rfl, trivial⟩
        · refine p_iload rfl ?_
          refine p_istore_n (Nat.le_of_ble_eq_true rfl) rfl ?_
          refine p_iload rfl ?_
          refine p_cI (av := [_]) ⟨mok_J6_bitCount_0f7a4, Or.inr ⟨78, rfl, rfl, sta_J6_bitCount_0f7a4, Or.inl lk_X2_78⟩⟩ (Nat.le_of_ble_eq_true rfl) (Nat.le_of_ble_eq_true rfl) rfl (fun _ h => pc_J6_bitCount_0f7a4 hl h) h (fun v458 M457 h => ?_)
          refine p_istore_n (Nat.le_of_ble_eq_true rfl) rfl ?_
          exact p_fg (S_X2_greatestSet_4_48 hl (fun h => ih h) h) ⟨Or.inr rfl, Or.inr rfl, Or.inr rfl, Or.inr rfl, Or.inr rfl, trivial⟩
set_option maxRecDepth 100000 in
theorem S_X2_greatestSet_4 {l : Launch} (hl : l.stackTraces = false) {M : PM}  {r : PR} (h : F_X2_greatestSet_4 M  = some r) : PW l 2 Y_X2_greatestSet k_X2_greatestSet [vR 4, jk, jk, jk, jk] [] M r := by
  unfold F_X2_greatestSet_4 at h
  refine p_iconst cn_0 ?_
  refine p_istore_n (Nat.le_of_ble_eq_true rfl) rfl ?_
  refine p_iconst cn_0 ?_
  refine p_istore_n (Nat.le_of_ble_eq_true rfl) rfl ?_
  refine p_aload_n rfl ?_
  refine p_getI fk_X2_31 gt_4 rfl ?_
  refine p_cI (av := [_]) ⟨mok_X10_all, Or.inr ⟨74, rfl, rfl, sta_X10_all, Or.inr lk_X2_74⟩⟩ (Nat.le_of_ble_eq_true rfl) (Nat.le_of_ble_eq_true rfl) rfl (fun _ h => pc_X10_all hl h) h (fun v460 M459 h => ?_)
  refine p_istore_n (Nat.le_of_ble_eq_true rfl) rfl ?_
  refine p_iconst cn_0 ?_
  refine p_istore (Nat.le_of_ble_eq_true rfl) rfl ?_
  exact p_fg (S_X2_greatestSet_4_15 hl FUEL h) ⟨Or.inr rfl, Or.inr rfl, Or.inr rfl, Or.inr rfl, Or.inr rfl, trivial⟩
set_option maxRecDepth 100000 in
theorem pc_X2_greatestSet_4 {l : Launch} (hl : l.stackTraces = false) {M : PM}  {r : PR} (h : F_X2_greatestSet_4 M  = some r) : PC l 2 Y_X2_greatestSet [vR 4] M r := pc_of hl (by decide +kernel) cok_X2_greatestSet (Nat.le_of_ble_eq_true rfl) rfl (S_X2_greatestSet_4 hl  h) rfl
def F_X10_most_0 (M : PM) (a1 : Int32) : Option PR := bV (F_X10_needEither_0 M a1) fun M461 => cI (F_X2_greatestSet_4 M461) fun v463 M462 => (if a1 = 0 then cI (F_J6_bitCount_0f7a4 M462 v463) fun v465 M464 => some (.inl (some (.int v465)), M464) else some (.inl (some (.int v463)), M462))
set_option maxRecDepth 100000 in
theorem S_X10_most_0 {l : Launch} (hl : l.stackTraces = false) {M : PM} {a1 : Int32} {r : PR} (h : F_X10_most_0 M a1 = some r) : PW l 8 Y_X10_most k_X10_most [vR 0, vI a1, jk] [] M r := by
  unfold F_X10_most_0 at h
  refine p_aload_n rfl ?_
  refine p_iload_n rfl ?_
  refine p_bV mok_X10_needEither rfl gt_0 rfl ins_X10_needEither lk_X10_158 (Nat.le_of_ble_eq_true rfl) (Nat.le_of_ble_eq_true rfl) rfl (fun _ h => pc_X10_needEither_0 hl h) h (fun M461 h => ?_)
  refine p_aload_n rfl ?_
  refine p_getR fk_X10_27 gt_0 rfl rfl ?_
  refine p_getR fk_X10_128 gt_3 rfl rfl ?_
  refine p_cI (av := [_]) ⟨mok_X2_greatestSet, Or.inl ⟨214, 4, 2, 0, _, rfl, rfl, rfl, gt_4, rfl, ins_X2_greatestSet, Or.inr lk_X10_214⟩⟩ (Nat.le_of_ble_eq_true rfl) (Nat.le_of_ble_eq_true rfl) rfl (fun _ h => pc_X2_greatestSet_4 hl h) h (fun v463 M462 h => ?_)
  refine p_istore_n (Nat.le_of_ble_eq_true rfl) rfl ?_
  refine p_iload_n rfl ?_
  refine p_if_ne h 13 rfl rfl (fun _ h => ?_) (fun _ h => ?_)
  · refine p_iload_n rfl ?_
    refine p_cI (av := [_]) ⟨mok_J6_bitCount_0f7a4, Or.inr ⟨217, rfl, rfl, sta_J6_bitCount_0f7a4, Or.inl lk_X10_217⟩⟩ (Nat.le_of_ble_eq_true rfl) (Nat.le_of_ble_eq_true rfl) rfl (fun _ h => pc_J6_bitCount_0f7a4 hl h) h (fun v465 M464 h => ?_)
    refine p_goto 14 rfl rfl ?_
    exact p_iret rfl h
  · refine p_iload_n rfl ?_
    exact p_iret rfl h
set_option maxRecDepth 100000 in
theorem pc_X10_most_0 {l : Launch} (hl : l.stackTraces = false) {M : PM} {a1 : Int32} {r : PR} (h : F_X10_most_0 M a1 = some r) : PC l 8 Y_X10_most [vR 0, vI a1] M r := pc_of hl (by decide +kernel) cok_X10_most (Nat.le_of_ble_eq_true rfl) rfl (S_X10_most_0 hl  h) rfl
def F_X10_count_0_23 : Nat → PM → Int32 → Int32 → Int32 → Option PR
  | 0, _, _, _, _ => none
  | n + 1, M, x1, x2, x3 => (if mI M 3 6 ≤ x3 then some (.inl (some (.int x2)), M) else cV (F_X2_tally_4 M x3) fun M466 => cJ (F_X2_justSoMany_4 M466 x1) fun v468 M467 => cJ (F_X10_low M467 ((mI M467 3 6) - x3)) fun v470 M469 => cI (F_J13_bitCount_95d88 M469 (v468 &&& v470)) fun v472 M471 => lt (x2 + v472) fun y473 => lt (x3 + 64) fun y474 => F_X10_count_0_23 n M471 x1 y473 y474)
def F_X10_count_0_16 (M : PM) (x1 : Int32) (t1 : Int32) : Option PR := bV (F_X10_need_0 M t1) fun M475 => F_X10_count_0_23 FUEL M475 x1 0 0
def F_X10_count_0_15 (M : PM) (x1 : Int32) : Option PR := F_X10_count_0_16 M x1 0
def F_X10_count_0 (M : PM) (a1 : Int32) : Option PR := (if a1 < 0 then F_X10_count_0_15 M a1 else (if 12 < a1 then F_X10_count_0_15 M a1 else F_X10_count_0_16 M a1 1))
set_option maxRecDepth 100000 in
theorem S_X10_count_0_23 {l : Launch} (hl : l.stackTraces = false) : ∀ (n : Nat) {M : PM} {x1 : Int32} {x2 : Int32} {x3 : Int32} {r : PR}, F_X10_count_0_23  n M x1 x2 x3 = some r → PW l 7 Y_X10_count k_X10_count_23 [vR 0, vI x1, vI x2, vI x3] [] M r := by
  intro n
  induction n with
  | zero => intro M x1 x2 x3 r h; exact nomatch (show (none : Option PR) = some r from h)
  | succ n ih =>
    intro M x1 x2 x3 r h
    rw [F_X10_count_0_23] at h
    refine p_iload_n rfl ?_
    refine p_aload_n rfl ?_
    refine p_getR fk_X10_27 gt_0 rfl rfl ?_
    refine p_getI fk_X10_149 gt_3 rfl ?_
    refine p_icmp_ge h 42 rfl rfl (fun _ h => ?_) (fun _ h => ?_)
    · refine p_iload_n rfl ?_
      exact p_iret rfl h
    · refine p_aload_n rfl ?_
      refine p_getR fk_X10_27 gt_0 rfl rfl ?_
      refine p_getR fk_X10_128 gt_3 rfl rfl ?_
      refine p_iload_n rfl ?_
      refine p_cV (av := [_, _]) ⟨mok_X2_tally, Or.inl ⟨222, 4, 2, 0, _, rfl, rfl, rfl, gt_4, rfl, ins_X2_tally, Or.inr lk_X10_222⟩⟩ (Nat.le_of_ble_eq_true rfl) (Nat.le_of_ble_eq_true rfl) rfl (fun _ h => pc_X2_tally_4 hl h) h (fun M466 h => ?_)
      refine p_iload_n rfl ?_
      refine p_aload_n rfl ?_
      refine p_getR fk_X10_27 gt_0 rfl rfl ?_
      refine p_getR fk_X10_128 gt_3 rfl rfl ?_
      refine p_iload_n rfl ?_
      refine p_cJ (av := [_, _]) ⟨mok_X2_justSoMany, Or.inl ⟨225, 4, 2, 0, _, rfl, rfl, rfl, gt_4, rfl, ins_X2_justSoMany, Or.inr lk_X10_225⟩⟩ (Nat.le_of_ble_eq_true rfl) (Nat.le_of_ble_eq_true rfl) rfl (fun _ h => pc_X2_justSoMany_4 hl h) h (fun v468 M467 h => ?_)
      refine p_aload_n rfl ?_
      refine p_getR fk_X10_27 gt_0 rfl rfl ?_
      refine p_getI fk_X10_149 gt_3 rfl ?_
      refine p_iload_n rfl ?_
      refine p_isub ?_
      refine p_cJ (av := [_]) ⟨mok_X10_low, Or.inr ⟨229, rfl, rfl, sta_X10_low, Or.inl lk_X10_229⟩⟩ (Nat.le_of_ble_eq_true rfl) (Nat.le_of_ble_eq_true rfl) rfl (fun _ h => pc_X10_low hl h) h (fun v470 M469 h => ?_)
      refine p_land ?_
      refine p_cI (av := [_]) ⟨mok_J13_bitCount_95d88, Or.inr ⟨232, rfl, rfl, sta_J13_bitCount_95d88, Or.inl lk_X10_232⟩⟩ (Nat.le_of_ble_eq_true rfl) (Nat.le_of_ble_eq_true rfl) rfl (fun _ h => pc_J13_bitCount_95d88 hl h) h (fun v472 M471 h => ?_)
      refine p_iadd ?_
      have h := lt_h h
      refine p_istore_n (Nat.le_of_ble_eq_true rfl) rfl ?_
      have h := lt_h h
      refine p_iinc (Nat.le_of_ble_eq_true rfl) rfl (ci_64 _) rfl ?_
      refine p_goto 14 rfl rfl ?_
      exact p_fg (ih h) ⟨Or.inr rfl, Or.inr rfl, Or.inr rfl, Or.inr rfl, trivial⟩
set_option maxRecDepth 100000 in
theorem S_X10_count_0_16 {l : Launch} (hl : l.stackTraces = false) {M : PM} {x1 : Int32} {t1 : Int32} {r : PR} (h : F_X10_count_0_16  M x1 t1 = some r) : PW l 7 Y_X10_count k_X10_count_16 [vR 0, vI x1, jk, jk] [vI t1, vR 0] M r := by
  unfold F_X10_count_0_16 at h
  refine p_bV mok_X10_need rfl gt_0 rfl ins_X10_need lk_X10_101 (Nat.le_of_ble_eq_true rfl) (Nat.le_of_ble_eq_true rfl) rfl (fun _ h => pc_X10_need_0 hl h) h (fun M475 h => ?_)
  refine p_iconst cn_0 ?_
  refine p_istore_n (Nat.le_of_ble_eq_true rfl) rfl ?_
  refine p_iconst cn_0 ?_
  refine p_istore_n (Nat.le_of_ble_eq_true rfl) rfl ?_
  exact p_fg (S_X10_count_0_23 hl FUEL h) ⟨Or.inr rfl, Or.inr rfl, Or.inr rfl, Or.inr rfl, trivial⟩
set_option maxRecDepth 100000 in
theorem S_X10_count_0_15 {l : Launch} (hl : l.stackTraces = false) {M : PM} {x1 : Int32} {r : PR} (h : F_X10_count_0_15  M x1 = some r) : PW l 7 Y_X10_count k_X10_count_15 [vR 0, vI x1, jk, jk] [vR 0] M r := by
  unfold F_X10_count_0_15 at h
  refine p_iconst cn_0 ?_
  exact p_fg (S_X10_count_0_16 hl h) ⟨Or.inr rfl, Or.inr rfl, Or.inl rfl, Or.inl rfl, trivial⟩
set_option maxRecDepth 100000 in
theorem S_X10_count_0 {l : Launch} (hl : l.stackTraces = false) {M : PM} {a1 : Int32} {r : PR} (h : F_X10_count_0 M a1 = some r) : PW l 7 Y_X10_count k_X10_count [vR 0, vI a1, jk, jk] [] M r := by
  unfold F_X10_count_0 at h
  refine p_aload_n rfl ?_
  refine p_iload_n rfl ?_
  refine p_if_lt h 8 rfl rfl (fun _ h => ?_) (fun _ h => ?_)
  · exact p_fg (S_X10_count_0_15 hl h) ⟨Or.inr rfl, Or.inr rfl, Or.inl rfl, Or.inl rfl, trivial⟩
  · refine p_iload_n rfl ?_
    refine p_bipush cb_12 ?_
    refine p_icmp_gt h 8 rfl rfl (fun _ h => ?_) (fun _ h => ?_)
    · exact p_fg (S_X10_count_0_15 hl h) ⟨Or.inr rfl, Or.inr rfl, Or.inl rfl, Or.inl rfl, trivial⟩
    · refine p_iconst cn_1 ?_
      refine p_goto 9 rfl rfl ?_
      exact p_fg (S_X10_count_0_16 hl h) ⟨Or.inr rfl, Or.inr rfl, Or.inl rfl, Or.inl rfl, trivial⟩
set_option maxRecDepth 100000 in
theorem pc_X10_count_0 {l : Launch} (hl : l.stackTraces = false) {M : PM} {a1 : Int32} {r : PR} (h : F_X10_count_0 M a1 = some r) : PC l 7 Y_X10_count [vR 0, vI a1] M r := pc_of hl (by decide +kernel) cok_X10_count (Nat.le_of_ble_eq_true rfl) rfl (S_X10_count_0 hl  h) rfl
def F_X2_turnWith_4_35 (k5 : PM → Int32 → Int32 → Int32 → Option PR) (M : PM) (x1 : Int32) (x3 : Int32) (x4 : Int32) : Option PR := lt (x4 + 1) fun y476 => k5 M x1 x3 y476
def F_X2_turnWith_4_5 : Nat → PM → Int32 → Int32 → Int32 → Option PR
  | 0, _, _, _, _ => none
  | n + 1, M, x1, x3, x4 => (if mI M 4 4 ≤ x4 then some (.inl (some (.int x3)), M) else cI (F_X10_isIn M x4 x1) fun v478 M477 => (if v478 = 0 then F_X2_turnWith_4_35 (F_X2_turnWith_4_5 n) M477 x1 x3 x4 else if ixOK x4 12 = true then cI (F_X10_commonTurn M477 x3 (mA M477 5 x4.toNatClampNeg)) fun v480 M479 => F_X2_turnWith_4_35 (F_X2_turnWith_4_5 n) M479 x1 v480 x4 else none))
def F_X2_turnWith_4 (M : PM) (a1 : Int32) (a2 : Int32) : Option PR := F_X2_turnWith_4_5 FUEL M a1 a2 0
set_option maxRecDepth 100000 in
theorem S_X2_turnWith_4_35 {l : Launch} (hl : l.stackTraces = false) {k5 : PM → Int32 → Int32 → Int32 → Option PR} (hk5 : ∀ {M : PM} {x1 : Int32} {x3 : Int32} {x4 : Int32} {r : PR}, k5 M x1 x3 x4 = some r → PW l 2 Y_X2_turnWith k_X2_turnWith_5 [vR 4, vI x1, jk, vI x3, vI x4] [] M r) {M : PM} {x1 : Int32} {x3 : Int32} {x4 : Int32} {r : PR} (h : F_X2_turnWith_4_35 k5 M x1 x3 x4 = some r) : PW l 2 Y_X2_turnWith k_X2_turnWith_35 [vR 4, vI x1, jk, vI x3, vI x4] [] M r := by
  unfold F_X2_turnWith_4_35 at h
  have h := lt_h h
  refine p_iinc (Nat.le_of_ble_eq_true rfl) rfl (ci_1 _) rfl ?_
  refine p_goto 4 rfl rfl ?_
  exact p_fg (hk5 h) ⟨Or.inr rfl, Or.inr rfl, Or.inl rfl, Or.inr rfl, Or.inr rfl, trivial⟩
set_option maxRecDepth 100000 in
theorem S_X2_turnWith_4_5 {l : Launch} (hl : l.stackTraces = false) : ∀ (n : Nat) {M : PM} {x1 : Int32} {x3 : Int32} {x4 : Int32} {r : PR}, F_X2_turnWith_4_5  n M x1 x3 x4 = some r → PW l 2 Y_X2_turnWith k_X2_turnWith_5 [vR 4, vI x1, jk, vI x3, vI x4] [] M r := by
  intro n
  induction n with
  | zero => intro M x1 x3 x4 r h; exact nomatch (show (none : Option PR) = some r from h)
  | succ n ih =>
    intro M x1 x3 x4 r h
    rw [F_X2_turnWith_4_5] at h
    refine p_iload rfl ?_
    refine p_aload_n rfl ?_
    refine p_getI fk_X2_31 gt_4 rfl ?_
    refine p_icmp_ge h 21 rfl rfl (fun _ h => ?_) (fun _ h => ?_)
    · refine p_iload_n rfl ?_
      exact p_iret rfl h
    · refine p_iload rfl ?_
      refine p_iload_n rfl ?_
      refine p_cI (av := [_, _]) ⟨mok_X10_isIn, Or.inr ⟨61, rfl, rfl, sta_X10_isIn, Or.inr lk_X2_61⟩⟩ (Nat.le_of_ble_eq_true rfl) (Nat.le_of_ble_eq_true rfl) rfl (fun _ h => pc_X10_isIn hl h) h (fun v478 M477 h => ?_)
      refine p_if_eq h 19 rfl rfl (fun _ h => ?_) (fun _ h => ?_)
      · exact p_fg (S_X2_turnWith_4_35 hl (fun h => ih h) h) ⟨Or.inr rfl, Or.inr rfl, Or.inl rfl, Or.inr rfl, Or.inr rfl, trivial⟩
      · refine p_iload_n rfl ?_
        refine p_aload_n rfl ?_
        refine p_getR fk_X2_15 gt_4 rfl rfl ?_
        refine p_iload rfl ?_
        refine p_iald gt_5 h (fun h => ?_)
        refine p_cI (av := [_, _]) ⟨mok_X10_commonTurn, Or.inr ⟨68, rfl, rfl, sta_X10_commonTurn, Or.inr lk_X2_68⟩⟩ (Nat.le_of_ble_eq_true rfl) (Nat.le_of_ble_eq_true rfl) rfl (fun _ h => pc_X10_commonTurn hl h) h (fun v480 M479 h => ?_)
        refine p_istore_n (Nat.le_of_ble_eq_true rfl) rfl ?_
        exact p_fg (S_X2_turnWith_4_35 hl (fun h => ih h) h) ⟨Or.inr rfl, Or.inr rfl, Or.inl rfl, Or.inr rfl, Or.inr rfl, trivial⟩
set_option maxRecDepth 100000 in
theorem S_X2_turnWith_4 {l : Launch} (hl : l.stackTraces = false) {M : PM} {a1 : Int32} {a2 : Int32} {r : PR} (h : F_X2_turnWith_4 M a1 a2 = some r) : PW l 2 Y_X2_turnWith k_X2_turnWith [vR 4, vI a1, vI a2, jk, jk] [] M r := by
  unfold F_X2_turnWith_4 at h
  refine p_iload_n rfl ?_
  refine p_istore_n (Nat.le_of_ble_eq_true rfl) rfl ?_
  refine p_iconst cn_0 ?_
  refine p_istore (Nat.le_of_ble_eq_true rfl) rfl ?_
  exact p_fg (S_X2_turnWith_4_5 hl FUEL h) ⟨Or.inr rfl, Or.inr rfl, Or.inl rfl, Or.inr rfl, Or.inr rfl, trivial⟩
set_option maxRecDepth 100000 in
theorem pc_X2_turnWith_4 {l : Launch} (hl : l.stackTraces = false) {M : PM} {a1 : Int32} {a2 : Int32} {r : PR} (h : F_X2_turnWith_4 M a1 a2 = some r) : PC l 2 Y_X2_turnWith [vR 4, vI a1, vI a2] M r := pc_of hl (by decide +kernel) cok_X2_turnWith (Nat.le_of_ble_eq_true rfl) rfl (S_X2_turnWith_4 hl  h) rfl
def F_X2_turnWith_9_35 (k5 : PM → Int32 → Int32 → Int32 → Option PR) (M : PM) (x1 : Int32) (x3 : Int32) (x4 : Int32) : Option PR := lt (x4 + 1) fun y481 => k5 M x1 x3 y481
def F_X2_turnWith_9_5 : Nat → PM → Int32 → Int32 → Int32 → Option PR
  | 0, _, _, _, _ => none
  | n + 1, M, x1, x3, x4 => (if mI M 9 4 ≤ x4 then some (.inl (some (.int x3)), M) else cI (F_X10_isIn M x4 x1) fun v483 M482 => (if v483 = 0 then F_X2_turnWith_9_35 (F_X2_turnWith_9_5 n) M482 x1 x3 x4 else if ixOK x4 6 = true then cI (F_X10_commonTurn M482 x3 (mA M482 10 x4.toNatClampNeg)) fun v485 M484 => F_X2_turnWith_9_35 (F_X2_turnWith_9_5 n) M484 x1 v485 x4 else none))
def F_X2_turnWith_9 (M : PM) (a1 : Int32) (a2 : Int32) : Option PR := F_X2_turnWith_9_5 FUEL M a1 a2 0
set_option maxRecDepth 100000 in
theorem S_X2_turnWith_9_35 {l : Launch} (hl : l.stackTraces = false) {k5 : PM → Int32 → Int32 → Int32 → Option PR} (hk5 : ∀ {M : PM} {x1 : Int32} {x3 : Int32} {x4 : Int32} {r : PR}, k5 M x1 x3 x4 = some r → PW l 2 Y_X2_turnWith k_X2_turnWith_5 [vR 9, vI x1, jk, vI x3, vI x4] [] M r) {M : PM} {x1 : Int32} {x3 : Int32} {x4 : Int32} {r : PR} (h : F_X2_turnWith_9_35 k5 M x1 x3 x4 = some r) : PW l 2 Y_X2_turnWith k_X2_turnWith_35 [vR 9, vI x1, jk, vI x3, vI x4] [] M r := by
  unfold F_X2_turnWith_9_35 at h
  have h := lt_h h
  refine p_iinc (Nat.le_of_ble_eq_true rfl) rfl (ci_1 _) rfl ?_
  refine p_goto 4 rfl rfl ?_
  exact p_fg (hk5 h) ⟨Or.inr rfl, Or.inr rfl, Or.inl rfl, Or.inr rfl, Or.inr rfl, trivial⟩
set_option maxRecDepth 100000 in
theorem S_X2_turnWith_9_5 {l : Launch} (hl : l.stackTraces = false) : ∀ (n : Nat) {M : PM} {x1 : Int32} {x3 : Int32} {x4 : Int32} {r : PR}, F_X2_turnWith_9_5  n M x1 x3 x4 = some r → PW l 2 Y_X2_turnWith k_X2_turnWith_5 [vR 9, vI x1, jk, vI x3, vI x4] [] M r := by
  intro n
  induction n with
  | zero => intro M x1 x3 x4 r h; exact nomatch (show (none : Option PR) = some r from h)
  | succ n ih =>
    intro M x1 x3 x4 r h
    rw [F_X2_turnWith_9_5] at h
    refine p_iload rfl ?_
    refine p_aload_n rfl ?_
    refine p_getI fk_X2_31 gt_9 rfl ?_
    refine p_icmp_ge h 21 rfl rfl (fun _ h => ?_) (fun _ h => ?_)
    · refine p_iload_n rfl ?_
      exact p_iret rfl h
    · refine p_iload rfl ?_
      refine p_iload_n rfl ?_
      refine p_cI (av := [_, _]) ⟨mok_X10_isIn, Or.inr ⟨61, rfl, rfl, sta_X10_isIn, Or.inr lk_X2_61⟩⟩ (Nat.le_of_ble_eq_true rfl) (Nat.le_of_ble_eq_true rfl) rfl (fun _ h => pc_X10_isIn hl h) h (fun v483 M482 h => ?_)
      refine p_if_eq h 19 rfl rfl (fun _ h => ?_) (fun _ h => ?_)
      · exact p_fg (S_X2_turnWith_9_35 hl (fun h => ih h) h) ⟨Or.inr rfl, Or.inr rfl, Or.inl rfl, Or.inr rfl, Or.inr rfl, trivial⟩
      · refine p_iload_n rfl ?_
        refine p_aload_n rfl ?_
        refine p_getR fk_X2_15 gt_9 rfl rfl ?_
        refine p_iload rfl ?_
        refine p_iald gt_10 h (fun h => ?_)
        refine p_cI (av := [_, _]) ⟨mok_X10_commonTurn, Or.inr ⟨68, rfl, rfl, sta_X10_commonTurn, Or.inr lk_X2_68⟩⟩ (Nat.le_of_ble_eq_true rfl) (Nat.le_of_ble_eq_true rfl) rfl (fun _ h => pc_X10_commonTurn hl h) h (fun v485 M484 h => ?_)
        refine p_istore_n (Nat.le_of_ble_eq_true rfl) rfl ?_
        exact p_fg (S_X2_turnWith_9_35 hl (fun h => ih h) h) ⟨Or.inr rfl, Or.inr rfl, Or.inl rfl, Or.inr rfl, Or.inr rfl, trivial⟩
set_option maxRecDepth 100000 in
theorem S_X2_turnWith_9 {l : Launch} (hl : l.stackTraces = false) {M : PM} {a1 : Int32} {a2 : Int32} {r : PR} (h : F_X2_turnWith_9 M a1 a2 = some r) : PW l 2 Y_X2_turnWith k_X2_turnWith [vR 9, vI a1, vI a2, jk, jk] [] M r := by
  unfold F_X2_turnWith_9 at h
  refine p_iload_n rfl ?_
  refine p_istore_n (Nat.le_of_ble_eq_true rfl) rfl ?_
  refine p_iconst cn_0 ?_
  refine p_istore (Nat.le_of_ble_eq_true rfl) rfl ?_
  exact p_fg (S_X2_turnWith_9_5 hl FUEL h) ⟨Or.inr rfl, Or.inr rfl, Or.inl rfl, Or.inr rfl, Or.inr rfl, trivial⟩
set_option maxRecDepth 100000 in
theorem pc_X2_turnWith_9 {l : Launch} (hl : l.stackTraces = false) {M : PM} {a1 : Int32} {a2 : Int32} {r : PR} (h : F_X2_turnWith_9 M a1 a2 = some r) : PC l 2 Y_X2_turnWith [vR 9, vI a1, vI a2] M r := pc_of hl (by decide +kernel) cok_X2_turnWith (Nat.le_of_ble_eq_true rfl) rfl (S_X2_turnWith_9 hl  h) rfl
def F_X1_bar_27 (M : PM) (a1 : Int32) (a2 : Int32) : Option PR := cI (F_X2_turnWith_4 (sI (sI M 27 2 a1) 27 3 a2) a1 1) fun v487 M486 => cI (F_X2_turnWith_9 M486 a2 v487) fun v489 M488 => some (.inl none, sI M488 27 4 v489)
set_option maxRecDepth 100000 in
theorem S_X1_bar_27 {l : Launch} (hl : l.stackTraces = false) {M : PM} {a1 : Int32} {a2 : Int32} {r : PR} (h : F_X1_bar_27 M a1 a2 = some r) : PW l 3 Y_X1_bar k_X1_bar [vR 27, vI a1, vI a2] [] M r := by
  unfold F_X1_bar_27 at h
  refine p_aload_n rfl ?_
  refine p_iload_n rfl ?_
  refine p_putI fk_X1_23 gt_27 rfl ?_
  refine p_aload_n rfl ?_
  refine p_iload_n rfl ?_
  refine p_putI fk_X1_26 gt_27 rfl ?_
  refine p_aload_n rfl ?_
  refine p_aload_n rfl ?_
  refine p_getR fk_X1_19 gt_27 rfl rfl ?_
  refine p_getR fk_X1_29 gt_3 rfl rfl ?_
  refine p_iload_n rfl ?_
  refine p_aload_n rfl ?_
  refine p_getR fk_X1_19 gt_27 rfl rfl ?_
  refine p_getR fk_X1_35 gt_3 rfl rfl ?_
  refine p_iload_n rfl ?_
  refine p_iconst cn_1 ?_
  refine p_cI (av := [_, _, _]) ⟨mok_X2_turnWith, Or.inl ⟨38, 4, 2, 0, _, rfl, rfl, rfl, gt_4, rfl, ins_X2_turnWith, Or.inr lk_X1_38⟩⟩ (Nat.le_of_ble_eq_true rfl) (Nat.le_of_ble_eq_true rfl) rfl (fun _ h => pc_X2_turnWith_4 hl h) h (fun v487 M486 h => ?_)
  refine p_cI (av := [_, _, _]) ⟨mok_X2_turnWith, Or.inl ⟨38, 9, 2, 0, _, rfl, rfl, rfl, gt_9, rfl, ins_X2_turnWith, Or.inr lk_X1_38⟩⟩ (Nat.le_of_ble_eq_true rfl) (Nat.le_of_ble_eq_true rfl) rfl (fun _ h => pc_X2_turnWith_9 hl h) h (fun v489 M488 h => ?_)
  refine p_putI fk_X1_15 gt_27 rfl ?_
  exact p_ret rfl h
set_option maxRecDepth 100000 in
theorem pc_X1_bar_27 {l : Launch} (hl : l.stackTraces = false) {M : PM} {a1 : Int32} {a2 : Int32} {r : PR} (h : F_X1_bar_27 M a1 a2 = some r) : PC l 3 Y_X1_bar [vR 27, vI a1, vI a2] M r := pc_of hl (by decide +kernel) cok_X1_bar (Nat.le_of_ble_eq_true rfl) rfl (S_X1_bar_27 hl  h) rfl
def F_X2_someHeldFrom_4_53 (k5 : PM → Int32 → Int32 → Int64 → Int32 → Option PR) (M : PM) (x1 : Int32) (x2 : Int32) (x3 : Int64) (x5 : Int32) : Option PR := lt (x5 + 1) fun y490 => k5 M x1 x2 x3 y490
def F_X2_someHeldFrom_4_5 : Nat → PM → Int32 → Int32 → Int64 → Int32 → Option PR
  | 0, _, _, _, _, _ => none
  | n + 1, M, x1, x2, x3, x5 => (if mI M 4 4 ≤ x5 then some (.inl (some (.long x3)), M) else cI (F_X10_isIn M x5 x1) fun v492 M491 => (if v492 = 0 then F_X2_someHeldFrom_4_53 (F_X2_someHeldFrom_4_5 n) M491 x1 x2 x3 x5 else if ixOK x5 12 = true then if ixOK x5 12 = true then if ixOK x5 12 = true then cI (F_X10_left M491 ((mA M491 6 x5.toNatClampNeg) - x2) (mA M491 5 x5.toNatClampNeg)) fun v494 M493 => lt (x3 ||| ((mB M491 7 x5.toNatClampNeg) <<< (v494.toInt64 &&& 63))) fun y495 => F_X2_someHeldFrom_4_53 (F_X2_someHeldFrom_4_5 n) M493 x1 x2 y495 x5 else none else none else none))
def F_X2_someHeldFrom_4 (M : PM) (a1 : Int32) (a2 : Int32) : Option PR := lt ((0 : Int64)) fun y496 => F_X2_someHeldFrom_4_5 FUEL M a1 a2 y496 0
set_option maxRecDepth 100000 in
theorem S_X2_someHeldFrom_4_53 {l : Launch} (hl : l.stackTraces = false) {k5 : PM → Int32 → Int32 → Int64 → Int32 → Option PR} (hk5 : ∀ {M : PM} {x1 : Int32} {x2 : Int32} {x3 : Int64} {x5 : Int32} {r : PR}, k5 M x1 x2 x3 x5 = some r → PW l 1 Y_X2_someHeldFrom k_X2_someHeldFrom_5 [vR 4, vI x1, vI x2, vJ x3, jk, vI x5] [] M r) {M : PM} {x1 : Int32} {x2 : Int32} {x3 : Int64} {x5 : Int32} {r : PR} (h : F_X2_someHeldFrom_4_53 k5 M x1 x2 x3 x5 = some r) : PW l 1 Y_X2_someHeldFrom k_X2_someHeldFrom_53 [vR 4, vI x1, vI x2, vJ x3, jk, vI x5] [] M r := by
  unfold F_X2_someHeldFrom_4_53 at h
  have h := lt_h h
  refine p_iinc (Nat.le_of_ble_eq_true rfl) rfl (ci_1 _) rfl ?_
  refine p_goto 4 rfl rfl ?_
  exact p_fg (hk5 h) ⟨Or.inr rfl, Or.inr rfl, Or.inr rfl, Or.inr rfl, Or.inl rfl, Or.inr rfl, trivial⟩
set_option maxRecDepth 100000 in
theorem S_X2_someHeldFrom_4_5 {l : Launch} (hl : l.stackTraces = false) : ∀ (n : Nat) {M : PM} {x1 : Int32} {x2 : Int32} {x3 : Int64} {x5 : Int32} {r : PR}, F_X2_someHeldFrom_4_5  n M x1 x2 x3 x5 = some r → PW l 1 Y_X2_someHeldFrom k_X2_someHeldFrom_5 [vR 4, vI x1, vI x2, vJ x3, jk, vI x5] [] M r := by
  intro n
  induction n with
  | zero => intro M x1 x2 x3 x5 r h; exact nomatch (show (none : Option PR) = some r from h)
  | succ n ih =>
    intro M x1 x2 x3 x5 r h
    rw [F_X2_someHeldFrom_4_5] at h
    refine p_iload rfl ?_
    refine p_aload_n rfl ?_
    refine p_getI fk_X2_31 gt_4 rfl ?_
    refine p_icmp_ge h 33 rfl rfl (fun _ h => ?_) (fun _ h => ?_)
    · refine p_lload_n rfl ?_
      exact p_lret rfl h
    · refine p_iload rfl ?_
      refine p_iload_n rfl ?_
      refine p_cI (av := [_, _]) ⟨mok_X10_isIn, Or.inr ⟨61, rfl, rfl, sta_X10_isIn, Or.inr lk_X2_61⟩⟩ (Nat.le_of_ble_eq_true rfl) (Nat.le_of_ble_eq_true rfl) rfl (fun _ h => pc_X10_isIn hl h) h (fun v492 M491 h => ?_)
      refine p_if_eq h 31 rfl rfl (fun _ h => ?_) (fun _ h => ?_)
      · exact p_fg (S_X2_someHeldFrom_4_53 hl (fun h => ih h) h) ⟨Or.inr rfl, Or.inr rfl, Or.inr rfl, Or.inr rfl, Or.inl rfl, Or.inr rfl, trivial⟩
      · refine p_lload_n rfl ?_
        refine p_aload_n rfl ?_
        refine p_getR fk_X2_24 gt_4 rfl rfl ?_
        refine p_iload rfl ?_
        refine p_lald gt_7 h (fun h => ?_)
        refine p_aload_n rfl ?_
        refine p_getR fk_X2_21 gt_4 rfl rfl ?_
        refine p_iload rfl ?_
        refine p_iald gt_6 h (fun h => ?_)
        refine p_iload_n rfl ?_
        refine p_isub ?_
        refine p_aload_n rfl ?_
        refine p_getR fk_X2_15 gt_4 rfl rfl ?_
        refine p_iload rfl ?_
        refine p_iald gt_5 h (fun h => ?_)
        refine p_cI (av := [_, _]) ⟨mok_X10_left, Or.inr ⟨54, rfl, rfl, sta_X10_left, Or.inr lk_X2_54⟩⟩ (Nat.le_of_ble_eq_true rfl) (Nat.le_of_ble_eq_true rfl) rfl (fun _ h => pc_X10_left hl h) h (fun v494 M493 h => ?_)
        refine p_lshl ?_
        refine p_lor ?_
        have h := lt_h h
        refine p_lstore_n (Nat.le_of_ble_eq_true rfl) rfl ?_
        exact p_fg (S_X2_someHeldFrom_4_53 hl (fun h => ih h) h) ⟨Or.inr rfl, Or.inr rfl, Or.inr rfl, Or.inr rfl, Or.inl rfl, Or.inr rfl, trivial⟩
set_option maxRecDepth 100000 in
theorem S_X2_someHeldFrom_4 {l : Launch} (hl : l.stackTraces = false) {M : PM} {a1 : Int32} {a2 : Int32} {r : PR} (h : F_X2_someHeldFrom_4 M a1 a2 = some r) : PW l 1 Y_X2_someHeldFrom k_X2_someHeldFrom [vR 4, vI a1, vI a2, jk, jk, jk] [] M r := by
  unfold F_X2_someHeldFrom_4 at h
  refine p_lconst cl_0 ?_
  have h := lt_h h
  refine p_lstore_n (Nat.le_of_ble_eq_true rfl) rfl ?_
  refine p_iconst cn_0 ?_
  refine p_istore (Nat.le_of_ble_eq_true rfl) rfl ?_
  exact p_fg (S_X2_someHeldFrom_4_5 hl FUEL h) ⟨Or.inr rfl, Or.inr rfl, Or.inr rfl, Or.inr rfl, Or.inl rfl, Or.inr rfl, trivial⟩
set_option maxRecDepth 100000 in
theorem pc_X2_someHeldFrom_4 {l : Launch} (hl : l.stackTraces = false) {M : PM} {a1 : Int32} {a2 : Int32} {r : PR} (h : F_X2_someHeldFrom_4 M a1 a2 = some r) : PC l 1 Y_X2_someHeldFrom [vR 4, vI a1, vI a2] M r := pc_of hl (by decide +kernel) cok_X2_someHeldFrom (Nat.le_of_ble_eq_true rfl) rfl (S_X2_someHeldFrom_4 hl  h) rfl
def F_X2_someHeldFrom_9_53 (k5 : PM → Int32 → Int32 → Int64 → Int32 → Option PR) (M : PM) (x1 : Int32) (x2 : Int32) (x3 : Int64) (x5 : Int32) : Option PR := lt (x5 + 1) fun y497 => k5 M x1 x2 x3 y497
def F_X2_someHeldFrom_9_5 : Nat → PM → Int32 → Int32 → Int64 → Int32 → Option PR
  | 0, _, _, _, _, _ => none
  | n + 1, M, x1, x2, x3, x5 => (if mI M 9 4 ≤ x5 then some (.inl (some (.long x3)), M) else cI (F_X10_isIn M x5 x1) fun v499 M498 => (if v499 = 0 then F_X2_someHeldFrom_9_53 (F_X2_someHeldFrom_9_5 n) M498 x1 x2 x3 x5 else if ixOK x5 6 = true then if ixOK x5 6 = true then if ixOK x5 6 = true then cI (F_X10_left M498 ((mA M498 11 x5.toNatClampNeg) - x2) (mA M498 10 x5.toNatClampNeg)) fun v501 M500 => lt (x3 ||| ((mB M498 12 x5.toNatClampNeg) <<< (v501.toInt64 &&& 63))) fun y502 => F_X2_someHeldFrom_9_53 (F_X2_someHeldFrom_9_5 n) M500 x1 x2 y502 x5 else none else none else none))
def F_X2_someHeldFrom_9 (M : PM) (a1 : Int32) (a2 : Int32) : Option PR := lt ((0 : Int64)) fun y503 => F_X2_someHeldFrom_9_5 FUEL M a1 a2 y503 0
set_option maxRecDepth 100000 in
theorem S_X2_someHeldFrom_9_53 {l : Launch} (hl : l.stackTraces = false) {k5 : PM → Int32 → Int32 → Int64 → Int32 → Option PR} (hk5 : ∀ {M : PM} {x1 : Int32} {x2 : Int32} {x3 : Int64} {x5 : Int32} {r : PR}, k5 M x1 x2 x3 x5 = some r → PW l 1 Y_X2_someHeldFrom k_X2_someHeldFrom_5 [vR 9, vI x1, vI x2, vJ x3, jk, vI x5] [] M r) {M : PM} {x1 : Int32} {x2 : Int32} {x3 : Int64} {x5 : Int32} {r : PR} (h : F_X2_someHeldFrom_9_53 k5 M x1 x2 x3 x5 = some r) : PW l 1 Y_X2_someHeldFrom k_X2_someHeldFrom_53 [vR 9, vI x1, vI x2, vJ x3, jk, vI x5] [] M r := by
  unfold F_X2_someHeldFrom_9_53 at h
  have h := lt_h h
  refine p_iinc (Nat.le_of_ble_eq_true rfl) rfl (ci_1 _) rfl ?_
  refine p_goto 4 rfl rfl ?_
  exact p_fg (hk5 h) ⟨Or.inr rfl, Or.inr rfl, Or.inr rfl, Or.inr rfl, Or.inl rfl, Or.inr rfl, trivial⟩
set_option maxRecDepth 100000 in
theorem S_X2_someHeldFrom_9_5 {l : Launch} (hl : l.stackTraces = false) : ∀ (n : Nat) {M : PM} {x1 : Int32} {x2 : Int32} {x3 : Int64} {x5 : Int32} {r : PR}, F_X2_someHeldFrom_9_5  n M x1 x2 x3 x5 = some r → PW l 1 Y_X2_someHeldFrom k_X2_someHeldFrom_5 [vR 9, vI x1, vI x2, vJ x3, jk, vI x5] [] M r := by
  intro n
  induction n with
  | zero => intro M x1 x2 x3 x5 r h; exact nomatch (show (none : Option PR) = some r from h)
  | succ n ih =>
    intro M x1 x2 x3 x5 r h
    rw [F_X2_someHeldFrom_9_5] at h
    refine p_iload rfl ?_
    refine p_aload_n rfl ?_
    refine p_getI fk_X2_31 gt_9 rfl ?_
    refine p_icmp_ge h 33 rfl rfl (fun _ h => ?_) (fun _ h => ?_)
    · refine p_lload_n rfl ?_
      exact p_lret rfl h
    · refine p_iload rfl ?_
      refine p_iload_n rfl ?_
      refine p_cI (av := [_, _]) ⟨mok_X10_isIn, Or.inr ⟨61, rfl, rfl, sta_X10_isIn, Or.inr lk_X2_61⟩⟩ (Nat.le_of_ble_eq_true rfl) (Nat.le_of_ble_eq_true rfl) rfl (fun _ h => pc_X10_isIn hl h) h (fun v499 M498 h => ?_)
      refine p_if_eq h 31 rfl rfl (fun _ h => ?_) (fun _ h => ?_)
      · exact p_fg (S_X2_someHeldFrom_9_53 hl (fun h => ih h) h) ⟨Or.inr rfl, Or.inr rfl, Or.inr rfl, Or.inr rfl, Or.inl rfl, Or.inr rfl, trivial⟩
      · refine p_lload_n rfl ?_
        refine p_aload_n rfl ?_
        refine p_getR fk_X2_24 gt_9 rfl rfl ?_
        refine p_iload rfl ?_
        refine p_lald gt_12 h (fun h => ?_)
        refine p_aload_n rfl ?_
        refine p_getR fk_X2_21 gt_9 rfl rfl ?_
        refine p_iload rfl ?_
        refine p_iald gt_11 h (fun h => ?_)
        refine p_iload_n rfl ?_
        refine p_isub ?_
        refine p_aload_n rfl ?_
        refine p_getR fk_X2_15 gt_9 rfl rfl ?_
        refine p_iload rfl ?_
        refine p_iald gt_10 h (fun h => ?_)
        refine p_cI (av := [_, _]) ⟨mok_X10_left, Or.inr ⟨54, rfl, rfl, sta_X10_left, Or.inr lk_X2_54⟩⟩ (Nat.le_of_ble_eq_true rfl) (Nat.le_of_ble_eq_true rfl) rfl (fun _ h => pc_X10_left hl h) h (fun v501 M500 h => ?_)
        refine p_lshl ?_
        refine p_lor ?_
        have h := lt_h h
        refine p_lstore_n (Nat.le_of_ble_eq_true rfl) rfl ?_
        exact p_fg (S_X2_someHeldFrom_9_53 hl (fun h => ih h) h) ⟨Or.inr rfl, Or.inr rfl, Or.inr rfl, Or.inr rfl, Or.inl rfl, Or.inr rfl, trivial⟩
set_option maxRecDepth 100000 in
theorem S_X2_someHeldFrom_9 {l : Launch} (hl : l.stackTraces = false) {M : PM} {a1 : Int32} {a2 : Int32} {r : PR} (h : F_X2_someHeldFrom_9 M a1 a2 = some r) : PW l 1 Y_X2_someHeldFrom k_X2_someHeldFrom [vR 9, vI a1, vI a2, jk, jk, jk] [] M r := by
  unfold F_X2_someHeldFrom_9 at h
  refine p_lconst cl_0 ?_
  have h := lt_h h
  refine p_lstore_n (Nat.le_of_ble_eq_true rfl) rfl ?_
  refine p_iconst cn_0 ?_
  refine p_istore (Nat.le_of_ble_eq_true rfl) rfl ?_
  exact p_fg (S_X2_someHeldFrom_9_5 hl FUEL h) ⟨Or.inr rfl, Or.inr rfl, Or.inr rfl, Or.inr rfl, Or.inl rfl, Or.inr rfl, trivial⟩
set_option maxRecDepth 100000 in
theorem pc_X2_someHeldFrom_9 {l : Launch} (hl : l.stackTraces = false) {M : PM} {a1 : Int32} {a2 : Int32} {r : PR} (h : F_X2_someHeldFrom_9 M a1 a2 = some r) : PC l 1 Y_X2_someHeldFrom [vR 9, vI a1, vI a2] M r := pc_of hl (by decide +kernel) cok_X2_someHeldFrom (Nat.le_of_ble_eq_true rfl) rfl (S_X2_someHeldFrom_9 hl  h) rfl
def F_X1_daysFrom_27 (M : PM) (a1 : Int32) : Option PR := cJ (F_X2_someHeldFrom_4 M (mI M 27 2) a1) fun v505 M504 => cJ (F_X2_someHeldFrom_9 M504 (mI M504 27 3) a1) fun v507 M506 => some (.inl (some (.long ((v505 ||| v507) ^^^ (-1 : Int64)))), M506)
set_option maxRecDepth 100000 in
theorem S_X1_daysFrom_27 {l : Launch} (hl : l.stackTraces = false) {M : PM} {a1 : Int32} {r : PR} (h : F_X1_daysFrom_27 M a1 = some r) : PW l 2 Y_X1_daysFrom k_X1_daysFrom [vR 27, vI a1] [] M r := by
  unfold F_X1_daysFrom_27 at h
  refine p_aload_n rfl ?_
  refine p_getR fk_X1_19 gt_27 rfl rfl ?_
  refine p_getR fk_X1_35 gt_3 rfl rfl ?_
  refine p_aload_n rfl ?_
  refine p_getI fk_X1_23 gt_27 rfl ?_
  refine p_iload_n rfl ?_
  refine p_cJ (av := [_, _, _]) ⟨mok_X2_someHeldFrom, Or.inl ⟨44, 4, 2, 0, _, rfl, rfl, rfl, gt_4, rfl, ins_X2_someHeldFrom, Or.inr lk_X1_44⟩⟩ (Nat.le_of_ble_eq_true rfl) (Nat.le_of_ble_eq_true rfl) rfl (fun _ h => pc_X2_someHeldFrom_4 hl h) h (fun v505 M504 h => ?_)
  refine p_aload_n rfl ?_
  refine p_getR fk_X1_19 gt_27 rfl rfl ?_
  refine p_getR fk_X1_29 gt_3 rfl rfl ?_
  refine p_aload_n rfl ?_
  refine p_getI fk_X1_26 gt_27 rfl ?_
  refine p_iload_n rfl ?_
  refine p_cJ (av := [_, _, _]) ⟨mok_X2_someHeldFrom, Or.inl ⟨44, 9, 2, 0, _, rfl, rfl, rfl, gt_9, rfl, ins_X2_someHeldFrom, Or.inr lk_X1_44⟩⟩ (Nat.le_of_ble_eq_true rfl) (Nat.le_of_ble_eq_true rfl) rfl (fun _ h => pc_X2_someHeldFrom_9 hl h) h (fun v507 M506 h => ?_)
  refine p_lor ?_
  refine p_ldc2_w co_X1_48 ?_
  refine p_lxor ?_
  exact p_lret rfl h
set_option maxRecDepth 100000 in
theorem pc_X1_daysFrom_27 {l : Launch} (hl : l.stackTraces = false) {M : PM} {a1 : Int32} {r : PR} (h : F_X1_daysFrom_27 M a1 = some r) : PC l 2 Y_X1_daysFrom [vR 27, vI a1] M r := pc_of hl (by decide +kernel) cok_X1_daysFrom (Nat.le_of_ble_eq_true rfl) rfl (S_X1_daysFrom_27 hl  h) rfl
def F_X1_firstRow_27_177 (k33 : PM → Int32 → Int32 → Int32 → Int32 → Option PR) (M : PM) (x2 : Int32) (x3 : Int32) (x4 : Int32) (x5 : Int32) (x6 : Int32) : Option PR := cI (F_J9_max_7cf53 M x5 1) fun v509 M508 => lt (x6 + v509) fun y510 => k33 M508 x2 x3 x4 y510
def F_X1_firstRow_27_168 (k33 : PM → Int32 → Int32 → Int32 → Int32 → Option PR) (k81 : PM → Int32 → Int32 → Int32 → Int32 → Int32 → Int64 → Int32 → Int32 → Int32 → Option PR) (M : PM) (x2 : Int32) (x3 : Int32) (x4 : Int32) (x5 : Int32) (x6 : Int32) (x7 : Int64) (x10 : Int32) (x11 : Int32) : Option PR := lt (x11 + 1) fun y511 => k81 M x2 x3 x4 x5 x6 x7 0 x10 y511
def F_X1_firstRow_27_81 (k33 : PM → Int32 → Int32 → Int32 → Int32 → Option PR) : Nat → PM → Int32 → Int32 → Int32 → Int32 → Int32 → Int64 → Int32 → Int32 → Int32 → Option PR
  | 0, _, _, _, _, _, _, _, _, _, _ => none
  | n + 1, M, x2, x3, x4, x5, x6, x7, x9, x10, x11 => (if 64 ≤ x11 then F_X1_firstRow_27_177 k33 M x2 x3 x4 x5 x6 else (if x5 ≤ x10 then F_X1_firstRow_27_177 k33 M x2 x3 x4 x5 x6 else cI (F_X10_lowest M (((x7.toUInt64 >>> (x10.toInt64.toUInt64 &&& Int64.toUInt64 63)).toInt64) ^^^ (-1 : Int64))) fun v513 M512 => (if x9 + v513 < x2 then lt (x9 + v513) fun y514 => lt (x10 + v513) fun y515 => (if x5 ≤ y515 then F_X1_firstRow_27_168 k33 (F_X1_firstRow_27_81 k33 n) M512 x2 x3 y514 x5 x6 x7 y515 x11 else cI (F_X10_lowest M512 ((x7.toUInt64 >>> (y515.toInt64.toUInt64 &&& Int64.toUInt64 63)).toInt64)) fun v517 M516 => cI (F_J9_max_7cf53 M516 v517 1) fun v519 M518 => lt (y515 + v519) fun y520 => F_X1_firstRow_27_168 k33 (F_X1_firstRow_27_81 k33 n) M518 x2 x3 0 x5 x6 x7 y520 x11) else some (.inl (some (.int ((x6 + x10) - x9))), M512))))
def F_X1_firstRow_27_33 : Nat → PM → Int32 → Int32 → Int32 → Int32 → Option PR
  | 0, _, _, _, _, _ => none
  | n + 1, M, x2, x3, x4, x6 => (if x3 < x6 then some (.inl (some (.int (-1))), M) else cI (F_X0_stretchFrom_3 M x6) fun v522 M521 => cI (F_X0_turnsOn_3 M521 x6) fun v524 M523 => cJ (F_X1_daysFrom_27 M523 v524) fun v526 M525 => cJ (F_X10_low M525 v522) fun v528 M527 => lt (v526 &&& v528) fun y529 => F_X1_firstRow_27_81 (F_X1_firstRow_27_33 n) FUEL M527 x2 x3 x4 v522 x6 y529 x4 0 0)
def F_X1_firstRow_27 (M : PM) (a1 : Int32) (a2 : Int32) : Option PR := cI (F_X0_settledDay_3 M) fun v531 M530 => cI (F_J9_max_7cf53 M530 a1 v531) fun v533 M532 => cI (F_J9_min_7cf53 M532 ((v533 + (mI M532 27 4)) + a2) 999999999) fun v535 M534 => F_X1_firstRow_27_33 FUEL M534 a2 v535 0 a1
set_option maxRecDepth 100000 in
theorem S_X1_firstRow_27_177 {l : Launch} (hl : l.stackTraces = false) {k33 : PM → Int32 → Int32 → Int32 → Int32 → Option PR} (hk33 : ∀ {M : PM} {x2 : Int32} {x3 : Int32} {x4 : Int32} {x6 : Int32} {r : PR}, k33 M x2 x3 x4 x6 = some r → PW l 3 Y_X1_firstRow k_X1_firstRow_33 [vR 27, jk, vI x2, vI x3, vI x4, jk, vI x6, jk, jk, jk, jk, jk, jk] [] M r) {M : PM} {x2 : Int32} {x3 : Int32} {x4 : Int32} {x5 : Int32} {x6 : Int32} {r : PR} (h : F_X1_firstRow_27_177 k33 M x2 x3 x4 x5 x6 = some r) : PW l 3 Y_X1_firstRow k_X1_firstRow_177 [vR 27, jk, vI x2, vI x3, vI x4, vI x5, vI x6, jk, jk, jk, jk, jk, jk] [] M r := by
  unfold F_X1_firstRow_27_177 at h
  refine p_iload rfl ?_
  refine p_iload rfl ?_
  refine p_iconst cn_1 ?_
  refine p_cI (av := [_, _]) ⟨mok_J9_max_7cf53, Or.inr ⟨79, rfl, rfl, sta_J9_max_7cf53, Or.inl lk_X1_79⟩⟩ (Nat.le_of_ble_eq_true rfl) (Nat.le_of_ble_eq_true rfl) rfl (fun _ h => pc_J9_max_7cf53 hl h) h (fun v509 M508 h => ?_)
  refine p_iadd ?_
  have h := lt_h h
  refine p_istore (Nat.le_of_ble_eq_true rfl) rfl ?_
  refine p_goto 19 rfl rfl ?_
  exact p_fg (hk33 h) ⟨Or.inr rfl, Or.inl rfl, Or.inr rfl, Or.inr rfl, Or.inr rfl, Or.inl rfl, Or.inr rfl, Or.inl rfl, Or.inl rfl, Or.inl rfl, Or.inl rfl, Or.inl rfl, Or.inl rfl, trivial⟩
set_option maxRecDepth 100000 in
theorem S_X1_firstRow_27_168 {l : Launch} (hl : l.stackTraces = false) {k33 : PM → Int32 → Int32 → Int32 → Int32 → Option PR} {k81 : PM → Int32 → Int32 → Int32 → Int32 → Int32 → Int64 → Int32 → Int32 → Int32 → Option PR} (hk33 : ∀ {M : PM} {x2 : Int32} {x3 : Int32} {x4 : Int32} {x6 : Int32} {r : PR}, k33 M x2 x3 x4 x6 = some r → PW l 3 Y_X1_firstRow k_X1_firstRow_33 [vR 27, jk, vI x2, vI x3, vI x4, jk, vI x6, jk, jk, jk, jk, jk, jk] [] M r) (hk81 : ∀ {M : PM} {x2 : Int32} {x3 : Int32} {x4 : Int32} {x5 : Int32} {x6 : Int32} {x7 : Int64} {x9 : Int32} {x10 : Int32} {x11 : Int32} {r : PR}, k81 M x2 x3 x4 x5 x6 x7 x9 x10 x11 = some r → PW l 3 Y_X1_firstRow k_X1_firstRow_81 [vR 27, jk, vI x2, vI x3, vI x4, vI x5, vI x6, vJ x7, jk, vI x9, vI x10, vI x11, jk] [] M r) {M : PM} {x2 : Int32} {x3 : Int32} {x4 : Int32} {x5 : Int32} {x6 : Int32} {x7 : Int64} {x10 : Int32} {x11 : Int32} {r : PR} (h : F_X1_firstRow_27_168 k33 k81 M x2 x3 x4 x5 x6 x7 x10 x11 = some r) : PW l 3 Y_X1_firstRow k_X1_firstRow_168 [vR 27, jk, vI x2, vI x3, vI x4, vI x5, vI x6, vJ x7, jk, jk, vI x10, vI x11, jk] [] M r := by
  unfold F_X1_firstRow_27_168 at h
  refine p_iconst cn_0 ?_
  refine p_istore (Nat.le_of_ble_eq_true rfl) rfl ?_
  have h := lt_h h
  refine p_iinc (Nat.le_of_ble_eq_true rfl) rfl (ci_1 _) rfl ?_
  refine p_goto 43 rfl rfl ?_
  exact p_fg (hk81 h) ⟨Or.inr rfl, Or.inl rfl, Or.inr rfl, Or.inr rfl, Or.inr rfl, Or.inr rfl, Or.inr rfl, Or.inr rfl, Or.inl rfl, Or.inr rfl, Or.inr rfl, Or.inr rfl, Or.inl rfl, trivial⟩
set_option maxRecDepth 100000 in
theorem S_X1_firstRow_27_81 {l : Launch} (hl : l.stackTraces = false) {k33 : PM → Int32 → Int32 → Int32 → Int32 → Option PR} (hk33 : ∀ {M : PM} {x2 : Int32} {x3 : Int32} {x4 : Int32} {x6 : Int32} {r : PR}, k33 M x2 x3 x4 x6 = some r → PW l 3 Y_X1_firstRow k_X1_firstRow_33 [vR 27, jk, vI x2, vI x3, vI x4, jk, vI x6, jk, jk, jk, jk, jk, jk] [] M r) : ∀ (n : Nat) {M : PM} {x2 : Int32} {x3 : Int32} {x4 : Int32} {x5 : Int32} {x6 : Int32} {x7 : Int64} {x9 : Int32} {x10 : Int32} {x11 : Int32} {r : PR}, F_X1_firstRow_27_81 k33 n M x2 x3 x4 x5 x6 x7 x9 x10 x11 = some r → PW l 3 Y_X1_firstRow k_X1_firstRow_81 [vR 27, jk, vI x2, vI x3, vI x4, vI x5, vI x6, vJ x7, jk, vI x9, vI x10, vI x11, jk] [] M r := by
  intro n
  induction n with
  | zero => intro M x2 x3 x4 x5 x6 x7 x9 x10 x11 r h; exact nomatch (show (none : Option PR) = some r from h)
  | succ n ih =>
    intro M x2 x3 x4 x5 x6 x7 x9 x10 x11 r h
    rw [F_X1_firstRow_27_81] at h
    refine p_iload rfl ?_
    refine p_bipush cb_64 ?_
    refine p_icmp_ge h 93 rfl rfl (fun _ h => ?_) (fun _ h => ?_)
    · exact p_fg (S_X1_firstRow_27_177 hl hk33 h) ⟨Or.inr rfl, Or.inl rfl, Or.inr rfl, Or.inr rfl, Or.inr rfl, Or.inr rfl, Or.inr rfl, Or.inl rfl, Or.inl rfl, Or.inl rfl, Or.inl rfl, Or.inl rfl, Or.inl rfl, trivial⟩
    · refine p_iload rfl ?_
      refine p_iload rfl ?_
      refine p_icmp_ge h 93 rfl rfl (fun _ h => ?_) (fun _ h => ?_)
      · exact p_fg (S_X1_firstRow_27_177 hl hk33 h) ⟨Or.inr rfl, Or.inl rfl, Or.inr rfl, Or.inr rfl, Or.inr rfl, Or.inr rfl, Or.inr rfl, Or.inl rfl, Or.inl rfl, Or.inl rfl, Or.inl rfl, Or.inl rfl, Or.inl rfl, trivial⟩
      · refine p_lload rfl ?_
        refine p_iload rfl ?_
        refine p_lushr ?_
        refine p_ldc2_w co_X1_48 ?_
        refine p_lxor ?_
        refine p_cI (av := [_]) ⟨mok_X10_lowest, Or.inr ⟨94, rfl, rfl, sta_X10_lowest, Or.inr lk_X1_94⟩⟩ (Nat.le_of_ble_eq_true rfl) (Nat.le_of_ble_eq_true rfl) rfl (fun _ h => pc_X10_lowest hl h) h (fun v513 M512 h => ?_)
        refine p_istore (Nat.le_of_ble_eq_true rfl) rfl ?_
        refine p_iload rfl ?_
        refine p_iload rfl ?_
        refine p_iadd ?_
        refine p_iload_n rfl ?_
        refine p_icmp_lt h 67 rfl rfl (fun _ h => ?_) (fun _ h => ?_)
        · refine p_iload rfl ?_
          refine p_iload rfl ?_
          refine p_iadd ?_
          have h := lt_h h
          refine p_istore (Nat.le_of_ble_eq_true rfl) rfl ?_
          refine p_iload rfl ?_
          refine p_iload rfl ?_
          refine p_iadd ?_
          have h := lt_h h
          refine p_istore (Nat.le_of_ble_eq_true rfl) rfl ?_
          refine p_iload rfl ?_
          refine p_iload rfl ?_
          refine p_icmp_ge h 89 rfl rfl (fun _ h => ?_) (fun _ h => ?_)
          · exact p_fg (S_X1_firstRow_27_168 hl hk33 (fun h => ih h) h) ⟨Or.inr rfl, Or.inl rfl, Or.inr rfl, Or.inr rfl, Or.inr rfl, Or.inr rfl, Or.inr rfl, Or.inr rfl, Or.inl rfl, Or.inl rfl, Or.inr rfl, Or.inr rfl, Or.inl rfl, trivial⟩
          · refine p_iload rfl ?_
            refine p_lload rfl ?_
            refine p_iload rfl ?_
            refine p_lushr ?_
            refine p_cI (av := [_]) ⟨mok_X10_lowest, Or.inr ⟨94, rfl, rfl, sta_X10_lowest, Or.inr lk_X1_94⟩⟩ (Nat.le_of_ble_eq_true rfl) (Nat.le_of_ble_eq_true rfl) rfl (fun _ h => pc_X10_lowest hl h) h (fun v517 M516 h => ?_)
            refine p_iconst cn_1 ?_
            refine p_cI (av := [_, _]) ⟨mok_J9_max_7cf53, Or.inr ⟨79, rfl, rfl, sta_J9_max_7cf53, Or.inl lk_X1_79⟩⟩ (Nat.le_of_ble_eq_true rfl) (Nat.le_of_ble_eq_true rfl) rfl (fun _ h => pc_J9_max_7cf53 hl h) h (fun v519 M518 h => ?_)
            refine p_iadd ?_
            have h := lt_h h
            refine p_istore (Nat.le_of_ble_eq_true rfl) rfl ?_
            refine p_iconst cn_0 ?_
            refine p_istore (Nat.le_of_ble_eq_true rfl) rfl ?_
            exact p_fg (S_X1_firstRow_27_168 hl hk33 (fun h => ih h) h) ⟨Or.inr rfl, Or.inl rfl, Or.inr rfl, Or.inr rfl, Or.inr rfl, Or.inr rfl, Or.inr rfl, Or.inr rfl, Or.inl rfl, Or.inl rfl, Or.inr rfl, Or.inr rfl, Or.inl rfl, trivial⟩
        · refine p_iload rfl ?_
          refine p_iload rfl ?_
          refine p_iadd ?_
          refine p_iload rfl ?_
          refine p_isub ?_
          exact p_iret rfl h
set_option maxRecDepth 100000 in
theorem S_X1_firstRow_27_33 {l : Launch} (hl : l.stackTraces = false) : ∀ (n : Nat) {M : PM} {x2 : Int32} {x3 : Int32} {x4 : Int32} {x6 : Int32} {r : PR}, F_X1_firstRow_27_33  n M x2 x3 x4 x6 = some r → PW l 3 Y_X1_firstRow k_X1_firstRow_33 [vR 27, jk, vI x2, vI x3, vI x4, jk, vI x6, jk, jk, jk, jk, jk, jk] [] M r := by
  intro n
  induction n with
  | zero => intro M x2 x3 x4 x6 r h; exact nomatch (show (none : Option PR) = some r from h)
  | succ n ih =>
    intro M x2 x3 x4 x6 r h
    rw [F_X1_firstRow_27_33] at h
    refine p_iload rfl ?_
    refine p_iload_n rfl ?_
    refine p_icmp_gt h 100 rfl rfl (fun _ h => ?_) (fun _ h => ?_)
    · refine p_iconst cn_m1 ?_
      exact p_iret rfl h
    · refine p_aload_n rfl ?_
      refine p_getR fk_X1_19 gt_27 rfl rfl ?_
      refine p_iload rfl ?_
      refine p_cI (av := [_, _]) ⟨mok_X0_stretchFrom, Or.inl ⟨55, 3, 0, 0, _, rfl, rfl, rfl, gt_3, rfl, ins_X0_stretchFrom, Or.inr lk_X1_55⟩⟩ (Nat.le_of_ble_eq_true rfl) (Nat.le_of_ble_eq_true rfl) rfl (fun _ h => pc_X0_stretchFrom_3 hl h) h (fun v522 M521 h => ?_)
      refine p_istore (Nat.le_of_ble_eq_true rfl) rfl ?_
      refine p_aload_n rfl ?_
      refine p_aload_n rfl ?_
      refine p_getR fk_X1_19 gt_27 rfl rfl ?_
      refine p_iload rfl ?_
      refine p_cI (av := [_, _]) ⟨mok_X0_turnsOn, Or.inl ⟨59, 3, 0, 0, _, rfl, rfl, rfl, gt_3, rfl, ins_X0_turnsOn, Or.inr lk_X1_59⟩⟩ (Nat.le_of_ble_eq_true rfl) (Nat.le_of_ble_eq_true rfl) rfl (fun _ h => pc_X0_turnsOn_3 hl h) h (fun v524 M523 h => ?_)
      refine p_cJ (av := [_, _]) ⟨mok_X1_daysFrom, Or.inl ⟨62, 27, 1, 0, _, rfl, rfl, rfl, gt_27, rfl, ins_X1_daysFrom, Or.inl lk_X1_62⟩⟩ (Nat.le_of_ble_eq_true rfl) (Nat.le_of_ble_eq_true rfl) rfl (fun _ h => pc_X1_daysFrom_27 hl h) h (fun v526 M525 h => ?_)
      refine p_iload rfl ?_
      refine p_cJ (av := [_]) ⟨mok_X10_low, Or.inr ⟨66, rfl, rfl, sta_X10_low, Or.inr lk_X1_66⟩⟩ (Nat.le_of_ble_eq_true rfl) (Nat.le_of_ble_eq_true rfl) rfl (fun _ h => pc_X10_low hl h) h (fun v528 M527 h => ?_)
      refine p_land ?_
      have h := lt_h h
      refine p_lstore (Nat.le_of_ble_eq_true rfl) rfl ?_
      refine p_iload rfl ?_
      refine p_istore (Nat.le_of_ble_eq_true rfl) rfl ?_
      refine p_iconst cn_0 ?_
      refine p_istore (Nat.le_of_ble_eq_true rfl) rfl ?_
      refine p_iconst cn_0 ?_
      refine p_istore (Nat.le_of_ble_eq_true rfl) rfl ?_
      exact p_fg (S_X1_firstRow_27_81 hl (fun h => ih h) FUEL h) ⟨Or.inr rfl, Or.inl rfl, Or.inr rfl, Or.inr rfl, Or.inr rfl, Or.inr rfl, Or.inr rfl, Or.inr rfl, Or.inl rfl, Or.inr rfl, Or.inr rfl, Or.inr rfl, Or.inl rfl, trivial⟩
set_option maxRecDepth 100000 in
theorem S_X1_firstRow_27 {l : Launch} (hl : l.stackTraces = false) {M : PM} {a1 : Int32} {a2 : Int32} {r : PR} (h : F_X1_firstRow_27 M a1 a2 = some r) : PW l 3 Y_X1_firstRow k_X1_firstRow [vR 27, vI a1, vI a2, jk, jk, jk, jk, jk, jk, jk, jk, jk, jk] [] M r := by
  unfold F_X1_firstRow_27 at h
  refine p_iload_n rfl ?_
  refine p_aload_n rfl ?_
  refine p_getR fk_X1_19 gt_27 rfl rfl ?_
  refine p_cI (av := [_]) ⟨mok_X0_settledDay, Or.inl ⟨100, 3, 0, 0, _, rfl, rfl, rfl, gt_3, rfl, ins_X0_settledDay, Or.inr lk_X1_100⟩⟩ (Nat.le_of_ble_eq_true rfl) (Nat.le_of_ble_eq_true rfl) rfl (fun _ h => pc_X0_settledDay_3 hl h) h (fun v531 M530 h => ?_)
  refine p_cI (av := [_, _]) ⟨mok_J9_max_7cf53, Or.inr ⟨79, rfl, rfl, sta_J9_max_7cf53, Or.inl lk_X1_79⟩⟩ (Nat.le_of_ble_eq_true rfl) (Nat.le_of_ble_eq_true rfl) rfl (fun _ h => pc_J9_max_7cf53 hl h) h (fun v533 M532 h => ?_)
  refine p_aload_n rfl ?_
  refine p_getI fk_X1_15 gt_27 rfl ?_
  refine p_iadd ?_
  refine p_iload_n rfl ?_
  refine p_iadd ?_
  refine p_ldc co_X1_54 ?_
  refine p_cI (av := [_, _]) ⟨mok_J9_min_7cf53, Or.inr ⟨103, rfl, rfl, sta_J9_min_7cf53, Or.inl lk_X1_103⟩⟩ (Nat.le_of_ble_eq_true rfl) (Nat.le_of_ble_eq_true rfl) rfl (fun _ h => pc_J9_min_7cf53 hl h) h (fun v535 M534 h => ?_)
  refine p_istore_n (Nat.le_of_ble_eq_true rfl) rfl ?_
  refine p_iconst cn_0 ?_
  refine p_istore (Nat.le_of_ble_eq_true rfl) rfl ?_
  refine p_iconst cn_1 ?_
  refine p_istore (Nat.le_of_ble_eq_true rfl) rfl ?_
  refine p_iload_n rfl ?_
  refine p_istore (Nat.le_of_ble_eq_true rfl) rfl ?_
  exact p_fg (S_X1_firstRow_27_33 hl FUEL h) ⟨Or.inr rfl, Or.inl rfl, Or.inr rfl, Or.inr rfl, Or.inr rfl, Or.inl rfl, Or.inr rfl, Or.inl rfl, Or.inl rfl, Or.inl rfl, Or.inl rfl, Or.inl rfl, Or.inl rfl, trivial⟩
set_option maxRecDepth 100000 in
theorem pc_X1_firstRow_27 {l : Launch} (hl : l.stackTraces = false) {M : PM} {a1 : Int32} {a2 : Int32} {r : PR} (h : F_X1_firstRow_27 M a1 a2 = some r) : PC l 3 Y_X1_firstRow [vR 27, vI a1, vI a2] M r := pc_of hl (by decide +kernel) cok_X1_firstRow (Nat.le_of_ble_eq_true rfl) rfl (S_X1_firstRow_27 hl  h) rfl
def F_X10_row_0_22 (M : PM) (x1 : Int32) (x2 : Int32) (t1 : Int32) : Option PR := bV (F_X10_need_0 M t1) fun M536 => cI (F_X10_all M536 (mI M536 4 4)) fun v538 M537 => cV (F_X1_bar_27 M537 v538 0) fun M539 => cI (F_X1_firstRow_27 M539 x1 x2) fun v541 M540 => some (.inl (some (.int v541)), M540)
def F_X10_row_0_21 (M : PM) (x1 : Int32) (x2 : Int32) : Option PR := F_X10_row_0_22 M x1 x2 0
def F_X10_row_0 (M : PM) (a1 : Int32) (a2 : Int32) : Option PR := bV (F_X10_needDay_0 M a1) fun M542 => (if a2 < 1 then F_X10_row_0_21 M542 a1 a2 else (if 99 < a2 then F_X10_row_0_21 M542 a1 a2 else F_X10_row_0_22 M542 a1 a2 1))
set_option maxRecDepth 100000 in
theorem S_X10_row_0_22 {l : Launch} (hl : l.stackTraces = false) {M : PM} {x1 : Int32} {x2 : Int32} {t1 : Int32} {r : PR} (h : F_X10_row_0_22  M x1 x2 t1 = some r) : PW l 7 Y_X10_row k_X10_row_22 [vR 0, vI x1, vI x2] [vI t1, vR 0] M r := by
  unfold F_X10_row_0_22 at h
  refine p_bV mok_X10_need rfl gt_0 rfl ins_X10_need lk_X10_101 (Nat.le_of_ble_eq_true rfl) (Nat.le_of_ble_eq_true rfl) rfl (fun _ h => pc_X10_need_0 hl h) h (fun M536 h => ?_)
  refine p_aload_n rfl ?_
  refine p_getR fk_X10_63 gt_0 rfl rfl ?_
  refine p_aload_n rfl ?_
  refine p_getR fk_X10_27 gt_0 rfl rfl ?_
  refine p_getR fk_X10_128 gt_3 rfl rfl ?_
  refine p_getI fk_X10_132 gt_4 rfl ?_
  refine p_cI (av := [_]) ⟨mok_X10_all, Or.inr ⟨237, rfl, rfl, sta_X10_all, Or.inl lk_X10_237⟩⟩ (Nat.le_of_ble_eq_true rfl) (Nat.le_of_ble_eq_true rfl) rfl (fun _ h => pc_X10_all hl h) h (fun v538 M537 h => ?_)
  refine p_iconst cn_0 ?_
  refine p_cV (av := [_, _, _]) ⟨mok_X1_bar, Or.inl ⟨240, 27, 1, 0, _, rfl, rfl, rfl, gt_27, rfl, ins_X1_bar, Or.inr lk_X10_240⟩⟩ (Nat.le_of_ble_eq_true rfl) (Nat.le_of_ble_eq_true rfl) rfl (fun _ h => pc_X1_bar_27 hl h) h (fun M539 h => ?_)
  refine p_aload_n rfl ?_
  refine p_getR fk_X10_63 gt_0 rfl rfl ?_
  refine p_iload_n rfl ?_
  refine p_iload_n rfl ?_
  refine p_cI (av := [_, _, _]) ⟨mok_X1_firstRow, Or.inl ⟨244, 27, 1, 0, _, rfl, rfl, rfl, gt_27, rfl, ins_X1_firstRow, Or.inr lk_X10_244⟩⟩ (Nat.le_of_ble_eq_true rfl) (Nat.le_of_ble_eq_true rfl) rfl (fun _ h => pc_X1_firstRow_27 hl h) h (fun v541 M540 h => ?_)
  exact p_iret rfl h
set_option maxRecDepth 100000 in
theorem S_X10_row_0_21 {l : Launch} (hl : l.stackTraces = false) {M : PM} {x1 : Int32} {x2 : Int32} {r : PR} (h : F_X10_row_0_21  M x1 x2 = some r) : PW l 7 Y_X10_row k_X10_row_21 [vR 0, vI x1, vI x2] [vR 0] M r := by
  unfold F_X10_row_0_21 at h
  refine p_iconst cn_0 ?_
  exact p_fg (S_X10_row_0_22 hl h) ⟨Or.inr rfl, Or.inr rfl, Or.inr rfl, trivial⟩
set_option maxRecDepth 100000 in
theorem S_X10_row_0 {l : Launch} (hl : l.stackTraces = false) {M : PM} {a1 : Int32} {a2 : Int32} {r : PR} (h : F_X10_row_0 M a1 a2 = some r) : PW l 7 Y_X10_row k_X10_row [vR 0, vI a1, vI a2] [] M r := by
  unfold F_X10_row_0 at h
  refine p_aload_n rfl ?_
  refine p_iload_n rfl ?_
  refine p_bV mok_X10_needDay rfl gt_0 rfl ins_X10_needDay lk_X10_182 (Nat.le_of_ble_eq_true rfl) (Nat.le_of_ble_eq_true rfl) rfl (fun _ h => pc_X10_needDay_0 hl h) h (fun M542 h => ?_)
  refine p_aload_n rfl ?_
  refine p_iload_n rfl ?_
  refine p_iconst cn_1 ?_
  refine p_icmp_lt h 12 rfl rfl (fun _ h => ?_) (fun _ h => ?_)
  · exact p_fg (S_X10_row_0_21 hl h) ⟨Or.inr rfl, Or.inr rfl, Or.inr rfl, trivial⟩
  · refine p_iload_n rfl ?_
    refine p_bipush cb_99 ?_
    refine p_icmp_gt h 12 rfl rfl (fun _ h => ?_) (fun _ h => ?_)
    · exact p_fg (S_X10_row_0_21 hl h) ⟨Or.inr rfl, Or.inr rfl, Or.inr rfl, trivial⟩
    · refine p_iconst cn_1 ?_
      refine p_goto 13 rfl rfl ?_
      exact p_fg (S_X10_row_0_22 hl h) ⟨Or.inr rfl, Or.inr rfl, Or.inr rfl, trivial⟩
set_option maxRecDepth 100000 in
theorem pc_X10_row_0 {l : Launch} (hl : l.stackTraces = false) {M : PM} {a1 : Int32} {a2 : Int32} {r : PR} (h : F_X10_row_0 M a1 a2 = some r) : PC l 7 Y_X10_row [vR 0, vI a1, vI a2] M r := pc_of hl (by decide +kernel) cok_X10_row (Nat.le_of_ble_eq_true rfl) rfl (S_X10_row_0 hl  h) rfl
def F_X2_noneMeets_4 (M : PM) (a1 : Int32) (a2 : Int32) (a3 : Int32) : Option PR := cI (F_X2_lawsThatMeet_4 M a2 a3) fun v544 M543 => (if a1 &&& v544 = 0 then (if (1 : Int32) &&& 1 = 1 then some (.inl (some (.int 1)), M543) else none) else (if (0 : Int32) &&& 1 = 0 then some (.inl (some (.int 0)), M543) else none))
set_option maxRecDepth 100000 in
theorem S_X2_noneMeets_4 {l : Launch} (hl : l.stackTraces = false) {M : PM} {a1 : Int32} {a2 : Int32} {a3 : Int32} {r : PR} (h : F_X2_noneMeets_4 M a1 a2 a3 = some r) : PW l 2 Y_X2_noneMeets k_X2_noneMeets [vR 4, vI a1, vI a2, vI a3] [] M r := by
  unfold F_X2_noneMeets_4 at h
  refine p_iload_n rfl ?_
  refine p_aload_n rfl ?_
  refine p_iload_n rfl ?_
  refine p_iload_n rfl ?_
  refine p_cI (av := [_, _, _]) ⟨mok_X2_lawsThatMeet, Or.inl ⟨47, 4, 2, 0, _, rfl, rfl, rfl, gt_4, rfl, ins_X2_lawsThatMeet, Or.inl lk_X2_47⟩⟩ (Nat.le_of_ble_eq_true rfl) (Nat.le_of_ble_eq_true rfl) rfl (fun _ h => pc_X2_lawsThatMeet_4 hl h) h (fun v544 M543 h => ?_)
  refine p_iand ?_
  refine p_if_ne h 9 rfl rfl (fun _ h => ?_) (fun _ h => ?_)
  · refine p_iconst cn_1 ?_
    refine p_goto 10 rfl rfl ?_
    exact p_zret rfl h
  · refine p_iconst cn_0 ?_
    exact p_zret rfl h
set_option maxRecDepth 100000 in
theorem pc_X2_noneMeets_4 {l : Launch} (hl : l.stackTraces = false) {M : PM} {a1 : Int32} {a2 : Int32} {a3 : Int32} {r : PR} (h : F_X2_noneMeets_4 M a1 a2 a3 = some r) : PC l 2 Y_X2_noneMeets [vR 4, vI a1, vI a2, vI a3] M r := pc_of hl (by decide +kernel) cok_X2_noneMeets (Nat.le_of_ble_eq_true rfl) rfl (S_X2_noneMeets_4 hl  h) rfl
def F_X10_isWeek (M : PM) (a0 : Int64) : Option PR := (if lg_cmp a0 (2 : Int64) < 0 then (if (0 : Int32) &&& 1 = 0 then some (.inl (some (.int 0)), M) else none) else (if 0 < lg_cmp a0 (24 : Int64) then (if (0 : Int32) &&& 1 = 0 then some (.inl (some (.int 0)), M) else none) else (if (1 : Int32) &&& 1 = 1 then some (.inl (some (.int 1)), M) else none)))
set_option maxRecDepth 100000 in
theorem S_X10_isWeek {l : Launch} (hl : l.stackTraces = false) {M : PM} {a0 : Int64} {r : PR} (h : F_X10_isWeek M a0 = some r) : PW l 0 Y_X10_isWeek k_X10_isWeek [vJ a0, jk] [] M r := by
  unfold F_X10_isWeek at h
  refine p_lload_n rfl ?_
  refine p_ldc2_w co_X10_408 ?_
  refine p_lcmp ?_
  refine p_if_lt h 10 rfl rfl (fun _ h => ?_) (fun _ h => ?_)
  · refine p_iconst cn_0 ?_
    exact p_zret rfl h
  · refine p_lload_n rfl ?_
    refine p_ldc2_w co_X10_410 ?_
    refine p_lcmp ?_
    refine p_if_gt h 10 rfl rfl (fun _ h => ?_) (fun _ h => ?_)
    · refine p_iconst cn_0 ?_
      exact p_zret rfl h
    · refine p_iconst cn_1 ?_
      refine p_goto 11 rfl rfl ?_
      exact p_zret rfl h
set_option maxRecDepth 100000 in
theorem pc_X10_isWeek {l : Launch} (hl : l.stackTraces = false) {M : PM} {a0 : Int64} {r : PR} (h : F_X10_isWeek M a0 = some r) : PC l 0 Y_X10_isWeek [vJ a0] M r := pc_of hl (by decide +kernel) cok_X10_isWeek (Nat.le_of_ble_eq_true rfl) rfl (S_X10_isWeek hl  h) rfl
def F_X10_free_0_115 (k40 : PM → Int32 → Int32 → Int32 → Int32 → Int32 → Int32 → Option PR) (M : PM) (x1 : Int32) (x2 : Int32) (x3 : Int32) (x4 : Int32) (x5 : Int32) (x6 : Int32) : Option PR := lt (x6 + 1) fun y545 => k40 M x1 x2 x3 x4 x5 y545
def F_X10_free_0_109 (k40 : PM → Int32 → Int32 → Int32 → Int32 → Int32 → Int32 → Option PR) (k50 : PM → Int32 → Int32 → Int32 → Int32 → Int32 → Int32 → Int32 → Option PR) (M : PM) (x1 : Int32) (x2 : Int32) (x3 : Int32) (x4 : Int32) (x5 : Int32) (x6 : Int32) (x7 : Int32) : Option PR := lt (x7 + 1) fun y546 => k50 M x1 x2 x3 x4 x5 x6 y546
def F_X10_free_0_107 (k40 : PM → Int32 → Int32 → Int32 → Int32 → Int32 → Int32 → Option PR) (k50 : PM → Int32 → Int32 → Int32 → Int32 → Int32 → Int32 → Int32 → Option PR) (M : PM) (x1 : Int32) (x2 : Int32) (x3 : Int32) (x4 : Int32) (x6 : Int32) (x7 : Int32) (t0 : Int32) : Option PR := F_X10_free_0_109 k40 k50 M x1 x2 x3 x4 t0 x6 x7
def F_X10_free_0_67 (k40 : PM → Int32 → Int32 → Int32 → Int32 → Int32 → Int32 → Option PR) (k50 : PM → Int32 → Int32 → Int32 → Int32 → Int32 → Int32 → Int32 → Option PR) (M : PM) (x1 : Int32) (x2 : Int32) (x3 : Int32) (x4 : Int32) (x5 : Int32) (x6 : Int32) (x7 : Int32) : Option PR := cI (F_X2_noneMeets_4 M x1 x6 x7) fun v548 M547 => (if v548 = 0 then F_X10_free_0_109 k40 k50 M547 x1 x2 x3 x4 x5 x6 x7 else lt (x4 + 1) fun y549 => (if x5 = (-1) then F_X10_free_0_107 k40 k50 M547 x1 x2 x3 y549 x6 x7 ((100 * x6) + x7) else F_X10_free_0_107 k40 k50 M547 x1 x2 x3 y549 x6 x7 x5))
def F_X10_free_0_50 (k40 : PM → Int32 → Int32 → Int32 → Int32 → Int32 → Int32 → Option PR) : Nat → PM → Int32 → Int32 → Int32 → Int32 → Int32 → Int32 → Int32 → Option PR
  | 0, _, _, _, _, _, _, _, _ => none
  | n + 1, M, x1, x2, x3, x4, x5, x6, x7 => (if x6 ≤ x7 then F_X10_free_0_115 k40 M x1 x2 x3 x4 x5 x6 else (if x2 = 0 then F_X10_free_0_67 k40 (F_X10_free_0_50 k40 n) M x1 x2 x3 x4 x5 x6 x7 else (if x2 = x6 then F_X10_free_0_67 k40 (F_X10_free_0_50 k40 n) M x1 x2 x3 x4 x5 x6 x7 else F_X10_free_0_115 k40 M x1 x2 x3 x4 x5 x6)))
def F_X10_free_0_40 : Nat → PM → Int32 → Int32 → Int32 → Int32 → Int32 → Int32 → Option PR
  | 0, _, _, _, _, _, _, _ => none
  | n + 1, M, x1, x2, x3, x4, x5, x6 => (if 24 < x6 then (if x3 = 0 then some (.inl (some (.int x4)), M) else some (.inl (some (.int x5)), M)) else F_X10_free_0_50 (F_X10_free_0_40 n) FUEL M x1 x2 x3 x4 x5 x6 0)
def F_X10_free_0_23 (M : PM) (x1 : Int32) (x2 : Int32) (x3 : Int32) (t1 : Int32) : Option PR := bV (F_X10_need_0 M t1) fun M550 => bV (F_X10_needEither_0 M550 x3) fun M551 => F_X10_free_0_40 FUEL M551 x1 x2 x3 0 (-1) 2
def F_X10_free_0_18 (M : PM) (x1 : Int32) (x2 : Int32) (x3 : Int32) : Option PR := F_X10_free_0_23 M x1 x2 x3 1
def F_X10_free_0 (M : PM) (a1 : Int32) (a2 : Int32) (a3 : Int32) : Option PR := bV (F_X10_needLaws_0 M a1) fun M552 => (if a2 = 0 then F_X10_free_0_18 M552 a1 a2 a3 else cI (F_X10_isWeek M552 a2.toInt64) fun v554 M553 => (if v554 = 0 then F_X10_free_0_23 M553 a1 a2 a3 0 else F_X10_free_0_18 M553 a1 a2 a3))
set_option maxRecDepth 100000 in
theorem S_X10_free_0_115 {l : Launch} (hl : l.stackTraces = false) {k40 : PM → Int32 → Int32 → Int32 → Int32 → Int32 → Int32 → Option PR} (hk40 : ∀ {M : PM} {x1 : Int32} {x2 : Int32} {x3 : Int32} {x4 : Int32} {x5 : Int32} {x6 : Int32} {r : PR}, k40 M x1 x2 x3 x4 x5 x6 = some r → PW l 8 Y_X10_free k_X10_free_40 [vR 0, vI x1, vI x2, vI x3, vI x4, vI x5, vI x6, jk] [] M r) {M : PM} {x1 : Int32} {x2 : Int32} {x3 : Int32} {x4 : Int32} {x5 : Int32} {x6 : Int32} {r : PR} (h : F_X10_free_0_115 k40 M x1 x2 x3 x4 x5 x6 = some r) : PW l 8 Y_X10_free k_X10_free_115 [vR 0, vI x1, vI x2, vI x3, vI x4, vI x5, vI x6, jk] [] M r := by
  unfold F_X10_free_0_115 at h
  have h := lt_h h
  refine p_iinc (Nat.le_of_ble_eq_true rfl) rfl (ci_1 _) rfl ?_
  refine p_goto 23 rfl rfl ?_
  exact p_fg (hk40 h) ⟨Or.inr rfl, Or.inr rfl, Or.inr rfl, Or.inr rfl, Or.inr rfl, Or.inr rfl, Or.inr rfl, Or.inl rfl, trivial⟩
set_option maxRecDepth 100000 in
theorem S_X10_free_0_109 {l : Launch} (hl : l.stackTraces = false) {k40 : PM → Int32 → Int32 → Int32 → Int32 → Int32 → Int32 → Option PR} {k50 : PM → Int32 → Int32 → Int32 → Int32 → Int32 → Int32 → Int32 → Option PR} (hk40 : ∀ {M : PM} {x1 : Int32} {x2 : Int32} {x3 : Int32} {x4 : Int32} {x5 : Int32} {x6 : Int32} {r : PR}, k40 M x1 x2 x3 x4 x5 x6 = some r → PW l 8 Y_X10_free k_X10_free_40 [vR 0, vI x1, vI x2, vI x3, vI x4, vI x5, vI x6, jk] [] M r) (hk50 : ∀ {M : PM} {x1 : Int32} {x2 : Int32} {x3 : Int32} {x4 : Int32} {x5 : Int32} {x6 : Int32} {x7 : Int32} {r : PR}, k50 M x1 x2 x3 x4 x5 x6 x7 = some r → PW l 8 Y_X10_free k_X10_free_50 [vR 0, vI x1, vI x2, vI x3, vI x4, vI x5, vI x6, vI x7] [] M r) {M : PM} {x1 : Int32} {x2 : Int32} {x3 : Int32} {x4 : Int32} {x5 : Int32} {x6 : Int32} {x7 : Int32} {r : PR} (h : F_X10_free_0_109 k40 k50 M x1 x2 x3 x4 x5 x6 x7 = some r) : PW l 8 Y_X10_free k_X10_free_109 [vR 0, vI x1, vI x2, vI x3, vI x4, vI x5, vI x6, vI x7] [] M r := by
  unfold F_X10_free_0_109 at h
  have h := lt_h h
  refine p_iinc (Nat.le_of_ble_eq_true rfl) rfl (ci_1 _) rfl ?_
  refine p_goto 28 rfl rfl ?_
  exact p_fg (hk50 h) ⟨Or.inr rfl, Or.inr rfl, Or.inr rfl, Or.inr rfl, Or.inr rfl, Or.inr rfl, Or.inr rfl, Or.inr rfl, trivial⟩
set_option maxRecDepth 100000 in
theorem S_X10_free_0_107 {l : Launch} (hl : l.stackTraces = false) {k40 : PM → Int32 → Int32 → Int32 → Int32 → Int32 → Int32 → Option PR} {k50 : PM → Int32 → Int32 → Int32 → Int32 → Int32 → Int32 → Int32 → Option PR} (hk40 : ∀ {M : PM} {x1 : Int32} {x2 : Int32} {x3 : Int32} {x4 : Int32} {x5 : Int32} {x6 : Int32} {r : PR}, k40 M x1 x2 x3 x4 x5 x6 = some r → PW l 8 Y_X10_free k_X10_free_40 [vR 0, vI x1, vI x2, vI x3, vI x4, vI x5, vI x6, jk] [] M r) (hk50 : ∀ {M : PM} {x1 : Int32} {x2 : Int32} {x3 : Int32} {x4 : Int32} {x5 : Int32} {x6 : Int32} {x7 : Int32} {r : PR}, k50 M x1 x2 x3 x4 x5 x6 x7 = some r → PW l 8 Y_X10_free k_X10_free_50 [vR 0, vI x1, vI x2, vI x3, vI x4, vI x5, vI x6, vI x7] [] M r) {M : PM} {x1 : Int32} {x2 : Int32} {x3 : Int32} {x4 : Int32} {x6 : Int32} {x7 : Int32} {t0 : Int32} {r : PR} (h : F_X10_free_0_107 k40 k50 M x1 x2 x3 x4 x6 x7 t0 = some r) : PW l 8 Y_X10_free k_X10_free_107 [vR 0, vI x1, vI x2, vI x3, vI x4, jk, vI x6, vI x7] [vI t0] M r := by
  unfold F_X10_free_0_107 at h
  refine p_istore (Nat.le_of_ble_eq_true rfl) rfl ?_
  exact p_fg (S_X10_free_0_109 hl hk40 hk50 h) ⟨Or.inr rfl, Or.inr rfl, Or.inr rfl, Or.inr rfl, Or.inr rfl, Or.inr rfl, Or.inr rfl, Or.inr rfl, trivial⟩
set_option maxRecDepth 100000 in
theorem S_X10_free_0_67 {l : Launch} (hl : l.stackTraces = false) {k40 : PM → Int32 → Int32 → Int32 → Int32 → Int32 → Int32 → Option PR} {k50 : PM → Int32 → Int32 → Int32 → Int32 → Int32 → Int32 → Int32 → Option PR} (hk40 : ∀ {M : PM} {x1 : Int32} {x2 : Int32} {x3 : Int32} {x4 : Int32} {x5 : Int32} {x6 : Int32} {r : PR}, k40 M x1 x2 x3 x4 x5 x6 = some r → PW l 8 Y_X10_free k_X10_free_40 [vR 0, vI x1, vI x2, vI x3, vI x4, vI x5, vI x6, jk] [] M r) (hk50 : ∀ {M : PM} {x1 : Int32} {x2 : Int32} {x3 : Int32} {x4 : Int32} {x5 : Int32} {x6 : Int32} {x7 : Int32} {r : PR}, k50 M x1 x2 x3 x4 x5 x6 x7 = some r → PW l 8 Y_X10_free k_X10_free_50 [vR 0, vI x1, vI x2, vI x3, vI x4, vI x5, vI x6, vI x7] [] M r) {M : PM} {x1 : Int32} {x2 : Int32} {x3 : Int32} {x4 : Int32} {x5 : Int32} {x6 : Int32} {x7 : Int32} {r : PR} (h : F_X10_free_0_67 k40 k50 M x1 x2 x3 x4 x5 x6 x7 = some r) : PW l 8 Y_X10_free k_X10_free_67 [vR 0, vI x1, vI x2, vI x3, vI x4, vI x5, vI x6, vI x7] [] M r := by
  unfold F_X10_free_0_67 at h
  refine p_aload_n rfl ?_
  refine p_getR fk_X10_27 gt_0 rfl rfl ?_
  refine p_getR fk_X10_128 gt_3 rfl rfl ?_
  refine p_iload_n rfl ?_
  refine p_iload rfl ?_
  refine p_iload rfl ?_
  refine p_cI (av := [_, _, _, _]) ⟨mok_X2_noneMeets, Or.inl ⟨251, 4, 2, 0, _, rfl, rfl, rfl, gt_4, rfl, ins_X2_noneMeets, Or.inr lk_X10_251⟩⟩ (Nat.le_of_ble_eq_true rfl) (Nat.le_of_ble_eq_true rfl) rfl (fun _ h => pc_X2_noneMeets_4 hl h) h (fun v548 M547 h => ?_)
  refine p_if_eq h 56 rfl rfl (fun _ h => ?_) (fun _ h => ?_)
  · exact p_fg (S_X10_free_0_109 hl hk40 hk50 h) ⟨Or.inr rfl, Or.inr rfl, Or.inr rfl, Or.inr rfl, Or.inr rfl, Or.inr rfl, Or.inr rfl, Or.inr rfl, trivial⟩
  · have h := lt_h h
    refine p_iinc (Nat.le_of_ble_eq_true rfl) rfl (ci_1 _) rfl ?_
    refine p_iload rfl ?_
    refine p_iconst cn_m1 ?_
    refine p_icmp_ne h 54 rfl rfl (fun _ h => ?_) (fun _ h => ?_)
    · refine p_bipush cb_100 ?_
      refine p_iload rfl ?_
      refine p_imul ?_
      refine p_iload rfl ?_
      refine p_iadd ?_
      refine p_goto 55 rfl rfl ?_
      exact p_fg (S_X10_free_0_107 hl hk40 hk50 h) ⟨Or.inr rfl, Or.inr rfl, Or.inr rfl, Or.inr rfl, Or.inr rfl, Or.inl rfl, Or.inr rfl, Or.inr rfl, trivial⟩
    · refine p_iload rfl ?_
      exact p_fg (S_X10_free_0_107 hl hk40 hk50 h) ⟨Or.inr rfl, Or.inr rfl, Or.inr rfl, Or.inr rfl, Or.inr rfl, Or.inl rfl, Or.inr rfl, Or.inr rfl, trivial⟩
set_option maxRecDepth 100000 in
theorem S_X10_free_0_50 {l : Launch} (hl : l.stackTraces = false) {k40 : PM → Int32 → Int32 → Int32 → Int32 → Int32 → Int32 → Option PR} (hk40 : ∀ {M : PM} {x1 : Int32} {x2 : Int32} {x3 : Int32} {x4 : Int32} {x5 : Int32} {x6 : Int32} {r : PR}, k40 M x1 x2 x3 x4 x5 x6 = some r → PW l 8 Y_X10_free k_X10_free_40 [vR 0, vI x1, vI x2, vI x3, vI x4, vI x5, vI x6, jk] [] M r) : ∀ (n : Nat) {M : PM} {x1 : Int32} {x2 : Int32} {x3 : Int32} {x4 : Int32} {x5 : Int32} {x6 : Int32} {x7 : Int32} {r : PR}, F_X10_free_0_50 k40 n M x1 x2 x3 x4 x5 x6 x7 = some r → PW l 8 Y_X10_free k_X10_free_50 [vR 0, vI x1, vI x2, vI x3, vI x4, vI x5, vI x6, vI x7] [] M r := by
  intro n
  induction n with
  | zero => intro M x1 x2 x3 x4 x5 x6 x7 r h; exact nomatch (show (none : Option PR) = some r from h)
  | succ n ih =>
    intro M x1 x2 x3 x4 x5 x6 x7 r h
    rw [F_X10_free_0_50] at h
    refine p_iload rfl ?_
    refine p_iload rfl ?_
    refine p_icmp_ge h 58 rfl rfl (fun _ h => ?_) (fun _ h => ?_)
    · exact p_fg (S_X10_free_0_115 hl hk40 h) ⟨Or.inr rfl, Or.inr rfl, Or.inr rfl, Or.inr rfl, Or.inr rfl, Or.inr rfl, Or.inr rfl, Or.inl rfl, trivial⟩
    · refine p_iload_n rfl ?_
      refine p_if_eq h 36 rfl rfl (fun _ h => ?_) (fun _ h => ?_)
      · exact p_fg (S_X10_free_0_67 hl hk40 (fun h => ih h) h) ⟨Or.inr rfl, Or.inr rfl, Or.inr rfl, Or.inr rfl, Or.inr rfl, Or.inr rfl, Or.inr rfl, Or.inr rfl, trivial⟩
      · refine p_iload_n rfl ?_
        refine p_iload rfl ?_
        refine p_icmp_ne h 58 rfl rfl (fun _ h => ?_) (fun _ h => ?_)
        · exact p_fg (S_X10_free_0_67 hl hk40 (fun h => ih h) h) ⟨Or.inr rfl, Or.inr rfl, Or.inr rfl, Or.inr rfl, Or.inr rfl, Or.inr rfl, Or.inr rfl, Or.inr rfl, trivial⟩
        · exact p_fg (S_X10_free_0_115 hl hk40 h) ⟨Or.inr rfl, Or.inr rfl, Or.inr rfl, Or.inr rfl, Or.inr rfl, Or.inr rfl, Or.inr rfl, Or.inl rfl, trivial⟩
set_option maxRecDepth 100000 in
theorem S_X10_free_0_40 {l : Launch} (hl : l.stackTraces = false) : ∀ (n : Nat) {M : PM} {x1 : Int32} {x2 : Int32} {x3 : Int32} {x4 : Int32} {x5 : Int32} {x6 : Int32} {r : PR}, F_X10_free_0_40  n M x1 x2 x3 x4 x5 x6 = some r → PW l 8 Y_X10_free k_X10_free_40 [vR 0, vI x1, vI x2, vI x3, vI x4, vI x5, vI x6, jk] [] M r := by
  intro n
  induction n with
  | zero => intro M x1 x2 x3 x4 x5 x6 r h; exact nomatch (show (none : Option PR) = some r from h)
  | succ n ih =>
    intro M x1 x2 x3 x4 x5 x6 r h
    rw [F_X10_free_0_40] at h
    refine p_iload rfl ?_
    refine p_bipush cb_24 ?_
    refine p_icmp_gt h 60 rfl rfl (fun _ h => ?_) (fun _ h => ?_)
    · refine p_iload_n rfl ?_
      refine p_if_ne h 64 rfl rfl (fun _ h => ?_) (fun _ h => ?_)
      · refine p_iload rfl ?_
        refine p_goto 65 rfl rfl ?_
        exact p_iret rfl h
      · refine p_iload rfl ?_
        exact p_iret rfl h
    · refine p_iconst cn_0 ?_
      refine p_istore (Nat.le_of_ble_eq_true rfl) rfl ?_
      exact p_fg (S_X10_free_0_50 hl (fun h => ih h) FUEL h) ⟨Or.inr rfl, Or.inr rfl, Or.inr rfl, Or.inr rfl, Or.inr rfl, Or.inr rfl, Or.inr rfl, Or.inr rfl, trivial⟩
set_option maxRecDepth 100000 in
theorem S_X10_free_0_23 {l : Launch} (hl : l.stackTraces = false) {M : PM} {x1 : Int32} {x2 : Int32} {x3 : Int32} {t1 : Int32} {r : PR} (h : F_X10_free_0_23  M x1 x2 x3 t1 = some r) : PW l 8 Y_X10_free k_X10_free_23 [vR 0, vI x1, vI x2, vI x3, jk, jk, jk, jk] [vI t1, vR 0] M r := by
  unfold F_X10_free_0_23 at h
  refine p_bV mok_X10_need rfl gt_0 rfl ins_X10_need lk_X10_101 (Nat.le_of_ble_eq_true rfl) (Nat.le_of_ble_eq_true rfl) rfl (fun _ h => pc_X10_need_0 hl h) h (fun M550 h => ?_)
  refine p_aload_n rfl ?_
  refine p_iload_n rfl ?_
  refine p_bV mok_X10_needEither rfl gt_0 rfl ins_X10_needEither lk_X10_158 (Nat.le_of_ble_eq_true rfl) (Nat.le_of_ble_eq_true rfl) rfl (fun _ h => pc_X10_needEither_0 hl h) h (fun M551 h => ?_)
  refine p_iconst cn_0 ?_
  refine p_istore (Nat.le_of_ble_eq_true rfl) rfl ?_
  refine p_iconst cn_m1 ?_
  refine p_istore (Nat.le_of_ble_eq_true rfl) rfl ?_
  refine p_iconst cn_2 ?_
  refine p_istore (Nat.le_of_ble_eq_true rfl) rfl ?_
  exact p_fg (S_X10_free_0_40 hl FUEL h) ⟨Or.inr rfl, Or.inr rfl, Or.inr rfl, Or.inr rfl, Or.inr rfl, Or.inr rfl, Or.inr rfl, Or.inl rfl, trivial⟩
set_option maxRecDepth 100000 in
theorem S_X10_free_0_18 {l : Launch} (hl : l.stackTraces = false) {M : PM} {x1 : Int32} {x2 : Int32} {x3 : Int32} {r : PR} (h : F_X10_free_0_18  M x1 x2 x3 = some r) : PW l 8 Y_X10_free k_X10_free_18 [vR 0, vI x1, vI x2, vI x3, jk, jk, jk, jk] [vR 0] M r := by
  unfold F_X10_free_0_18 at h
  refine p_iconst cn_1 ?_
  refine p_goto 13 rfl rfl ?_
  exact p_fg (S_X10_free_0_23 hl h) ⟨Or.inr rfl, Or.inr rfl, Or.inr rfl, Or.inr rfl, Or.inl rfl, Or.inl rfl, Or.inl rfl, Or.inl rfl, trivial⟩
set_option maxRecDepth 100000 in
theorem S_X10_free_0 {l : Launch} (hl : l.stackTraces = false) {M : PM} {a1 : Int32} {a2 : Int32} {a3 : Int32} {r : PR} (h : F_X10_free_0 M a1 a2 a3 = some r) : PW l 8 Y_X10_free k_X10_free [vR 0, vI a1, vI a2, vI a3, jk, jk, jk, jk] [] M r := by
  unfold F_X10_free_0 at h
  refine p_aload_n rfl ?_
  refine p_iload_n rfl ?_
  refine p_bV mok_X10_needLaws rfl gt_0 rfl ins_X10_needLaws lk_X10_201 (Nat.le_of_ble_eq_true rfl) (Nat.le_of_ble_eq_true rfl) rfl (fun _ h => pc_X10_needLaws_0 hl h) h (fun M552 h => ?_)
  refine p_aload_n rfl ?_
  refine p_iload_n rfl ?_
  refine p_if_eq h 10 rfl rfl (fun _ h => ?_) (fun _ h => ?_)
  · exact p_fg (S_X10_free_0_18 hl h) ⟨Or.inr rfl, Or.inr rfl, Or.inr rfl, Or.inr rfl, Or.inl rfl, Or.inl rfl, Or.inl rfl, Or.inl rfl, trivial⟩
  · refine p_iload_n rfl ?_
    refine p_i2l ?_
    refine p_cI (av := [_]) ⟨mok_X10_isWeek, Or.inr ⟨247, rfl, rfl, sta_X10_isWeek, Or.inl lk_X10_247⟩⟩ (Nat.le_of_ble_eq_true rfl) (Nat.le_of_ble_eq_true rfl) rfl (fun _ h => pc_X10_isWeek hl h) h (fun v554 M553 h => ?_)
    refine p_if_eq h 12 rfl rfl (fun _ h => ?_) (fun _ h => ?_)
    · refine p_iconst cn_0 ?_
      exact p_fg (S_X10_free_0_23 hl h) ⟨Or.inr rfl, Or.inr rfl, Or.inr rfl, Or.inr rfl, Or.inl rfl, Or.inl rfl, Or.inl rfl, Or.inl rfl, trivial⟩
    · exact p_fg (S_X10_free_0_18 hl h) ⟨Or.inr rfl, Or.inr rfl, Or.inr rfl, Or.inr rfl, Or.inl rfl, Or.inl rfl, Or.inl rfl, Or.inl rfl, trivial⟩
set_option maxRecDepth 100000 in
theorem pc_X10_free_0 {l : Launch} (hl : l.stackTraces = false) {M : PM} {a1 : Int32} {a2 : Int32} {a3 : Int32} {r : PR} (h : F_X10_free_0 M a1 a2 a3 = some r) : PC l 8 Y_X10_free [vR 0, vI a1, vI a2, vI a3] M r := pc_of hl (by decide +kernel) cok_X10_free (Nat.le_of_ble_eq_true rfl) rfl (S_X10_free_0 hl  h) rfl
def F_X1_countMeetings_27_117 (k35 : PM → Int32 → Int64 → Int32 → Option PR) (M : PM) (x1 : Int32) (x2 : Int64) (x4 : Int32) : Option PR := lt (x4 + 64) fun y555 => k35 M x1 x2 y555
def F_X1_countMeetings_27_70 (k35 : PM → Int32 → Int64 → Int32 → Option PR) : Nat → PM → Int32 → Int64 → Int32 → Int64 → Int32 → Option PR
  | 0, _, _, _, _, _, _ => none
  | n + 1, M, x1, x2, x4, x5, x7 => (if x1 ≤ x7 then F_X1_countMeetings_27_117 k35 M x1 x2 x4 else (if 24 ≤ x7 then F_X1_countMeetings_27_117 k35 M x1 x2 x4 else if ixOK x7 24 = true then cJ (F_X10_daysLeaving M x7 x1 x2 x4) fun v557 M556 => cI (F_J13_bitCount_95d88 M556 (x5 &&& v557)) fun v559 M558 => if ixOK x7 24 = true then lt (x7 + 1) fun y560 => F_X1_countMeetings_27_70 k35 n (sA M558 28 x7.toNatClampNeg ((mA M 28 x7.toNatClampNeg) + v559)) x1 x2 x4 x5 y560 else none else none))
def F_X1_countMeetings_27_35 : Nat → PM → Int32 → Int64 → Int32 → Option PR
  | 0, _, _, _, _ => none
  | n + 1, M, x1, x2, x4 => (if mI M 27 4 ≤ x4 then some (.inl none, M) else cJ (F_X1_daysFrom_27 M x4) fun v562 M561 => cJ (F_X10_low M561 ((mI M561 27 4) - x4)) fun v564 M563 => lt ((v562 ^^^ (-1 : Int64)) &&& v564) fun y565 => F_X1_countMeetings_27_70 (F_X1_countMeetings_27_35 n) FUEL M563 x1 x2 x4 y565 0)
def F_X1_countMeetings_27_8 : Nat → PM → Int32 → Int64 → Int32 → Option PR
  | 0, _, _, _, _ => none
  | n + 1, M, x1, x2, x4 => (if 24 ≤ x4 then F_X1_countMeetings_27_35 FUEL M x1 x2 0 else if ixOK x4 24 = true then lt (x4 + 1) fun y566 => F_X1_countMeetings_27_8 n (sA M 28 x4.toNatClampNeg 0) x1 x2 y566 else none)
def F_X1_countMeetings_27 (M : PM) (a1 : Int32) : Option PR := cJ (F_X10_everyOf M a1) fun v568 M567 => F_X1_countMeetings_27_8 FUEL M567 a1 v568 0
set_option maxRecDepth 100000 in
theorem S_X1_countMeetings_27_117 {l : Launch} (hl : l.stackTraces = false) {k35 : PM → Int32 → Int64 → Int32 → Option PR} (hk35 : ∀ {M : PM} {x1 : Int32} {x2 : Int64} {x4 : Int32} {r : PR}, k35 M x1 x2 x4 = some r → PW l 3 Y_X1_countMeetings k_X1_countMeetings_35 [vR 27, vI x1, vJ x2, jk, vI x4, jk, jk, jk] [] M r) {M : PM} {x1 : Int32} {x2 : Int64} {x4 : Int32} {r : PR} (h : F_X1_countMeetings_27_117 k35 M x1 x2 x4 = some r) : PW l 3 Y_X1_countMeetings k_X1_countMeetings_117 [vR 27, vI x1, vJ x2, jk, vI x4, jk, jk, jk] [] M r := by
  unfold F_X1_countMeetings_27_117 at h
  have h := lt_h h
  refine p_iinc (Nat.le_of_ble_eq_true rfl) rfl (ci_64 _) rfl ?_
  refine p_goto 19 rfl rfl ?_
  exact p_fg (hk35 h) ⟨Or.inr rfl, Or.inr rfl, Or.inr rfl, Or.inl rfl, Or.inr rfl, Or.inl rfl, Or.inl rfl, Or.inl rfl, trivial⟩
set_option maxRecDepth 100000 in
theorem S_X1_countMeetings_27_70 {l : Launch} (hl : l.stackTraces = false) {k35 : PM → Int32 → Int64 → Int32 → Option PR} (hk35 : ∀ {M : PM} {x1 : Int32} {x2 : Int64} {x4 : Int32} {r : PR}, k35 M x1 x2 x4 = some r → PW l 3 Y_X1_countMeetings k_X1_countMeetings_35 [vR 27, vI x1, vJ x2, jk, vI x4, jk, jk, jk] [] M r) : ∀ (n : Nat) {M : PM} {x1 : Int32} {x2 : Int64} {x4 : Int32} {x5 : Int64} {x7 : Int32} {r : PR}, F_X1_countMeetings_27_70 k35 n M x1 x2 x4 x5 x7 = some r → PW l 3 Y_X1_countMeetings k_X1_countMeetings_70 [vR 27, vI x1, vJ x2, jk, vI x4, vJ x5, jk, vI x7] [] M r := by
  intro n
  induction n with
  | zero => intro M x1 x2 x4 x5 x7 r h; exact nomatch (show (none : Option PR) = some r from h)
  | succ n ih =>
    intro M x1 x2 x4 x5 x7 r h
    rw [F_X1_countMeetings_27_70] at h
    refine p_iload rfl ?_
    refine p_iload_n rfl ?_
    refine p_icmp_ge h 62 rfl rfl (fun _ h => ?_) (fun _ h => ?_)
    · exact p_fg (S_X1_countMeetings_27_117 hl hk35 h) ⟨Or.inr rfl, Or.inr rfl, Or.inr rfl, Or.inl rfl, Or.inr rfl, Or.inl rfl, Or.inl rfl, Or.inl rfl, trivial⟩
    · refine p_iload rfl ?_
      refine p_aload_n rfl ?_
      refine p_getR fk_X1_9 gt_27 rfl rfl ?_
      refine p_alen gt_28 (by simp) al_24 ?_
      refine p_icmp_ge h 62 rfl rfl (fun _ h => ?_) (fun _ h => ?_)
      · exact p_fg (S_X1_countMeetings_27_117 hl hk35 h) ⟨Or.inr rfl, Or.inr rfl, Or.inr rfl, Or.inl rfl, Or.inr rfl, Or.inl rfl, Or.inl rfl, Or.inl rfl, trivial⟩
      · refine p_aload_n rfl ?_
        refine p_getR fk_X1_9 gt_27 rfl rfl ?_
        refine p_iload rfl ?_
        refine p_dup2 rfl rfl ?_
        refine p_iald gt_28 h (fun h => ?_)
        refine p_lload rfl ?_
        refine p_iload rfl ?_
        refine p_iload_n rfl ?_
        refine p_lload_n rfl ?_
        refine p_iload rfl ?_
        refine p_cJ (av := [_, _, _, _]) ⟨mok_X10_daysLeaving, Or.inr ⟨118, rfl, rfl, sta_X10_daysLeaving, Or.inr lk_X1_118⟩⟩ (Nat.le_of_ble_eq_true rfl) (Nat.le_of_ble_eq_true rfl) rfl (fun _ h => pc_X10_daysLeaving hl h) h (fun v557 M556 h => ?_)
        refine p_land ?_
        refine p_cI (av := [_]) ⟨mok_J13_bitCount_95d88, Or.inr ⟨69, rfl, rfl, sta_J13_bitCount_95d88, Or.inl lk_X1_69⟩⟩ (Nat.le_of_ble_eq_true rfl) (Nat.le_of_ble_eq_true rfl) rfl (fun _ h => pc_J13_bitCount_95d88 hl h) h (fun v559 M558 h => ?_)
        refine p_iadd ?_
        refine p_iast gt_28 h (fun h => ?_)
        have h := lt_h h
        refine p_iinc (Nat.le_of_ble_eq_true rfl) rfl (ci_1 _) rfl ?_
        refine p_goto 37 rfl rfl ?_
        exact p_fg (ih h) ⟨Or.inr rfl, Or.inr rfl, Or.inr rfl, Or.inl rfl, Or.inr rfl, Or.inr rfl, Or.inl rfl, Or.inr rfl, trivial⟩
set_option maxRecDepth 100000 in
theorem S_X1_countMeetings_27_35 {l : Launch} (hl : l.stackTraces = false) : ∀ (n : Nat) {M : PM} {x1 : Int32} {x2 : Int64} {x4 : Int32} {r : PR}, F_X1_countMeetings_27_35  n M x1 x2 x4 = some r → PW l 3 Y_X1_countMeetings k_X1_countMeetings_35 [vR 27, vI x1, vJ x2, jk, vI x4, jk, jk, jk] [] M r := by
  intro n
  induction n with
  | zero => intro M x1 x2 x4 r h; exact nomatch (show (none : Option PR) = some r from h)
  | succ n ih =>
    intro M x1 x2 x4 r h
    rw [F_X1_countMeetings_27_35] at h
    refine p_iload rfl ?_
    refine p_aload_n rfl ?_
    refine p_getI fk_X1_15 gt_27 rfl ?_
    refine p_icmp_ge h 64 rfl rfl (fun _ h => ?_) (fun _ h => ?_)
    · exact p_ret rfl h
    · refine p_aload_n rfl ?_
      refine p_iload rfl ?_
      refine p_cJ (av := [_, _]) ⟨mok_X1_daysFrom, Or.inl ⟨62, 27, 1, 0, _, rfl, rfl, rfl, gt_27, rfl, ins_X1_daysFrom, Or.inl lk_X1_62⟩⟩ (Nat.le_of_ble_eq_true rfl) (Nat.le_of_ble_eq_true rfl) rfl (fun _ h => pc_X1_daysFrom_27 hl h) h (fun v562 M561 h => ?_)
      refine p_ldc2_w co_X1_48 ?_
      refine p_lxor ?_
      refine p_aload_n rfl ?_
      refine p_getI fk_X1_15 gt_27 rfl ?_
      refine p_iload rfl ?_
      refine p_isub ?_
      refine p_cJ (av := [_]) ⟨mok_X10_low, Or.inr ⟨66, rfl, rfl, sta_X10_low, Or.inr lk_X1_66⟩⟩ (Nat.le_of_ble_eq_true rfl) (Nat.le_of_ble_eq_true rfl) rfl (fun _ h => pc_X10_low hl h) h (fun v564 M563 h => ?_)
      refine p_land ?_
      have h := lt_h h
      refine p_lstore (Nat.le_of_ble_eq_true rfl) rfl ?_
      refine p_iconst cn_0 ?_
      refine p_istore (Nat.le_of_ble_eq_true rfl) rfl ?_
      exact p_fg (S_X1_countMeetings_27_70 hl (fun h => ih h) FUEL h) ⟨Or.inr rfl, Or.inr rfl, Or.inr rfl, Or.inl rfl, Or.inr rfl, Or.inr rfl, Or.inl rfl, Or.inr rfl, trivial⟩
set_option maxRecDepth 100000 in
theorem S_X1_countMeetings_27_8 {l : Launch} (hl : l.stackTraces = false) : ∀ (n : Nat) {M : PM} {x1 : Int32} {x2 : Int64} {x4 : Int32} {r : PR}, F_X1_countMeetings_27_8  n M x1 x2 x4 = some r → PW l 3 Y_X1_countMeetings k_X1_countMeetings_8 [vR 27, vI x1, vJ x2, jk, vI x4, jk, jk, jk] [] M r := by
  intro n
  induction n with
  | zero => intro M x1 x2 x4 r h; exact nomatch (show (none : Option PR) = some r from h)
  | succ n ih =>
    intro M x1 x2 x4 r h
    rw [F_X1_countMeetings_27_8] at h
    refine p_iload rfl ?_
    refine p_aload_n rfl ?_
    refine p_getR fk_X1_9 gt_27 rfl rfl ?_
    refine p_alen gt_28 (by simp) al_24 ?_
    refine p_icmp_ge h 17 rfl rfl (fun _ h => ?_) (fun _ h => ?_)
    · refine p_iconst cn_0 ?_
      refine p_istore (Nat.le_of_ble_eq_true rfl) rfl ?_
      exact p_fg (S_X1_countMeetings_27_35 hl FUEL h) ⟨Or.inr rfl, Or.inr rfl, Or.inr rfl, Or.inl rfl, Or.inr rfl, Or.inl rfl, Or.inl rfl, Or.inl rfl, trivial⟩
    · refine p_aload_n rfl ?_
      refine p_getR fk_X1_9 gt_27 rfl rfl ?_
      refine p_iload rfl ?_
      refine p_iconst cn_0 ?_
      refine p_iast gt_28 h (fun h => ?_)
      have h := lt_h h
      refine p_iinc (Nat.le_of_ble_eq_true rfl) rfl (ci_1 _) rfl ?_
      refine p_goto 5 rfl rfl ?_
      exact p_fg (ih h) ⟨Or.inr rfl, Or.inr rfl, Or.inr rfl, Or.inl rfl, Or.inr rfl, Or.inl rfl, Or.inl rfl, Or.inl rfl, trivial⟩
set_option maxRecDepth 100000 in
theorem S_X1_countMeetings_27 {l : Launch} (hl : l.stackTraces = false) {M : PM} {a1 : Int32} {r : PR} (h : F_X1_countMeetings_27 M a1 = some r) : PW l 3 Y_X1_countMeetings k_X1_countMeetings [vR 27, vI a1, jk, jk, jk, jk, jk, jk] [] M r := by
  unfold F_X1_countMeetings_27 at h
  refine p_iload_n rfl ?_
  refine p_cJ (av := [_]) ⟨mok_X10_everyOf, Or.inr ⟨115, rfl, rfl, sta_X10_everyOf, Or.inr lk_X1_115⟩⟩ (Nat.le_of_ble_eq_true rfl) (Nat.le_of_ble_eq_true rfl) rfl (fun _ h => pc_X10_everyOf hl h) h (fun v568 M567 h => ?_)
  refine p_lstore_n (Nat.le_of_ble_eq_true rfl) rfl ?_
  refine p_iconst cn_0 ?_
  refine p_istore (Nat.le_of_ble_eq_true rfl) rfl ?_
  exact p_fg (S_X1_countMeetings_27_8 hl FUEL h) ⟨Or.inr rfl, Or.inr rfl, Or.inr rfl, Or.inl rfl, Or.inr rfl, Or.inl rfl, Or.inl rfl, Or.inl rfl, trivial⟩
set_option maxRecDepth 100000 in
theorem pc_X1_countMeetings_27 {l : Launch} (hl : l.stackTraces = false) {M : PM} {a1 : Int32} {r : PR} (h : F_X1_countMeetings_27 M a1 = some r) : PC l 3 Y_X1_countMeetings [vR 27, vI a1] M r := pc_of hl (by decide +kernel) cok_X1_countMeetings (Nat.le_of_ble_eq_true rfl) rfl (S_X1_countMeetings_27 hl  h) rfl
def F_X1_mostBarredLaw_27_126 (k14 : PM → Int32 → Int64 → Int64 → Int32 → Option PR) (M : PM) (x1 : Int32) (x2 : Int64) (x4 : Int64) (x6 : Int32) : Option PR := lt (x6 + 1) fun y569 => k14 M x1 x2 x4 y569
def F_X1_mostBarredLaw_27_120 (k14 : PM → Int32 → Int64 → Int64 → Int32 → Option PR) (k58 : PM → Int32 → Int64 → Int64 → Int32 → Int32 → Int32 → Option PR) (M : PM) (x1 : Int32) (x2 : Int64) (x4 : Int64) (x6 : Int32) (x7 : Int32) (x8 : Int32) : Option PR := lt (x8 + 1) fun y570 => k58 M x1 x2 x4 x6 x7 y570
def F_X1_mostBarredLaw_27_58 (k14 : PM → Int32 → Int64 → Int64 → Int32 → Option PR) : Nat → PM → Int32 → Int64 → Int64 → Int32 → Int32 → Int32 → Option PR
  | 0, _, _, _, _, _, _, _ => none
  | n + 1, M, x1, x2, x4, x6, x7, x8 => (if x7 ≤ x8 then F_X1_mostBarredLaw_27_126 k14 M x1 x2 x4 x6 else (if 24 ≤ x8 then F_X1_mostBarredLaw_27_126 k14 M x1 x2 x4 x6 else if ixOK x8 24 = true then lt (x7.toInt64 * ((mA M 28 x8.toNatClampNeg).toInt64)) fun y571 => (if lg_cmp (y571 * x4) (x2 * x6.toInt64) ≤ 0 then F_X1_mostBarredLaw_27_120 k14 (F_X1_mostBarredLaw_27_58 k14 n) M x1 x2 x4 x6 x7 x8 else lt ((100 * x6) + x8) fun y572 => F_X1_mostBarredLaw_27_120 k14 (F_X1_mostBarredLaw_27_58 k14 n) M y572 y571 x6.toInt64 x6 x7 x8) else none))
def F_X1_mostBarredLaw_27_14 : Nat → PM → Int32 → Int64 → Int64 → Int32 → Option PR
  | 0, _, _, _, _, _ => none
  | n + 1, M, x1, x2, x4, x6 => (if 24 < x6 then some (.inl (some (.int x1)), M) else (if 0 ≤ lg_cmp (x2 * x6.toInt64) (((mI M 27 4).toInt64) * x4) then some (.inl (some (.int x1)), M) else cI (F_X10_commonDivisor M (mI M 27 4) x6) fun v574 M573 => cV (F_X1_countMeetings_27 M573 v574) fun M575 => F_X1_mostBarredLaw_27_58 (F_X1_mostBarredLaw_27_14 n) FUEL M575 x1 x2 x4 x6 v574 0))
def F_X1_mostBarredLaw_27 (M : PM)  : Option PR := lt ((0 : Int64)) fun y576 => lt ((2 : Int64)) fun y577 => F_X1_mostBarredLaw_27_14 FUEL M 200 y576 y577 2
set_option maxRecDepth 100000 in
theorem S_X1_mostBarredLaw_27_126 {l : Launch} (hl : l.stackTraces = false) {k14 : PM → Int32 → Int64 → Int64 → Int32 → Option PR} (hk14 : ∀ {M : PM} {x1 : Int32} {x2 : Int64} {x4 : Int64} {x6 : Int32} {r : PR}, k14 M x1 x2 x4 x6 = some r → PW l 4 Y_X1_mostBarredLaw k_X1_mostBarredLaw_14 [vR 27, vI x1, vJ x2, jk, vJ x4, jk, vI x6, jk, jk, jk, jk] [] M r) {M : PM} {x1 : Int32} {x2 : Int64} {x4 : Int64} {x6 : Int32} {r : PR} (h : F_X1_mostBarredLaw_27_126 k14 M x1 x2 x4 x6 = some r) : PW l 4 Y_X1_mostBarredLaw k_X1_mostBarredLaw_126 [vR 27, vI x1, vJ x2, jk, vJ x4, jk, vI x6, jk, jk, jk, jk] [] M r := by
  unfold F_X1_mostBarredLaw_27_126 at h
  have h := lt_h h
  refine p_iinc (Nat.le_of_ble_eq_true rfl) rfl (ci_1 _) rfl ?_
  refine p_goto 8 rfl rfl ?_
  exact p_fg (hk14 h) ⟨Or.inr rfl, Or.inr rfl, Or.inr rfl, Or.inl rfl, Or.inr rfl, Or.inl rfl, Or.inr rfl, Or.inl rfl, Or.inl rfl, Or.inl rfl, Or.inl rfl, trivial⟩
set_option maxRecDepth 100000 in
theorem S_X1_mostBarredLaw_27_120 {l : Launch} (hl : l.stackTraces = false) {k14 : PM → Int32 → Int64 → Int64 → Int32 → Option PR} {k58 : PM → Int32 → Int64 → Int64 → Int32 → Int32 → Int32 → Option PR} (hk14 : ∀ {M : PM} {x1 : Int32} {x2 : Int64} {x4 : Int64} {x6 : Int32} {r : PR}, k14 M x1 x2 x4 x6 = some r → PW l 4 Y_X1_mostBarredLaw k_X1_mostBarredLaw_14 [vR 27, vI x1, vJ x2, jk, vJ x4, jk, vI x6, jk, jk, jk, jk] [] M r) (hk58 : ∀ {M : PM} {x1 : Int32} {x2 : Int64} {x4 : Int64} {x6 : Int32} {x7 : Int32} {x8 : Int32} {r : PR}, k58 M x1 x2 x4 x6 x7 x8 = some r → PW l 4 Y_X1_mostBarredLaw k_X1_mostBarredLaw_58 [vR 27, vI x1, vJ x2, jk, vJ x4, jk, vI x6, vI x7, vI x8, jk, jk] [] M r) {M : PM} {x1 : Int32} {x2 : Int64} {x4 : Int64} {x6 : Int32} {x7 : Int32} {x8 : Int32} {r : PR} (h : F_X1_mostBarredLaw_27_120 k14 k58 M x1 x2 x4 x6 x7 x8 = some r) : PW l 4 Y_X1_mostBarredLaw k_X1_mostBarredLaw_120 [vR 27, vI x1, vJ x2, jk, vJ x4, jk, vI x6, vI x7, vI x8, jk, jk] [] M r := by
  unfold F_X1_mostBarredLaw_27_120 at h
  have h := lt_h h
  refine p_iinc (Nat.le_of_ble_eq_true rfl) rfl (ci_1 _) rfl ?_
  refine p_goto 32 rfl rfl ?_
  exact p_fg (hk58 h) ⟨Or.inr rfl, Or.inr rfl, Or.inr rfl, Or.inl rfl, Or.inr rfl, Or.inl rfl, Or.inr rfl, Or.inr rfl, Or.inr rfl, Or.inl rfl, Or.inl rfl, trivial⟩
set_option maxRecDepth 100000 in
theorem S_X1_mostBarredLaw_27_58 {l : Launch} (hl : l.stackTraces = false) {k14 : PM → Int32 → Int64 → Int64 → Int32 → Option PR} (hk14 : ∀ {M : PM} {x1 : Int32} {x2 : Int64} {x4 : Int64} {x6 : Int32} {r : PR}, k14 M x1 x2 x4 x6 = some r → PW l 4 Y_X1_mostBarredLaw k_X1_mostBarredLaw_14 [vR 27, vI x1, vJ x2, jk, vJ x4, jk, vI x6, jk, jk, jk, jk] [] M r) : ∀ (n : Nat) {M : PM} {x1 : Int32} {x2 : Int64} {x4 : Int64} {x6 : Int32} {x7 : Int32} {x8 : Int32} {r : PR}, F_X1_mostBarredLaw_27_58 k14 n M x1 x2 x4 x6 x7 x8 = some r → PW l 4 Y_X1_mostBarredLaw k_X1_mostBarredLaw_58 [vR 27, vI x1, vJ x2, jk, vJ x4, jk, vI x6, vI x7, vI x8, jk, jk] [] M r := by
  intro n
  induction n with
  | zero => intro M x1 x2 x4 x6 x7 x8 r h; exact nomatch (show (none : Option PR) = some r from h)
  | succ n ih =>
    intro M x1 x2 x4 x6 x7 x8 r h
    rw [F_X1_mostBarredLaw_27_58] at h
    refine p_iload rfl ?_
    refine p_iload rfl ?_
    refine p_icmp_ge h 71 rfl rfl (fun _ h => ?_) (fun _ h => ?_)
    · exact p_fg (S_X1_mostBarredLaw_27_126 hl hk14 h) ⟨Or.inr rfl, Or.inr rfl, Or.inr rfl, Or.inl rfl, Or.inr rfl, Or.inl rfl, Or.inr rfl, Or.inl rfl, Or.inl rfl, Or.inl rfl, Or.inl rfl, trivial⟩
    · refine p_iload rfl ?_
      refine p_aload_n rfl ?_
      refine p_getR fk_X1_9 gt_27 rfl rfl ?_
      refine p_alen gt_28 (by simp) al_24 ?_
      refine p_icmp_ge h 71 rfl rfl (fun _ h => ?_) (fun _ h => ?_)
      · exact p_fg (S_X1_mostBarredLaw_27_126 hl hk14 h) ⟨Or.inr rfl, Or.inr rfl, Or.inr rfl, Or.inl rfl, Or.inr rfl, Or.inl rfl, Or.inr rfl, Or.inl rfl, Or.inl rfl, Or.inl rfl, Or.inl rfl, trivial⟩
      · refine p_iload rfl ?_
        refine p_i2l ?_
        refine p_aload_n rfl ?_
        refine p_getR fk_X1_9 gt_27 rfl rfl ?_
        refine p_iload rfl ?_
        refine p_iald gt_28 h (fun h => ?_)
        refine p_i2l ?_
        refine p_lmul ?_
        have h := lt_h h
        refine p_lstore (Nat.le_of_ble_eq_true rfl) rfl ?_
        refine p_lload rfl ?_
        refine p_lload rfl ?_
        refine p_lmul ?_
        refine p_lload_n rfl ?_
        refine p_iload rfl ?_
        refine p_i2l ?_
        refine p_lmul ?_
        refine p_lcmp ?_
        refine p_if_le h 69 rfl rfl (fun _ h => ?_) (fun _ h => ?_)
        · exact p_fg (S_X1_mostBarredLaw_27_120 hl hk14 (fun h => ih h) h) ⟨Or.inr rfl, Or.inr rfl, Or.inr rfl, Or.inl rfl, Or.inr rfl, Or.inl rfl, Or.inr rfl, Or.inr rfl, Or.inr rfl, Or.inl rfl, Or.inl rfl, trivial⟩
        · refine p_bipush cb_100 ?_
          refine p_iload rfl ?_
          refine p_imul ?_
          refine p_iload rfl ?_
          refine p_iadd ?_
          have h := lt_h h
          refine p_istore_n (Nat.le_of_ble_eq_true rfl) rfl ?_
          refine p_lload rfl ?_
          refine p_lstore_n (Nat.le_of_ble_eq_true rfl) rfl ?_
          refine p_iload rfl ?_
          refine p_i2l ?_
          refine p_lstore (Nat.le_of_ble_eq_true rfl) rfl ?_
          exact p_fg (S_X1_mostBarredLaw_27_120 hl hk14 (fun h => ih h) h) ⟨Or.inr rfl, Or.inr rfl, Or.inr rfl, Or.inl rfl, Or.inr rfl, Or.inl rfl, Or.inr rfl, Or.inr rfl, Or.inr rfl, Or.inl rfl, Or.inl rfl, trivial⟩
set_option maxRecDepth 100000 in
theorem S_X1_mostBarredLaw_27_14 {l : Launch} (hl : l.stackTraces = false) : ∀ (n : Nat) {M : PM} {x1 : Int32} {x2 : Int64} {x4 : Int64} {x6 : Int32} {r : PR}, F_X1_mostBarredLaw_27_14  n M x1 x2 x4 x6 = some r → PW l 4 Y_X1_mostBarredLaw k_X1_mostBarredLaw_14 [vR 27, vI x1, vJ x2, jk, vJ x4, jk, vI x6, jk, jk, jk, jk] [] M r := by
  intro n
  induction n with
  | zero => intro M x1 x2 x4 x6 r h; exact nomatch (show (none : Option PR) = some r from h)
  | succ n ih =>
    intro M x1 x2 x4 x6 r h
    rw [F_X1_mostBarredLaw_27_14] at h
    refine p_iload rfl ?_
    refine p_bipush cb_24 ?_
    refine p_icmp_gt h 73 rfl rfl (fun _ h => ?_) (fun _ h => ?_)
    · refine p_iload_n rfl ?_
      exact p_iret rfl h
    · refine p_lload_n rfl ?_
      refine p_iload rfl ?_
      refine p_i2l ?_
      refine p_lmul ?_
      refine p_aload_n rfl ?_
      refine p_getI fk_X1_15 gt_27 rfl ?_
      refine p_i2l ?_
      refine p_lload rfl ?_
      refine p_lmul ?_
      refine p_lcmp ?_
      refine p_if_ge h 73 rfl rfl (fun _ h => ?_) (fun _ h => ?_)
      · refine p_iload_n rfl ?_
        exact p_iret rfl h
      · refine p_aload_n rfl ?_
        refine p_getI fk_X1_15 gt_27 rfl ?_
        refine p_iload rfl ?_
        refine p_cI (av := [_, _]) ⟨mok_X10_commonDivisor, Or.inr ⟨108, rfl, rfl, sta_X10_commonDivisor, Or.inr lk_X1_108⟩⟩ (Nat.le_of_ble_eq_true rfl) (Nat.le_of_ble_eq_true rfl) rfl (fun _ h => pc_X10_commonDivisor hl h) h (fun v574 M573 h => ?_)
        refine p_istore (Nat.le_of_ble_eq_true rfl) rfl ?_
        refine p_aload_n rfl ?_
        refine p_iload rfl ?_
        refine p_cV (av := [_, _]) ⟨mok_X1_countMeetings, Or.inl ⟨111, 27, 1, 0, _, rfl, rfl, rfl, gt_27, rfl, ins_X1_countMeetings, Or.inl lk_X1_111⟩⟩ (Nat.le_of_ble_eq_true rfl) (Nat.le_of_ble_eq_true rfl) rfl (fun _ h => pc_X1_countMeetings_27 hl h) h (fun M575 h => ?_)
        refine p_iconst cn_0 ?_
        refine p_istore (Nat.le_of_ble_eq_true rfl) rfl ?_
        exact p_fg (S_X1_mostBarredLaw_27_58 hl (fun h => ih h) FUEL h) ⟨Or.inr rfl, Or.inr rfl, Or.inr rfl, Or.inl rfl, Or.inr rfl, Or.inl rfl, Or.inr rfl, Or.inr rfl, Or.inr rfl, Or.inl rfl, Or.inl rfl, trivial⟩
set_option maxRecDepth 100000 in
theorem S_X1_mostBarredLaw_27 {l : Launch} (hl : l.stackTraces = false) {M : PM}  {r : PR} (h : F_X1_mostBarredLaw_27 M  = some r) : PW l 4 Y_X1_mostBarredLaw k_X1_mostBarredLaw [vR 27, jk, jk, jk, jk, jk, jk, jk, jk, jk, jk] [] M r := by
  unfold F_X1_mostBarredLaw_27 at h
  refine p_sipush cs_200 ?_
  refine p_istore_n (Nat.le_of_ble_eq_true rfl) rfl ?_
  refine p_lconst cl_0 ?_
  have h := lt_h h
  refine p_lstore_n (Nat.le_of_ble_eq_true rfl) rfl ?_
  refine p_ldc2_w co_X1_106 ?_
  have h := lt_h h
  refine p_lstore (Nat.le_of_ble_eq_true rfl) rfl ?_
  refine p_iconst cn_2 ?_
  refine p_istore (Nat.le_of_ble_eq_true rfl) rfl ?_
  exact p_fg (S_X1_mostBarredLaw_27_14 hl FUEL h) ⟨Or.inr rfl, Or.inr rfl, Or.inr rfl, Or.inl rfl, Or.inr rfl, Or.inl rfl, Or.inr rfl, Or.inl rfl, Or.inl rfl, Or.inl rfl, Or.inl rfl, trivial⟩
set_option maxRecDepth 100000 in
theorem pc_X1_mostBarredLaw_27 {l : Launch} (hl : l.stackTraces = false) {M : PM}  {r : PR} (h : F_X1_mostBarredLaw_27 M  = some r) : PC l 4 Y_X1_mostBarredLaw [vR 27] M r := pc_of hl (by decide +kernel) cok_X1_mostBarredLaw (Nat.le_of_ble_eq_true rfl) rfl (S_X1_mostBarredLaw_27 hl  h) rfl
def F_X10_meeting_0 (M : PM) (a1 : Int32) : Option PR := bV (F_X10_needLaws_0 M a1) fun M578 => cV (F_X1_bar_27 M578 a1 0) fun M579 => cI (F_X1_mostBarredLaw_27 M579) fun v581 M580 => some (.inl (some (.int v581)), M580)
set_option maxRecDepth 100000 in
theorem S_X10_meeting_0 {l : Launch} (hl : l.stackTraces = false) {M : PM} {a1 : Int32} {r : PR} (h : F_X10_meeting_0 M a1 = some r) : PW l 8 Y_X10_meeting k_X10_meeting [vR 0, vI a1] [] M r := by
  unfold F_X10_meeting_0 at h
  refine p_aload_n rfl ?_
  refine p_iload_n rfl ?_
  refine p_bV mok_X10_needLaws rfl gt_0 rfl ins_X10_needLaws lk_X10_201 (Nat.le_of_ble_eq_true rfl) (Nat.le_of_ble_eq_true rfl) rfl (fun _ h => pc_X10_needLaws_0 hl h) h (fun M578 h => ?_)
  refine p_aload_n rfl ?_
  refine p_getR fk_X10_63 gt_0 rfl rfl ?_
  refine p_iload_n rfl ?_
  refine p_iconst cn_0 ?_
  refine p_cV (av := [_, _, _]) ⟨mok_X1_bar, Or.inl ⟨240, 27, 1, 0, _, rfl, rfl, rfl, gt_27, rfl, ins_X1_bar, Or.inr lk_X10_240⟩⟩ (Nat.le_of_ble_eq_true rfl) (Nat.le_of_ble_eq_true rfl) rfl (fun _ h => pc_X1_bar_27 hl h) h (fun M579 h => ?_)
  refine p_aload_n rfl ?_
  refine p_getR fk_X10_63 gt_0 rfl rfl ?_
  refine p_cI (av := [_]) ⟨mok_X1_mostBarredLaw, Or.inl ⟨255, 27, 1, 0, _, rfl, rfl, rfl, gt_27, rfl, ins_X1_mostBarredLaw, Or.inr lk_X10_255⟩⟩ (Nat.le_of_ble_eq_true rfl) (Nat.le_of_ble_eq_true rfl) rfl (fun _ h => pc_X1_mostBarredLaw_27 hl h) h (fun v581 M580 h => ?_)
  exact p_iret rfl h
set_option maxRecDepth 100000 in
theorem pc_X10_meeting_0 {l : Launch} (hl : l.stackTraces = false) {M : PM} {a1 : Int32} {r : PR} (h : F_X10_meeting_0 M a1 = some r) : PC l 8 Y_X10_meeting [vR 0, vI a1] M r := pc_of hl (by decide +kernel) cok_X10_meeting (Nat.le_of_ble_eq_true rfl) rfl (S_X10_meeting_0 hl  h) rfl
def F_J9_max_f86c9 (M : PM) (a0 : Int64) (a1 : Int64) : Option PR := (if lg_cmp a0 a1 < 0 then some (.inl (some (.long a1)), M) else some (.inl (some (.long a0)), M))
set_option maxRecDepth 100000 in
theorem S_J9_max_f86c9 {l : Launch} (hl : l.stackTraces = false) {M : PM} {a0 : Int64} {a1 : Int64} {r : PR} (h : F_J9_max_f86c9 M a0 a1 = some r) : PW l 0 Y_J9_max_f86c9 k_J9_max_f86c9 [vJ a0, jk, vJ a1, jk] [] M r := by
  unfold F_J9_max_f86c9 at h
  refine p_lload_n rfl ?_
  refine p_lload_n rfl ?_
  refine p_lcmp ?_
  refine p_if_lt h 6 rfl rfl (fun _ h => ?_) (fun _ h => ?_)
  · refine p_lload_n rfl ?_
    exact p_lret rfl h
  · refine p_lload_n rfl ?_
    refine p_goto 7 rfl rfl ?_
    exact p_lret rfl h
set_option maxRecDepth 100000 in
theorem pc_J9_max_f86c9 {l : Launch} (hl : l.stackTraces = false) {M : PM} {a0 : Int64} {a1 : Int64} {r : PR} (h : F_J9_max_f86c9 M a0 a1 = some r) : PC l 0 Y_J9_max_f86c9 [vJ a0, vJ a1] M r := pc_of hl (by decide +kernel) cok_J9_max_f86c9 (Nat.le_of_ble_eq_true rfl) rfl (S_J9_max_f86c9 hl  h) rfl
def F_X6_take_95_68 : Nat → PM → Int64 → Int64 → Int32 → Option PR
  | 0, _, _, _, _ => none
  | n + 1, M, x1, x3, x5 => (if mI M 95 3 ≤ x5 then (if (1 : Int32) &&& 1 = 1 then some (.inl (some (.int 1)), M) else none) else if (100 : Int64) = 0 then none else cJ (F_J9_max_f86c9 M (x3 / (100 : Int64)) (1 : Int64)) fun v583 M582 => if v583 = 0 then none else if (100 : Int64) = 0 then none else lt ((x1 / v583) - (x1 / v583) / (100 : Int64) * (100 : Int64)) fun y584 => cI (F_X10_isWeek M582 y584) fun v586 M585 => (if v586 = 0 then (if (0 : Int32) &&& 1 = 0 then some (.inl (some (.int 0)), M585) else none) else if ixOK x5 6 = true then lt (x5 + 1) fun y587 => F_X6_take_95_68 n (sA M585 96 x5.toNatClampNeg y584.toInt32) x1 v583 y587 else none))
def F_X6_take_95_47 (M : PM) (x1 : Int64) (x3 : Int64) : Option PR := if x3 = 0 then none else (if lg_cmp (x1 / x3) (0 : Int64) = 0 then (if 2 ≤ mI M 95 3 then F_X6_take_95_68 FUEL M x1 x3 0 else (if (0 : Int32) &&& 1 = 0 then some (.inl (some (.int 0)), M) else none)) else (if (0 : Int32) &&& 1 = 0 then some (.inl (some (.int 0)), M) else none))
def F_X6_take_95_10 : Nat → PM → Int64 → Int64 → Int32 → Option PR
  | 0, _, _, _, _ => none
  | n + 1, M, x1, x3, x5 => (if 6 ≤ x5 then F_X6_take_95_47 M x1 x3 else if x3 = 0 then none else (if lg_cmp (x1 / x3) (0 : Int64) ≤ 0 then F_X6_take_95_47 M x1 x3 else lt (x3 * (100 : Int64)) fun y588 => lt (x5 + 1) fun y589 => F_X6_take_95_10 n (sI M 95 3 ((mI M 95 3) + 1)) x1 y588 y589))
def F_X6_take_95 (M : PM) (a1 : Int64) : Option PR := lt ((1 : Int64)) fun y590 => F_X6_take_95_10 FUEL (sI M 95 3 0) a1 y590 0
set_option maxRecDepth 100000 in
theorem S_X6_take_95_68 {l : Launch} (hl : l.stackTraces = false) : ∀ (n : Nat) {M : PM} {x1 : Int64} {x3 : Int64} {x5 : Int32} {r : PR}, F_X6_take_95_68  n M x1 x3 x5 = some r → PW l 1 Y_X6_take k_X6_take_68 [vR 95, vJ x1, jk, vJ x3, jk, vI x5, jk, jk] [] M r := by
  intro n
  induction n with
  | zero => intro M x1 x3 x5 r h; exact nomatch (show (none : Option PR) = some r from h)
  | succ n ih =>
    intro M x1 x3 x5 r h
    rw [F_X6_take_95_68] at h
    refine p_iload rfl ?_
    refine p_aload_n rfl ?_
    refine p_getI fk_X6_21 gt_95 rfl ?_
    refine p_icmp_ge h 71 rfl rfl (fun _ h => ?_) (fun _ h => ?_)
    · refine p_iconst cn_1 ?_
      exact p_zret rfl h
    · refine p_lload_n rfl ?_
      refine p_ldc2_w co_X6_25 ?_
      refine p_ldiv h (fun h => ?_)
      refine p_lconst cl_1 ?_
      refine p_cJ (av := [_, _]) ⟨mok_J9_max_f86c9, Or.inr ⟨27, rfl, rfl, sta_J9_max_f86c9, Or.inl lk_X6_27⟩⟩ (Nat.le_of_ble_eq_true rfl) (Nat.le_of_ble_eq_true rfl) rfl (fun _ h => pc_J9_max_f86c9 hl h) h (fun v583 M582 h => ?_)
      refine p_lstore_n (Nat.le_of_ble_eq_true rfl) rfl ?_
      refine p_lload_n rfl ?_
      refine p_lload_n rfl ?_
      refine p_ldiv h (fun h => ?_)
      refine p_ldc2_w co_X6_25 ?_
      refine p_lrem h (fun h => ?_)
      have h := lt_h h
      refine p_lstore (Nat.le_of_ble_eq_true rfl) rfl ?_
      refine p_lload rfl ?_
      refine p_cI (av := [_]) ⟨mok_X10_isWeek, Or.inr ⟨33, rfl, rfl, sta_X10_isWeek, Or.inr lk_X6_33⟩⟩ (Nat.le_of_ble_eq_true rfl) (Nat.le_of_ble_eq_true rfl) rfl (fun _ h => pc_X10_isWeek hl h) h (fun v586 M585 h => ?_)
      refine p_if_ne h 63 rfl rfl (fun _ h => ?_) (fun _ h => ?_)
      · refine p_iconst cn_0 ?_
        exact p_zret rfl h
      · refine p_aload_n rfl ?_
        refine p_getR fk_X6_11 gt_95 rfl rfl ?_
        refine p_iload rfl ?_
        refine p_lload rfl ?_
        refine p_l2i ?_
        refine p_iast gt_96 h (fun h => ?_)
        have h := lt_h h
        refine p_iinc (Nat.le_of_ble_eq_true rfl) rfl (ci_1 _) rfl ?_
        refine p_goto 42 rfl rfl ?_
        exact p_fg (ih h) ⟨Or.inr rfl, Or.inr rfl, Or.inl rfl, Or.inr rfl, Or.inl rfl, Or.inr rfl, Or.inl rfl, Or.inl rfl, trivial⟩
set_option maxRecDepth 100000 in
theorem S_X6_take_95_47 {l : Launch} (hl : l.stackTraces = false) {M : PM} {x1 : Int64} {x3 : Int64} {r : PR} (h : F_X6_take_95_47  M x1 x3 = some r) : PW l 1 Y_X6_take k_X6_take_47 [vR 95, vJ x1, jk, vJ x3, jk, jk, jk, jk] [] M r := by
  unfold F_X6_take_95_47 at h
  refine p_lload_n rfl ?_
  refine p_lload_n rfl ?_
  refine p_ldiv h (fun h => ?_)
  refine p_lconst cl_0 ?_
  refine p_lcmp ?_
  refine p_if_ne h 38 rfl rfl (fun _ h => ?_) (fun _ h => ?_)
  · refine p_aload_n rfl ?_
    refine p_getI fk_X6_21 gt_95 rfl ?_
    refine p_iconst cn_2 ?_
    refine p_icmp_ge h 40 rfl rfl (fun _ h => ?_) (fun _ h => ?_)
    · refine p_iconst cn_0 ?_
      refine p_istore (Nat.le_of_ble_eq_true rfl) rfl ?_
      exact p_fg (S_X6_take_95_68 hl FUEL h) ⟨Or.inr rfl, Or.inr rfl, Or.inl rfl, Or.inr rfl, Or.inl rfl, Or.inr rfl, Or.inl rfl, Or.inl rfl, trivial⟩
    · refine p_iconst cn_0 ?_
      exact p_zret rfl h
  · refine p_iconst cn_0 ?_
    exact p_zret rfl h
set_option maxRecDepth 100000 in
theorem S_X6_take_95_10 {l : Launch} (hl : l.stackTraces = false) : ∀ (n : Nat) {M : PM} {x1 : Int64} {x3 : Int64} {x5 : Int32} {r : PR}, F_X6_take_95_10  n M x1 x3 x5 = some r → PW l 1 Y_X6_take k_X6_take_10 [vR 95, vJ x1, jk, vJ x3, jk, vI x5, jk, jk] [] M r := by
  intro n
  induction n with
  | zero => intro M x1 x3 x5 r h; exact nomatch (show (none : Option PR) = some r from h)
  | succ n ih =>
    intro M x1 x3 x5 r h
    rw [F_X6_take_95_10] at h
    refine p_iload rfl ?_
    refine p_bipush cb_6 ?_
    refine p_icmp_ge h 28 rfl rfl (fun _ h => ?_) (fun _ h => ?_)
    · exact p_fg (S_X6_take_95_47 hl h) ⟨Or.inr rfl, Or.inr rfl, Or.inl rfl, Or.inr rfl, Or.inl rfl, Or.inl rfl, Or.inl rfl, Or.inl rfl, trivial⟩
    · refine p_lload_n rfl ?_
      refine p_lload_n rfl ?_
      refine p_ldiv h (fun h => ?_)
      refine p_lconst cl_0 ?_
      refine p_lcmp ?_
      refine p_if_le h 28 rfl rfl (fun _ h => ?_) (fun _ h => ?_)
      · exact p_fg (S_X6_take_95_47 hl h) ⟨Or.inr rfl, Or.inr rfl, Or.inl rfl, Or.inr rfl, Or.inl rfl, Or.inl rfl, Or.inl rfl, Or.inl rfl, trivial⟩
      · refine p_lload_n rfl ?_
        refine p_ldc2_w co_X6_25 ?_
        refine p_lmul ?_
        have h := lt_h h
        refine p_lstore_n (Nat.le_of_ble_eq_true rfl) rfl ?_
        refine p_aload_n rfl ?_
        refine p_dup rfl ?_
        refine p_getI fk_X6_21 gt_95 rfl ?_
        refine p_iconst cn_1 ?_
        refine p_iadd ?_
        refine p_putI fk_X6_21 gt_95 rfl ?_
        have h := lt_h h
        refine p_iinc (Nat.le_of_ble_eq_true rfl) rfl (ci_1 _) rfl ?_
        refine p_goto 7 rfl rfl ?_
        exact p_fg (ih h) ⟨Or.inr rfl, Or.inr rfl, Or.inl rfl, Or.inr rfl, Or.inl rfl, Or.inr rfl, Or.inl rfl, Or.inl rfl, trivial⟩
set_option maxRecDepth 100000 in
theorem S_X6_take_95 {l : Launch} (hl : l.stackTraces = false) {M : PM} {a1 : Int64} {r : PR} (h : F_X6_take_95 M a1 = some r) : PW l 1 Y_X6_take k_X6_take [vR 95, vJ a1, jk, jk, jk, jk, jk, jk] [] M r := by
  unfold F_X6_take_95 at h
  refine p_aload_n rfl ?_
  refine p_iconst cn_0 ?_
  refine p_putI fk_X6_21 gt_95 rfl ?_
  refine p_lconst cl_1 ?_
  have h := lt_h h
  refine p_lstore_n (Nat.le_of_ble_eq_true rfl) rfl ?_
  refine p_iconst cn_0 ?_
  refine p_istore (Nat.le_of_ble_eq_true rfl) rfl ?_
  exact p_fg (S_X6_take_95_10 hl FUEL h) ⟨Or.inr rfl, Or.inr rfl, Or.inl rfl, Or.inr rfl, Or.inl rfl, Or.inr rfl, Or.inl rfl, Or.inl rfl, trivial⟩
set_option maxRecDepth 100000 in
theorem pc_X6_take_95 {l : Launch} (hl : l.stackTraces = false) {M : PM} {a1 : Int64} {r : PR} (h : F_X6_take_95 M a1 = some r) : PC l 1 Y_X6_take [vR 95, vJ a1] M r := pc_of hl (by decide +kernel) cok_X6_take (Nat.le_of_ble_eq_true rfl) rfl (S_X6_take_95 hl  h) rfl
def F_X6_leastDay_95_34 (k4 : PM → Int32 → Int32 → Int32 → Option PR) (M : PM) (x1 : Int32) (x3 : Int32) (t0 : Int32) : Option PR := lt (x3 + 1) fun y591 => k4 M x1 t0 y591
def F_X6_leastDay_95_4 : Nat → PM → Int32 → Int32 → Int32 → Option PR
  | 0, _, _, _, _ => none
  | n + 1, M, x1, x2, x3 => (if x1 ≤ x3 then some (.inl (some (.int x2)), M) else if ixOK x3 6 = true then if ixOK x1 6 = true then (if mA M 96 x3.toNatClampNeg = mA M 96 x1.toNatClampNeg then if ixOK x3 6 = true then F_X6_leastDay_95_34 (F_X6_leastDay_95_4 n) M x1 x3 (mA M 97 x3.toNatClampNeg) else none else F_X6_leastDay_95_34 (F_X6_leastDay_95_4 n) M x1 x3 x2) else none else none)
def F_X6_leastDay_95 (M : PM) (a1 : Int32) : Option PR := F_X6_leastDay_95_4 FUEL M a1 0 0
set_option maxRecDepth 100000 in
theorem S_X6_leastDay_95_34 {l : Launch} (hl : l.stackTraces = false) {k4 : PM → Int32 → Int32 → Int32 → Option PR} (hk4 : ∀ {M : PM} {x1 : Int32} {x2 : Int32} {x3 : Int32} {r : PR}, k4 M x1 x2 x3 = some r → PW l 0 Y_X6_leastDay k_X6_leastDay_4 [vR 95, vI x1, vI x2, vI x3] [] M r) {M : PM} {x1 : Int32} {x3 : Int32} {t0 : Int32} {r : PR} (h : F_X6_leastDay_95_34 k4 M x1 x3 t0 = some r) : PW l 0 Y_X6_leastDay k_X6_leastDay_34 [vR 95, vI x1, jk, vI x3] [vI t0] M r := by
  unfold F_X6_leastDay_95_34 at h
  refine p_istore_n (Nat.le_of_ble_eq_true rfl) rfl ?_
  have h := lt_h h
  refine p_iinc (Nat.le_of_ble_eq_true rfl) rfl (ci_1 _) rfl ?_
  refine p_goto 4 rfl rfl ?_
  exact p_fg (hk4 h) ⟨Or.inr rfl, Or.inr rfl, Or.inr rfl, Or.inr rfl, trivial⟩
set_option maxRecDepth 100000 in
theorem S_X6_leastDay_95_4 {l : Launch} (hl : l.stackTraces = false) : ∀ (n : Nat) {M : PM} {x1 : Int32} {x2 : Int32} {x3 : Int32} {r : PR}, F_X6_leastDay_95_4  n M x1 x2 x3 = some r → PW l 0 Y_X6_leastDay k_X6_leastDay_4 [vR 95, vI x1, vI x2, vI x3] [] M r := by
  intro n
  induction n with
  | zero => intro M x1 x2 x3 r h; exact nomatch (show (none : Option PR) = some r from h)
  | succ n ih =>
    intro M x1 x2 x3 r h
    rw [F_X6_leastDay_95_4] at h
    refine p_iload_n rfl ?_
    refine p_iload_n rfl ?_
    refine p_icmp_ge h 25 rfl rfl (fun _ h => ?_) (fun _ h => ?_)
    · refine p_iload_n rfl ?_
      exact p_iret rfl h
    · refine p_aload_n rfl ?_
      refine p_getR fk_X6_11 gt_95 rfl rfl ?_
      refine p_iload_n rfl ?_
      refine p_iald gt_96 h (fun h => ?_)
      refine p_aload_n rfl ?_
      refine p_getR fk_X6_11 gt_95 rfl rfl ?_
      refine p_iload_n rfl ?_
      refine p_iald gt_96 h (fun h => ?_)
      refine p_icmp_ne h 21 rfl rfl (fun _ h => ?_) (fun _ h => ?_)
      · refine p_aload_n rfl ?_
        refine p_getR fk_X6_15 gt_95 rfl rfl ?_
        refine p_iload_n rfl ?_
        refine p_iald gt_97 h (fun h => ?_)
        refine p_goto 22 rfl rfl ?_
        exact p_fg (S_X6_leastDay_95_34 hl (fun h => ih h) h) ⟨Or.inr rfl, Or.inr rfl, Or.inl rfl, Or.inr rfl, trivial⟩
      · refine p_iload_n rfl ?_
        exact p_fg (S_X6_leastDay_95_34 hl (fun h => ih h) h) ⟨Or.inr rfl, Or.inr rfl, Or.inl rfl, Or.inr rfl, trivial⟩
set_option maxRecDepth 100000 in
theorem S_X6_leastDay_95 {l : Launch} (hl : l.stackTraces = false) {M : PM} {a1 : Int32} {r : PR} (h : F_X6_leastDay_95 M a1 = some r) : PW l 0 Y_X6_leastDay k_X6_leastDay [vR 95, vI a1, jk, jk] [] M r := by
  unfold F_X6_leastDay_95 at h
  refine p_iconst cn_0 ?_
  refine p_istore_n (Nat.le_of_ble_eq_true rfl) rfl ?_
  refine p_iconst cn_0 ?_
  refine p_istore_n (Nat.le_of_ble_eq_true rfl) rfl ?_
  exact p_fg (S_X6_leastDay_95_4 hl FUEL h) ⟨Or.inr rfl, Or.inr rfl, Or.inr rfl, Or.inr rfl, trivial⟩
set_option maxRecDepth 100000 in
theorem pc_X6_leastDay_95 {l : Launch} (hl : l.stackTraces = false) {M : PM} {a1 : Int32} {r : PR} (h : F_X6_leastDay_95 M a1 = some r) : PC l 0 Y_X6_leastDay [vR 95, vI a1] M r := pc_of hl (by decide +kernel) cok_X6_leastDay (Nat.le_of_ble_eq_true rfl) rfl (S_X6_leastDay_95 hl  h) rfl
