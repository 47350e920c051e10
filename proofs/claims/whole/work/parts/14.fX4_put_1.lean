def F_X4_put_1_3 : Nat → PM → Int32 → Int32 → Option PR
  | 0, _, _, _ => none
  | n + 1, M, x1, x2 => (if x2 < 0 then some (.inl none, M) else (if 500 ≤ mI M 1 1 then some (.inl none, M) else if ixOK (mI M 1 1) 500 = true then lt (x2 + (-8)) fun y1 => F_X4_put_1_3 n (sI (sA M 2 (mI M 1 1).toNatClampNeg ((x1 >>> (x2 &&& 31)) &&& 255)) 1 1 ((mI (sA M 2 (mI M 1 1).toNatClampNeg ((x1 >>> (x2 &&& 31)) &&& 255)) 1 1) + 1)) x1 y1 else none))
def F_X4_put_1 (M : PM) (a1 : Int32) : Option PR := F_X4_put_1_3 FUEL M a1 24
set_option maxRecDepth 100000 in
theorem S_X4_put_1_3 {l : Launch} (hl : l.stackTraces = false) : ∀ (n : Nat) {M : PM} {x1 : Int32} {x2 : Int32} {r : PR}, F_X4_put_1_3  n M x1 x2 = some r → PW l 0 Y_X4_put k_X4_put_3 [vR 1, vI x1, vI x2] [] M r := by
  intro n
  induction n with
  | zero => intro M x1 x2 r h; exact nomatch (show (none : Option PR) = some r from h)
  | succ n ih =>
    intro M x1 x2 r h
    rw [F_X4_put_1_3] at h
    refine p_iload_n rfl ?_
    refine p_if_lt h 26 rfl rfl (fun _ h => ?_) (fun _ h => ?_)
    · exact p_ret rfl h
    · refine p_aload_n rfl ?_
      refine p_getI fk_X4_15 gt_1 rfl ?_
      refine p_sipush cs_500 ?_
      refine p_icmp_ge h 26 rfl rfl (fun _ h => ?_) (fun _ h => ?_)
      · exact p_ret rfl h
      · refine p_aload_n rfl ?_
        refine p_getR fk_X4_11 gt_1 rfl rfl ?_
        refine p_aload_n rfl ?_
        refine p_getI fk_X4_15 gt_1 rfl ?_
        refine p_iload_n rfl ?_
        refine p_iload_n rfl ?_
        refine p_ishr ?_
        refine p_sipush cs_255 ?_
        refine p_iand ?_
        refine p_iast gt_2 h (fun h => ?_)
        refine p_aload_n rfl ?_
        refine p_dup rfl ?_
        refine p_getI fk_X4_15 gt_1 rfl ?_
        refine p_iconst cn_1 ?_
        refine p_iadd ?_
        refine p_putI fk_X4_15 gt_1 rfl ?_
        have h := lt_h h
        refine p_iinc (Nat.le_of_ble_eq_true rfl) rfl (ci_m8 _) rfl ?_
        refine p_goto 2 rfl rfl ?_
        exact p_fg (ih h) ⟨Or.inr rfl, Or.inr rfl, Or.inr rfl, trivial⟩
set_option maxRecDepth 100000 in
theorem S_X4_put_1 {l : Launch} (hl : l.stackTraces = false) {M : PM} {a1 : Int32} {r : PR} (h : F_X4_put_1 M a1 = some r) : PW l 0 Y_X4_put k_X4_put [vR 1, vI a1, jk] [] M r := by
  unfold F_X4_put_1 at h
  refine p_bipush cb_24 ?_
  refine p_istore_n (Nat.le_of_ble_eq_true rfl) rfl ?_
  exact p_fg (S_X4_put_1_3 hl FUEL h) ⟨Or.inr rfl, Or.inr rfl, Or.inr rfl, trivial⟩
set_option maxRecDepth 100000 in
theorem pc_X4_put_1 {l : Launch} (hl : l.stackTraces = false) {M : PM} {a1 : Int32} {r : PR} (h : F_X4_put_1 M a1 = some r) : PC l 0 Y_X4_put [vR 1, vI a1] M r := pc_of hl (by decide +kernel) cok_X4_put (Nat.le_of_ble_eq_true rfl) rfl (S_X4_put_1 hl  h) rfl
def F_X10_feed_0 (M : PM) (a1 : Int32) (a2 : Int32) (a3 : Int32) (a4 : Int32) (a5 : Int32) : Option PR := (if (mI M 1 1) + 20 ≤ 500 then cV (F_X4_put_1 M a1) fun M2 => cV (F_X4_put_1 M2 a2) fun M3 => cV (F_X4_put_1 M3 a3) fun M4 => cV (F_X4_put_1 M4 a4) fun M5 => cV (F_X4_put_1 M5 a5) fun M6 => some (.inl (some (.int (mI M6 1 1))), M6) else some (.inl (some (.int (-1))), M))
set_option maxRecDepth 100000 in
theorem S_X10_feed_0 {l : Launch} (hl : l.stackTraces = false) {M : PM} {a1 : Int32} {a2 : Int32} {a3 : Int32} {a4 : Int32} {a5 : Int32} {r : PR} (h : F_X10_feed_0 M a1 a2 a3 a4 a5 = some r) : PW l 1 Y_X10_feed k_X10_feed [vR 0, vI a1, vI a2, vI a3, vI a4, vI a5] [] M r := by
  unfold F_X10_feed_0 at h
  refine p_aload_n rfl ?_
  refine p_getR fk_X10_21 gt_0 rfl rfl ?_
  refine p_getI fk_X10_94 gt_1 rfl ?_
  refine p_bipush cb_20 ?_
  refine p_iadd ?_
  refine p_sipush cs_500 ?_
  refine p_icmp_le h 9 rfl rfl (fun _ h => ?_) (fun _ h => ?_)
  · refine p_aload_n rfl ?_
    refine p_getR fk_X10_21 gt_0 rfl rfl ?_
    refine p_iload_n rfl ?_
    refine p_cV (av := [_, _]) ⟨mok_X4_put, Or.inl ⟨97, 1, 4, 0, _, rfl, rfl, rfl, gt_1, rfl, ins_X4_put, Or.inr lk_X10_97⟩⟩ (Nat.le_of_ble_eq_true rfl) (Nat.le_of_ble_eq_true rfl) rfl (fun _ h => pc_X4_put_1 hl h) h (fun M2 h => ?_)
    refine p_aload_n rfl ?_
    refine p_getR fk_X10_21 gt_0 rfl rfl ?_
    refine p_iload_n rfl ?_
    refine p_cV (av := [_, _]) ⟨mok_X4_put, Or.inl ⟨97, 1, 4, 0, _, rfl, rfl, rfl, gt_1, rfl, ins_X4_put, Or.inr lk_X10_97⟩⟩ (Nat.le_of_ble_eq_true rfl) (Nat.le_of_ble_eq_true rfl) rfl (fun _ h => pc_X4_put_1 hl h) h (fun M3 h => ?_)
    refine p_aload_n rfl ?_
    refine p_getR fk_X10_21 gt_0 rfl rfl ?_
    refine p_iload_n rfl ?_
    refine p_cV (av := [_, _]) ⟨mok_X4_put, Or.inl ⟨97, 1, 4, 0, _, rfl, rfl, rfl, gt_1, rfl, ins_X4_put, Or.inr lk_X10_97⟩⟩ (Nat.le_of_ble_eq_true rfl) (Nat.le_of_ble_eq_true rfl) rfl (fun _ h => pc_X4_put_1 hl h) h (fun M4 h => ?_)
    refine p_aload_n rfl ?_
    refine p_getR fk_X10_21 gt_0 rfl rfl ?_
    refine p_iload rfl ?_
    refine p_cV (av := [_, _]) ⟨mok_X4_put, Or.inl ⟨97, 1, 4, 0, _, rfl, rfl, rfl, gt_1, rfl, ins_X4_put, Or.inr lk_X10_97⟩⟩ (Nat.le_of_ble_eq_true rfl) (Nat.le_of_ble_eq_true rfl) rfl (fun _ h => pc_X4_put_1 hl h) h (fun M5 h => ?_)
    refine p_aload_n rfl ?_
    refine p_getR fk_X10_21 gt_0 rfl rfl ?_
    refine p_iload rfl ?_
    refine p_cV (av := [_, _]) ⟨mok_X4_put, Or.inl ⟨97, 1, 4, 0, _, rfl, rfl, rfl, gt_1, rfl, ins_X4_put, Or.inr lk_X10_97⟩⟩ (Nat.le_of_ble_eq_true rfl) (Nat.le_of_ble_eq_true rfl) rfl (fun _ h => pc_X4_put_1 hl h) h (fun M6 h => ?_)
    refine p_aload_n rfl ?_
    refine p_getR fk_X10_21 gt_0 rfl rfl ?_
    refine p_getI fk_X10_94 gt_1 rfl ?_
    exact p_iret rfl h
  · refine p_iconst cn_m1 ?_
    exact p_iret rfl h
set_option maxRecDepth 100000 in
theorem pc_X10_feed_0 {l : Launch} (hl : l.stackTraces = false) {M : PM} {a1 : Int32} {a2 : Int32} {a3 : Int32} {a4 : Int32} {a5 : Int32} {r : PR} (h : F_X10_feed_0 M a1 a2 a3 a4 a5 = some r) : PC l 1 Y_X10_feed [vR 0, vI a1, vI a2, vI a3, vI a4, vI a5] M r := pc_of hl (by decide +kernel) cok_X10_feed (Nat.le_of_ble_eq_true rfl) rfl (S_X10_feed_0 hl  h) rfl
def F_X10_need_0 (M : PM) (a1 : Int32) : Option PR := (if a1 = 0 then some (.inr "java/lang/IllegalArgumentException", sI M 0 16 ((mI M 0 16) + 1)) else some (.inl none, M))
set_option maxRecDepth 100000 in
theorem S_X10_need_0 {l : Launch} (hl : l.stackTraces = false) {M : PM} {a1 : Int32} {r : PR} (h : F_X10_need_0 M a1 = some r) : PW l 6 Y_X10_need k_X10_need [vR 0, vI a1] [] M r := by
  unfold F_X10_need_0 at h
  refine p_iload_n rfl ?_
  refine p_if_ne h 13 rfl rfl (fun _ h => ?_) (fun _ h => ?_)
  · refine p_aload_n rfl ?_
    refine p_dup rfl ?_
    refine p_getI fk_X10_361 gt_0 rfl ?_
    refine p_iconst cn_1 ?_
    refine p_iadd ?_
    refine p_putI fk_X10_361 gt_0 rfl ?_
    exact p_throw thr_376 (Nat.le_of_ble_eq_true rfl) (Nat.le_of_ble_eq_true rfl) (si := 11) rfl h
  · exact p_ret rfl h
set_option maxRecDepth 100000 in
theorem pc_X10_need_0 {l : Launch} (hl : l.stackTraces = false) {M : PM} {a1 : Int32} {r : PR} (h : F_X10_need_0 M a1 = some r) : PC l 6 Y_X10_need [vR 0, vI a1] M r := pc_of hl (by decide +kernel) cok_X10_need (Nat.le_of_ble_eq_true rfl) rfl (S_X10_need_0 hl  h) rfl
def F_J9_min_7cf53 (M : PM) (a0 : Int32) (a1 : Int32) : Option PR := (if a1 < a0 then some (.inl (some (.int a1)), M) else some (.inl (some (.int a0)), M))
set_option maxRecDepth 100000 in
theorem S_J9_min_7cf53 {l : Launch} (hl : l.stackTraces = false) {M : PM} {a0 : Int32} {a1 : Int32} {r : PR} (h : F_J9_min_7cf53 M a0 a1 = some r) : PW l 0 Y_J9_min_7cf53 k_J9_min_7cf53 [vI a0, vI a1] [] M r := by
  unfold F_J9_min_7cf53 at h
  refine p_iload_n rfl ?_
  refine p_iload_n rfl ?_
  refine p_icmp_gt h 5 rfl rfl (fun _ h => ?_) (fun _ h => ?_)
  · refine p_iload_n rfl ?_
    exact p_iret rfl h
  · refine p_iload_n rfl ?_
    refine p_goto 6 rfl rfl ?_
    exact p_iret rfl h
set_option maxRecDepth 100000 in
theorem pc_J9_min_7cf53 {l : Launch} (hl : l.stackTraces = false) {M : PM} {a0 : Int32} {a1 : Int32} {r : PR} (h : F_J9_min_7cf53 M a0 a1 = some r) : PC l 0 Y_J9_min_7cf53 [vI a0, vI a1] M r := pc_of hl (by decide +kernel) cok_J9_min_7cf53 (Nat.le_of_ble_eq_true rfl) rfl (S_J9_min_7cf53 hl  h) rfl
def F_X4_open_1 (M : PM) (a1 : Int32) : Option PR := cI (F_J9_min_7cf53 M a1 (mI M 1 1)) fun v8 M7 => some (.inl none, sI (sI (sI (sI (sI M7 1 2 v8) 1 3 0) 1 4 0) 1 5 0) 1 6 (-1))
set_option maxRecDepth 100000 in
theorem S_X4_open_1 {l : Launch} (hl : l.stackTraces = false) {M : PM} {a1 : Int32} {r : PR} (h : F_X4_open_1 M a1 = some r) : PW l 1 Y_X4_open k_X4_open [vR 1, vI a1] [] M r := by
  unfold F_X4_open_1 at h
  refine p_aload_n rfl ?_
  refine p_iload_n rfl ?_
  refine p_aload_n rfl ?_
  refine p_getI fk_X4_15 gt_1 rfl ?_
  refine p_cI (av := [_, _]) ⟨mok_J9_min_7cf53, Or.inr ⟨19, rfl, rfl, sta_J9_min_7cf53, Or.inl lk_X4_19⟩⟩ (Nat.le_of_ble_eq_true rfl) (Nat.le_of_ble_eq_true rfl) rfl (fun _ h => pc_J9_min_7cf53 hl h) h (fun v8 M7 h => ?_)
  refine p_putI fk_X4_25 gt_1 rfl ?_
  refine p_aload_n rfl ?_
  refine p_iconst cn_0 ?_
  refine p_putI fk_X4_28 gt_1 rfl ?_
  refine p_aload_n rfl ?_
  refine p_iconst cn_0 ?_
  refine p_putI fk_X4_31 gt_1 rfl ?_
  refine p_aload_n rfl ?_
  refine p_iconst cn_0 ?_
  refine p_putI fk_X4_34 gt_1 rfl ?_
  refine p_aload_n rfl ?_
  refine p_iconst cn_m1 ?_
  refine p_putI fk_X4_37 gt_1 rfl ?_
  exact p_ret rfl h
set_option maxRecDepth 100000 in
theorem pc_X4_open_1 {l : Launch} (hl : l.stackTraces = false) {M : PM} {a1 : Int32} {r : PR} (h : F_X4_open_1 M a1 = some r) : PC l 1 Y_X4_open [vR 1, vI a1] M r := pc_of hl (by decide +kernel) cok_X4_open (Nat.le_of_ble_eq_true rfl) rfl (S_X4_open_1 hl  h) rfl
def F_X10_all (M : PM) (a0 : Int32) : Option PR := some (.inl (some (.int ((1 <<< (a0 &&& 31)) - 1))), M)
set_option maxRecDepth 100000 in
theorem S_X10_all {l : Launch} (hl : l.stackTraces = false) {M : PM} {a0 : Int32} {r : PR} (h : F_X10_all M a0 = some r) : PW l 0 Y_X10_all k_X10_all [vI a0] [] M r := by
  unfold F_X10_all at h
  refine p_iconst cn_1 ?_
  refine p_iload_n rfl ?_
  refine p_ishl ?_
  refine p_iconst cn_1 ?_
  refine p_isub ?_
  exact p_iret rfl h
set_option maxRecDepth 100000 in
theorem pc_X10_all {l : Launch} (hl : l.stackTraces = false) {M : PM} {a0 : Int32} {r : PR} (h : F_X10_all M a0 = some r) : PC l 0 Y_X10_all [vI a0] M r := pc_of hl (by decide +kernel) cok_X10_all (Nat.le_of_ble_eq_true rfl) rfl (S_X10_all hl  h) rfl
def F_X10_isIn (M : PM) (a0 : Int32) (a1 : Int32) : Option PR := (if (a1 >>> (a0 &&& 31)) &&& 1 = 0 then (if (0 : Int32) &&& 1 = 0 then some (.inl (some (.int 0)), M) else none) else (if (1 : Int32) &&& 1 = 1 then some (.inl (some (.int 1)), M) else none))
set_option maxRecDepth 100000 in
theorem S_X10_isIn {l : Launch} (hl : l.stackTraces = false) {M : PM} {a0 : Int32} {a1 : Int32} {r : PR} (h : F_X10_isIn M a0 a1 = some r) : PW l 0 Y_X10_isIn k_X10_isIn [vI a0, vI a1] [] M r := by
  unfold F_X10_isIn at h
  refine p_iload_n rfl ?_
  refine p_iload_n rfl ?_
  refine p_ishr ?_
  refine p_iconst cn_1 ?_
  refine p_iand ?_
  refine p_if_eq h 8 rfl rfl (fun _ h => ?_) (fun _ h => ?_)
  · refine p_iconst cn_0 ?_
    exact p_zret rfl h
  · refine p_iconst cn_1 ?_
    refine p_goto 9 rfl rfl ?_
    exact p_zret rfl h
set_option maxRecDepth 100000 in
theorem pc_X10_isIn {l : Launch} (hl : l.stackTraces = false) {M : PM} {a0 : Int32} {a1 : Int32} {r : PR} (h : F_X10_isIn M a0 a1 = some r) : PC l 0 Y_X10_isIn [vI a0, vI a1] M r := pc_of hl (by decide +kernel) cok_X10_isIn (Nat.le_of_ble_eq_true rfl) rfl (S_X10_isIn hl  h) rfl
def F_X10_commonDivisor_7 : Nat → PM → Int32 → Int32 → Int32 → Option PR
  | 0, _, _, _, _ => none
  | n + 1, M, x2, x3, x4 => (if 100 ≤ x4 then some (.inl (some (.int x2)), M) else (if x3 ≤ 0 then some (.inl (some (.int x2)), M) else if x3 = 0 then none else lt (x2 - x2 / x3 * x3) fun y9 => lt (x4 + 1) fun y10 => F_X10_commonDivisor_7 n M x3 y9 y10))
def F_X10_commonDivisor (M : PM) (a0 : Int32) (a1 : Int32) : Option PR := F_X10_commonDivisor_7 FUEL M a0 a1 0
set_option maxRecDepth 100000 in
theorem S_X10_commonDivisor_7 {l : Launch} (hl : l.stackTraces = false) : ∀ (n : Nat) {M : PM} {x2 : Int32} {x3 : Int32} {x4 : Int32} {r : PR}, F_X10_commonDivisor_7  n M x2 x3 x4 = some r → PW l 0 Y_X10_commonDivisor k_X10_commonDivisor_7 [jk, jk, vI x2, vI x3, vI x4, jk] [] M r := by
  intro n
  induction n with
  | zero => intro M x2 x3 x4 r h; exact nomatch (show (none : Option PR) = some r from h)
  | succ n ih =>
    intro M x2 x3 x4 r h
    rw [F_X10_commonDivisor_7] at h
    refine p_iload rfl ?_
    refine p_bipush cb_100 ?_
    refine p_icmp_ge h 21 rfl rfl (fun _ h => ?_) (fun _ h => ?_)
    · refine p_iload_n rfl ?_
      exact p_iret rfl h
    · refine p_iload_n rfl ?_
      refine p_if_le h 21 rfl rfl (fun _ h => ?_) (fun _ h => ?_)
      · refine p_iload_n rfl ?_
        exact p_iret rfl h
      · refine p_iload_n rfl ?_
        refine p_iload_n rfl ?_
        refine p_irem h (fun h => ?_)
        have h := lt_h h
        refine p_istore (Nat.le_of_ble_eq_true rfl) rfl ?_
        refine p_iload_n rfl ?_
        refine p_istore_n (Nat.le_of_ble_eq_true rfl) rfl ?_
        refine p_iload rfl ?_
        refine p_istore_n (Nat.le_of_ble_eq_true rfl) rfl ?_
        have h := lt_h h
        refine p_iinc (Nat.le_of_ble_eq_true rfl) rfl (ci_1 _) rfl ?_
        refine p_goto 6 rfl rfl ?_
        exact p_fg (ih h) ⟨Or.inl rfl, Or.inl rfl, Or.inr rfl, Or.inr rfl, Or.inr rfl, Or.inl rfl, trivial⟩
set_option maxRecDepth 100000 in
theorem S_X10_commonDivisor {l : Launch} (hl : l.stackTraces = false) {M : PM} {a0 : Int32} {a1 : Int32} {r : PR} (h : F_X10_commonDivisor M a0 a1 = some r) : PW l 0 Y_X10_commonDivisor k_X10_commonDivisor [vI a0, vI a1, jk, jk, jk, jk] [] M r := by
  unfold F_X10_commonDivisor at h
  refine p_iload_n rfl ?_
  refine p_istore_n (Nat.le_of_ble_eq_true rfl) rfl ?_
  refine p_iload_n rfl ?_
  refine p_istore_n (Nat.le_of_ble_eq_true rfl) rfl ?_
  refine p_iconst cn_0 ?_
  refine p_istore (Nat.le_of_ble_eq_true rfl) rfl ?_
  exact p_fg (S_X10_commonDivisor_7 hl FUEL h) ⟨Or.inl rfl, Or.inl rfl, Or.inr rfl, Or.inr rfl, Or.inr rfl, Or.inl rfl, trivial⟩
set_option maxRecDepth 100000 in
theorem pc_X10_commonDivisor {l : Launch} (hl : l.stackTraces = false) {M : PM} {a0 : Int32} {a1 : Int32} {r : PR} (h : F_X10_commonDivisor M a0 a1 = some r) : PC l 0 Y_X10_commonDivisor [vI a0, vI a1] M r := pc_of hl (by decide +kernel) cok_X10_commonDivisor (Nat.le_of_ble_eq_true rfl) rfl (S_X10_commonDivisor hl  h) rfl
def F_X10_commonTurn (M : PM) (a0 : Int32) (a1 : Int32) : Option PR := cI (F_X10_commonDivisor M a0 a1) fun v12 M11 => (if 100000 < a0 then some (.inl (some (.int a0)), M11) else (if 1 ≤ v12 then if v12 = 0 then none else some (.inl (some (.int ((a0 / v12) * a1))), M11) else some (.inl (some (.int a0)), M11)))
set_option maxRecDepth 100000 in
theorem S_X10_commonTurn {l : Launch} (hl : l.stackTraces = false) {M : PM} {a0 : Int32} {a1 : Int32} {r : PR} (h : F_X10_commonTurn M a0 a1 = some r) : PW l 1 Y_X10_commonTurn k_X10_commonTurn [vI a0, vI a1, jk] [] M r := by
  unfold F_X10_commonTurn at h
  refine p_iload_n rfl ?_
  refine p_iload_n rfl ?_
  refine p_cI (av := [_, _]) ⟨mok_X10_commonDivisor, Or.inr ⟨412, rfl, rfl, sta_X10_commonDivisor, Or.inl lk_X10_412⟩⟩ (Nat.le_of_ble_eq_true rfl) (Nat.le_of_ble_eq_true rfl) rfl (fun _ h => pc_X10_commonDivisor hl h) h (fun v12 M11 h => ?_)
  refine p_istore_n (Nat.le_of_ble_eq_true rfl) rfl ?_
  refine p_iload_n rfl ?_
  refine p_ldc_w co_X10_415 ?_
  refine p_icmp_gt h 10 rfl rfl (fun _ h => ?_) (fun _ h => ?_)
  · refine p_iload_n rfl ?_
    refine p_goto 17 rfl rfl ?_
    exact p_iret rfl h
  · refine p_iload_n rfl ?_
    refine p_iconst cn_1 ?_
    refine p_icmp_ge h 12 rfl rfl (fun _ h => ?_) (fun _ h => ?_)
    · refine p_iload_n rfl ?_
      refine p_iload_n rfl ?_
      refine p_idiv h (fun h => ?_)
      refine p_iload_n rfl ?_
      refine p_imul ?_
      exact p_iret rfl h
    · refine p_iload_n rfl ?_
      refine p_goto 17 rfl rfl ?_
      exact p_iret rfl h
set_option maxRecDepth 100000 in
theorem pc_X10_commonTurn {l : Launch} (hl : l.stackTraces = false) {M : PM} {a0 : Int32} {a1 : Int32} {r : PR} (h : F_X10_commonTurn M a0 a1 = some r) : PC l 1 Y_X10_commonTurn [vI a0, vI a1] M r := pc_of hl (by decide +kernel) cok_X10_commonTurn (Nat.le_of_ble_eq_true rfl) rfl (S_X10_commonTurn hl  h) rfl
def F_X2_turnWith_30_35 (k5 : PM → Int32 → Int32 → Int32 → Option PR) (M : PM) (x1 : Int32) (x3 : Int32) (x4 : Int32) : Option PR := lt (x4 + 1) fun y13 => k5 M x1 x3 y13
def F_X2_turnWith_30_5 : Nat → PM → Int32 → Int32 → Int32 → Option PR
  | 0, _, _, _, _ => none
  | n + 1, M, x1, x3, x4 => (if mI M 30 4 ≤ x4 then some (.inl (some (.int x3)), M) else cI (F_X10_isIn M x4 x1) fun v15 M14 => (if v15 = 0 then F_X2_turnWith_30_35 (F_X2_turnWith_30_5 n) M14 x1 x3 x4 else if ixOK x4 12 = true then cI (F_X10_commonTurn M14 x3 (mA M14 31 x4.toNatClampNeg)) fun v17 M16 => F_X2_turnWith_30_35 (F_X2_turnWith_30_5 n) M16 x1 v17 x4 else none))
def F_X2_turnWith_30 (M : PM) (a1 : Int32) (a2 : Int32) : Option PR := F_X2_turnWith_30_5 FUEL M a1 a2 0
set_option maxRecDepth 100000 in
theorem S_X2_turnWith_30_35 {l : Launch} (hl : l.stackTraces = false) {k5 : PM → Int32 → Int32 → Int32 → Option PR} (hk5 : ∀ {M : PM} {x1 : Int32} {x3 : Int32} {x4 : Int32} {r : PR}, k5 M x1 x3 x4 = some r → PW l 2 Y_X2_turnWith k_X2_turnWith_5 [vR 30, vI x1, jk, vI x3, vI x4] [] M r) {M : PM} {x1 : Int32} {x3 : Int32} {x4 : Int32} {r : PR} (h : F_X2_turnWith_30_35 k5 M x1 x3 x4 = some r) : PW l 2 Y_X2_turnWith k_X2_turnWith_35 [vR 30, vI x1, jk, vI x3, vI x4] [] M r := by
  unfold F_X2_turnWith_30_35 at h
  have h := lt_h h
  refine p_iinc (Nat.le_of_ble_eq_true rfl) rfl (ci_1 _) rfl ?_
  refine p_goto 4 rfl rfl ?_
  exact p_fg (hk5 h) ⟨Or.inr rfl, Or.inr rfl, Or.inl rfl, Or.inr rfl, Or.inr rfl, trivial⟩
set_option maxRecDepth 100000 in
theorem S_X2_turnWith_30_5 {l : Launch} (hl : l.stackTraces = false) : ∀ (n : Nat) {M : PM} {x1 : Int32} {x3 : Int32} {x4 : Int32} {r : PR}, F_X2_turnWith_30_5  n M x1 x3 x4 = some r → PW l 2 Y_X2_turnWith k_X2_turnWith_5 [vR 30, vI x1, jk, vI x3, vI x4] [] M r := by
  intro n
  induction n with
  | zero => intro M x1 x3 x4 r h; exact nomatch (show (none : Option PR) = some r from h)
  | succ n ih =>
    intro M x1 x3 x4 r h
    rw [F_X2_turnWith_30_5] at h
    refine p_iload rfl ?_
    refine p_aload_n rfl ?_
    refine p_getI fk_X2_31 gt_30 rfl ?_
    refine p_icmp_ge h 21 rfl rfl (fun _ h => ?_) (fun _ h => ?_)
    · refine p_iload_n rfl ?_
      exact p_iret rfl h
    · refine p_iload rfl ?_
      refine p_iload_n rfl ?_
      refine p_cI (av := [_, _]) ⟨mok_X10_isIn, Or.inr ⟨61, rfl, rfl, sta_X10_isIn, Or.inr lk_X2_61⟩⟩ (Nat.le_of_ble_eq_true rfl) (Nat.le_of_ble_eq_true rfl) rfl (fun _ h => pc_X10_isIn hl h) h (fun v15 M14 h => ?_)
      refine p_if_eq h 19 rfl rfl (fun _ h => ?_) (fun _ h => ?_)
      · exact p_fg (S_X2_turnWith_30_35 hl (fun h => ih h) h) ⟨Or.inr rfl, Or.inr rfl, Or.inl rfl, Or.inr rfl, Or.inr rfl, trivial⟩
      · refine p_iload_n rfl ?_
        refine p_aload_n rfl ?_
        refine p_getR fk_X2_15 gt_30 rfl rfl ?_
        refine p_iload rfl ?_
        refine p_iald gt_31 h (fun h => ?_)
        refine p_cI (av := [_, _]) ⟨mok_X10_commonTurn, Or.inr ⟨68, rfl, rfl, sta_X10_commonTurn, Or.inr lk_X2_68⟩⟩ (Nat.le_of_ble_eq_true rfl) (Nat.le_of_ble_eq_true rfl) rfl (fun _ h => pc_X10_commonTurn hl h) h (fun v17 M16 h => ?_)
        refine p_istore_n (Nat.le_of_ble_eq_true rfl) rfl ?_
        exact p_fg (S_X2_turnWith_30_35 hl (fun h => ih h) h) ⟨Or.inr rfl, Or.inr rfl, Or.inl rfl, Or.inr rfl, Or.inr rfl, trivial⟩
set_option maxRecDepth 100000 in
theorem S_X2_turnWith_30 {l : Launch} (hl : l.stackTraces = false) {M : PM} {a1 : Int32} {a2 : Int32} {r : PR} (h : F_X2_turnWith_30 M a1 a2 = some r) : PW l 2 Y_X2_turnWith k_X2_turnWith [vR 30, vI a1, vI a2, jk, jk] [] M r := by
  unfold F_X2_turnWith_30 at h
  refine p_iload_n rfl ?_
  refine p_istore_n (Nat.le_of_ble_eq_true rfl) rfl ?_
  refine p_iconst cn_0 ?_
  refine p_istore (Nat.le_of_ble_eq_true rfl) rfl ?_
  exact p_fg (S_X2_turnWith_30_5 hl FUEL h) ⟨Or.inr rfl, Or.inr rfl, Or.inl rfl, Or.inr rfl, Or.inr rfl, trivial⟩
set_option maxRecDepth 100000 in
theorem pc_X2_turnWith_30 {l : Launch} (hl : l.stackTraces = false) {M : PM} {a1 : Int32} {a2 : Int32} {r : PR} (h : F_X2_turnWith_30 M a1 a2 = some r) : PC l 2 Y_X2_turnWith [vR 30, vI a1, vI a2] M r := pc_of hl (by decide +kernel) cok_X2_turnWith (Nat.le_of_ble_eq_true rfl) rfl (S_X2_turnWith_30 hl  h) rfl
def F_X2_turnWith_35_35 (k5 : PM → Int32 → Int32 → Int32 → Option PR) (M : PM) (x1 : Int32) (x3 : Int32) (x4 : Int32) : Option PR := lt (x4 + 1) fun y18 => k5 M x1 x3 y18
def F_X2_turnWith_35_5 : Nat → PM → Int32 → Int32 → Int32 → Option PR
  | 0, _, _, _, _ => none
  | n + 1, M, x1, x3, x4 => (if mI M 35 4 ≤ x4 then some (.inl (some (.int x3)), M) else cI (F_X10_isIn M x4 x1) fun v20 M19 => (if v20 = 0 then F_X2_turnWith_35_35 (F_X2_turnWith_35_5 n) M19 x1 x3 x4 else if ixOK x4 6 = true then cI (F_X10_commonTurn M19 x3 (mA M19 36 x4.toNatClampNeg)) fun v22 M21 => F_X2_turnWith_35_35 (F_X2_turnWith_35_5 n) M21 x1 v22 x4 else none))
def F_X2_turnWith_35 (M : PM) (a1 : Int32) (a2 : Int32) : Option PR := F_X2_turnWith_35_5 FUEL M a1 a2 0
set_option maxRecDepth 100000 in
theorem S_X2_turnWith_35_35 {l : Launch} (hl : l.stackTraces = false) {k5 : PM → Int32 → Int32 → Int32 → Option PR} (hk5 : ∀ {M : PM} {x1 : Int32} {x3 : Int32} {x4 : Int32} {r : PR}, k5 M x1 x3 x4 = some r → PW l 2 Y_X2_turnWith k_X2_turnWith_5 [vR 35, vI x1, jk, vI x3, vI x4] [] M r) {M : PM} {x1 : Int32} {x3 : Int32} {x4 : Int32} {r : PR} (h : F_X2_turnWith_35_35 k5 M x1 x3 x4 = some r) : PW l 2 Y_X2_turnWith k_X2_turnWith_35 [vR 35, vI x1, jk, vI x3, vI x4] [] M r := by
  unfold F_X2_turnWith_35_35 at h
  have h := lt_h h
  refine p_iinc (Nat.le_of_ble_eq_true rfl) rfl (ci_1 _) rfl ?_
  refine p_goto 4 rfl rfl ?_
  exact p_fg (hk5 h) ⟨Or.inr rfl, Or.inr rfl, Or.inl rfl, Or.inr rfl, Or.inr rfl, trivial⟩
set_option maxRecDepth 100000 in
theorem S_X2_turnWith_35_5 {l : Launch} (hl : l.stackTraces = false) : ∀ (n : Nat) {M : PM} {x1 : Int32} {x3 : Int32} {x4 : Int32} {r : PR}, F_X2_turnWith_35_5  n M x1 x3 x4 = some r → PW l 2 Y_X2_turnWith k_X2_turnWith_5 [vR 35, vI x1, jk, vI x3, vI x4] [] M r := by
  intro n
  induction n with
  | zero => intro M x1 x3 x4 r h; exact nomatch (show (none : Option PR) = some r from h)
  | succ n ih =>
    intro M x1 x3 x4 r h
    rw [F_X2_turnWith_35_5] at h
    refine p_iload rfl ?_
    refine p_aload_n rfl ?_
    refine p_getI fk_X2_31 gt_35 rfl ?_
    refine p_icmp_ge h 21 rfl rfl (fun _ h => ?_) (fun _ h => ?_)
    · refine p_iload_n rfl ?_
      exact p_iret rfl h
    · refine p_iload rfl ?_
      refine p_iload_n rfl ?_
      refine p_cI (av := [_, _]) ⟨mok_X10_isIn, Or.inr ⟨61, rfl, rfl, sta_X10_isIn, Or.inr lk_X2_61⟩⟩ (Nat.le_of_ble_eq_true rfl) (Nat.le_of_ble_eq_true rfl) rfl (fun _ h => pc_X10_isIn hl h) h (fun v20 M19 h => ?_)
      refine p_if_eq h 19 rfl rfl (fun _ h => ?_) (fun _ h => ?_)
      · exact p_fg (S_X2_turnWith_35_35 hl (fun h => ih h) h) ⟨Or.inr rfl, Or.inr rfl, Or.inl rfl, Or.inr rfl, Or.inr rfl, trivial⟩
      · refine p_iload_n rfl ?_
        refine p_aload_n rfl ?_
        refine p_getR fk_X2_15 gt_35 rfl rfl ?_
        refine p_iload rfl ?_
        refine p_iald gt_36 h (fun h => ?_)
        refine p_cI (av := [_, _]) ⟨mok_X10_commonTurn, Or.inr ⟨68, rfl, rfl, sta_X10_commonTurn, Or.inr lk_X2_68⟩⟩ (Nat.le_of_ble_eq_true rfl) (Nat.le_of_ble_eq_true rfl) rfl (fun _ h => pc_X10_commonTurn hl h) h (fun v22 M21 h => ?_)
        refine p_istore_n (Nat.le_of_ble_eq_true rfl) rfl ?_
        exact p_fg (S_X2_turnWith_35_35 hl (fun h => ih h) h) ⟨Or.inr rfl, Or.inr rfl, Or.inl rfl, Or.inr rfl, Or.inr rfl, trivial⟩
set_option maxRecDepth 100000 in
theorem S_X2_turnWith_35 {l : Launch} (hl : l.stackTraces = false) {M : PM} {a1 : Int32} {a2 : Int32} {r : PR} (h : F_X2_turnWith_35 M a1 a2 = some r) : PW l 2 Y_X2_turnWith k_X2_turnWith [vR 35, vI a1, vI a2, jk, jk] [] M r := by
  unfold F_X2_turnWith_35 at h
  refine p_iload_n rfl ?_
  refine p_istore_n (Nat.le_of_ble_eq_true rfl) rfl ?_
  refine p_iconst cn_0 ?_
  refine p_istore (Nat.le_of_ble_eq_true rfl) rfl ?_
  exact p_fg (S_X2_turnWith_35_5 hl FUEL h) ⟨Or.inr rfl, Or.inr rfl, Or.inl rfl, Or.inr rfl, Or.inr rfl, trivial⟩
set_option maxRecDepth 100000 in
theorem pc_X2_turnWith_35 {l : Launch} (hl : l.stackTraces = false) {M : PM} {a1 : Int32} {a2 : Int32} {r : PR} (h : F_X2_turnWith_35 M a1 a2 = some r) : PC l 2 Y_X2_turnWith [vR 35, vI a1, vI a2] M r := pc_of hl (by decide +kernel) cok_X2_turnWith (Nat.le_of_ble_eq_true rfl) rfl (S_X2_turnWith_35 hl  h) rfl
def F_X4_blame_1 (M : PM) (a1 : Int32) (a2 : Int32) : Option PR := (if mI M 1 5 = 0 then some (.inl none, sI (sI M 1 5 a1) 1 6 a2) else some (.inl none, M))
set_option maxRecDepth 100000 in
theorem S_X4_blame_1 {l : Launch} (hl : l.stackTraces = false) {M : PM} {a1 : Int32} {a2 : Int32} {r : PR} (h : F_X4_blame_1 M a1 a2 = some r) : PW l 0 Y_X4_blame k_X4_blame [vR 1, vI a1, vI a2] [] M r := by
  unfold F_X4_blame_1 at h
  refine p_aload_n rfl ?_
  refine p_getI fk_X4_34 gt_1 rfl ?_
  refine p_if_ne h 9 rfl rfl (fun _ h => ?_) (fun _ h => ?_)
  · refine p_aload_n rfl ?_
    refine p_iload_n rfl ?_
    refine p_putI fk_X4_34 gt_1 rfl ?_
    refine p_aload_n rfl ?_
    refine p_iload_n rfl ?_
    refine p_putI fk_X4_37 gt_1 rfl ?_
    exact p_ret rfl h
  · exact p_ret rfl h
set_option maxRecDepth 100000 in
theorem pc_X4_blame_1 {l : Launch} (hl : l.stackTraces = false) {M : PM} {a1 : Int32} {a2 : Int32} {r : PR} (h : F_X4_blame_1 M a1 a2 = some r) : PC l 0 Y_X4_blame [vR 1, vI a1, vI a2] M r := pc_of hl (by decide +kernel) cok_X4_blame (Nat.le_of_ble_eq_true rfl) rfl (S_X4_blame_1 hl  h) rfl
def F_X4_isFine_1 (M : PM)  : Option PR := (if mI M 1 5 = 0 then (if (1 : Int32) &&& 1 = 1 then some (.inl (some (.int 1)), M) else none) else (if (0 : Int32) &&& 1 = 0 then some (.inl (some (.int 0)), M) else none))
set_option maxRecDepth 100000 in
theorem S_X4_isFine_1 {l : Launch} (hl : l.stackTraces = false) {M : PM}  {r : PR} (h : F_X4_isFine_1 M  = some r) : PW l 0 Y_X4_isFine k_X4_isFine [vR 1] [] M r := by
  unfold F_X4_isFine_1 at h
  refine p_aload_n rfl ?_
  refine p_getI fk_X4_34 gt_1 rfl ?_
  refine p_if_ne h 5 rfl rfl (fun _ h => ?_) (fun _ h => ?_)
  · refine p_iconst cn_1 ?_
    refine p_goto 6 rfl rfl ?_
    exact p_zret rfl h
  · refine p_iconst cn_0 ?_
    exact p_zret rfl h
set_option maxRecDepth 100000 in
theorem pc_X4_isFine_1 {l : Launch} (hl : l.stackTraces = false) {M : PM}  {r : PR} (h : F_X4_isFine_1 M  = some r) : PC l 0 Y_X4_isFine [vR 1] M r := pc_of hl (by decide +kernel) cok_X4_isFine (Nat.le_of_ble_eq_true rfl) rfl (S_X4_isFine_1 hl  h) rfl
def F_X4_skipBlanks_1_0 : Nat → PM → Option PR
  | 0, _ => none
  | n + 1, M => (if mI M 1 2 ≤ mI M 1 3 then some (.inl none, M) else if ixOK (mI M 1 3) 500 = true then (if mA M 2 (mI M 1 3).toNatClampNeg = 32 then F_X4_skipBlanks_1_0 n (sI M 1 3 ((mI M 1 3) + 1)) else some (.inl none, M)) else none)
def F_X4_skipBlanks_1 (M : PM)  : Option PR := F_X4_skipBlanks_1_0 FUEL M
set_option maxRecDepth 100000 in
theorem S_X4_skipBlanks_1_0 {l : Launch} (hl : l.stackTraces = false) : ∀ (n : Nat) {M : PM}  {r : PR}, F_X4_skipBlanks_1_0  n M  = some r → PW l 0 Y_X4_skipBlanks k_X4_skipBlanks [vR 1] [] M r := by
  intro n
  induction n with
  | zero => intro M  r h; exact nomatch (show (none : Option PR) = some r from h)
  | succ n ih =>
    intro M  r h
    rw [F_X4_skipBlanks_1_0] at h
    refine p_aload_n rfl ?_
    refine p_getI fk_X4_28 gt_1 rfl ?_
    refine p_aload_n rfl ?_
    refine p_getI fk_X4_25 gt_1 rfl ?_
    refine p_icmp_ge h 19 rfl rfl (fun _ h => ?_) (fun _ h => ?_)
    · exact p_ret rfl h
    · refine p_aload_n rfl ?_
      refine p_getR fk_X4_11 gt_1 rfl rfl ?_
      refine p_aload_n rfl ?_
      refine p_getI fk_X4_28 gt_1 rfl ?_
      refine p_iald gt_2 h (fun h => ?_)
      refine p_bipush cb_32 ?_
      refine p_icmp_ne h 19 rfl rfl (fun _ h => ?_) (fun _ h => ?_)
      · refine p_aload_n rfl ?_
        refine p_dup rfl ?_
        refine p_getI fk_X4_28 gt_1 rfl ?_
        refine p_iconst cn_1 ?_
        refine p_iadd ?_
        refine p_putI fk_X4_28 gt_1 rfl ?_
        refine p_goto 0 rfl rfl ?_
        exact p_fg (ih h) ⟨Or.inr rfl, trivial⟩
      · exact p_ret rfl h
set_option maxRecDepth 100000 in
theorem S_X4_skipBlanks_1 {l : Launch} (hl : l.stackTraces = false) {M : PM}  {r : PR} (h : F_X4_skipBlanks_1 M  = some r) : PW l 0 Y_X4_skipBlanks k_X4_skipBlanks [vR 1] [] M r := by
  unfold F_X4_skipBlanks_1 at h
  exact p_fg (S_X4_skipBlanks_1_0 hl FUEL h) ⟨Or.inr rfl, trivial⟩
set_option maxRecDepth 100000 in
theorem pc_X4_skipBlanks_1 {l : Launch} (hl : l.stackTraces = false) {M : PM}  {r : PR} (h : F_X4_skipBlanks_1 M  = some r) : PC l 0 Y_X4_skipBlanks [vR 1] M r := pc_of hl (by decide +kernel) cok_X4_skipBlanks (Nat.le_of_ble_eq_true rfl) rfl (S_X4_skipBlanks_1 hl  h) rfl
def F_X4_isAtEnd_1 (M : PM)  : Option PR := cV (F_X4_skipBlanks_1 M) fun M23 => (if mI M23 1 3 < mI M23 1 2 then (if (0 : Int32) &&& 1 = 0 then some (.inl (some (.int 0)), M23) else none) else (if (1 : Int32) &&& 1 = 1 then some (.inl (some (.int 1)), M23) else none))
set_option maxRecDepth 100000 in
theorem S_X4_isAtEnd_1 {l : Launch} (hl : l.stackTraces = false) {M : PM}  {r : PR} (h : F_X4_isAtEnd_1 M  = some r) : PW l 1 Y_X4_isAtEnd k_X4_isAtEnd [vR 1] [] M r := by
  unfold F_X4_isAtEnd_1 at h
  refine p_aload_n rfl ?_
  refine p_cV (av := [_]) ⟨mok_X4_skipBlanks, Or.inl ⟨40, 1, 4, 0, _, rfl, rfl, rfl, gt_1, rfl, ins_X4_skipBlanks, Or.inl lk_X4_40⟩⟩ (Nat.le_of_ble_eq_true rfl) (Nat.le_of_ble_eq_true rfl) rfl (fun _ h => pc_X4_skipBlanks_1 hl h) h (fun M23 h => ?_)
  refine p_aload_n rfl ?_
  refine p_getI fk_X4_28 gt_1 rfl ?_
  refine p_aload_n rfl ?_
  refine p_getI fk_X4_25 gt_1 rfl ?_
  refine p_icmp_lt h 9 rfl rfl (fun _ h => ?_) (fun _ h => ?_)
  · refine p_iconst cn_0 ?_
    exact p_zret rfl h
  · refine p_iconst cn_1 ?_
    refine p_goto 10 rfl rfl ?_
    exact p_zret rfl h
set_option maxRecDepth 100000 in
theorem pc_X4_isAtEnd_1 {l : Launch} (hl : l.stackTraces = false) {M : PM}  {r : PR} (h : F_X4_isAtEnd_1 M  = some r) : PC l 1 Y_X4_isAtEnd [vR 1] M r := pc_of hl (by decide +kernel) cok_X4_isAtEnd (Nat.le_of_ble_eq_true rfl) rfl (S_X4_isAtEnd_1 hl  h) rfl
def F_X4_takesWord_1_117 (M : PM) (x2 : Int32) : Option PR := (if (1 : Int32) &&& 1 = 1 then some (.inl (some (.int 1)), sI (sI M 1 4 (mI M 1 3)) 1 3 x2) else none)
def F_X4_takesWord_1_69 : Nat → PM → Nat → Int32 → Int32 → Option PR
  | 0, _, _, _, _ => none
  | n + 1, M, x1, x2, x3 => if x1 < 11 then (if nI (sLen.getD x1 0) ≤ x3 then F_X4_takesWord_1_117 M x2 else (if mI M 1 2 ≤ (mI M 1 3) + x3 then F_X4_takesWord_1_117 M x2 else if ixOK ((mI M 1 3) + x3) 500 = true then if x1 < 11 ∧ ixOK x3 (sLen.getD x1 0) = true then (if mA M 2 ((mI M 1 3) + x3).toNatClampNeg = (sByt.getD x1 []).getD x3.toNatClampNeg 0 then lt (x3 + 1) fun y24 => F_X4_takesWord_1_69 n M x1 x2 y24 else (if (0 : Int32) &&& 1 = 0 then some (.inl (some (.int 0)), M) else none)) else none else none)) else none
def F_X4_takesWord_1_45 (M : PM) (x1 : Nat) (x2 : Int32) : Option PR := cI (F_X4_isFine_1 M) fun v26 M25 => (if v26 = 0 then (if (0 : Int32) &&& 1 = 0 then some (.inl (some (.int 0)), M25) else none) else if x1 < 11 then (if x2 - (mI M25 1 3) = nI (sLen.getD x1 0) then F_X4_takesWord_1_69 FUEL M25 x1 x2 0 else (if (0 : Int32) &&& 1 = 0 then some (.inl (some (.int 0)), M25) else none)) else none)
def F_X4_takesWord_1_9 : Nat → PM → Nat → Int32 → Option PR
  | 0, _, _, _ => none
  | n + 1, M, x1, x2 => (if mI M 1 2 ≤ x2 then F_X4_takesWord_1_45 M x1 x2 else if ixOK x2 500 = true then (if mA M 2 x2.toNatClampNeg < 97 then F_X4_takesWord_1_45 M x1 x2 else if ixOK x2 500 = true then (if 122 < mA M 2 x2.toNatClampNeg then F_X4_takesWord_1_45 M x1 x2 else lt (x2 + 1) fun y27 => F_X4_takesWord_1_9 n M x1 y27) else none) else none)
def F_X4_takesWord_1 (M : PM) (a1 : Nat) : Option PR := cV (F_X4_skipBlanks_1 M) fun M28 => lt (mI M28 1 3) fun y29 => F_X4_takesWord_1_9 FUEL M28 a1 y29
set_option maxRecDepth 100000 in
theorem S_X4_takesWord_1_117 {l : Launch} (hl : l.stackTraces = false) {M : PM} {x2 : Int32} {r : PR} (h : F_X4_takesWord_1_117  M x2 = some r) : PW l 7 Y_X4_takesWord k_X4_takesWord_117 [vR 1, jk, vI x2, jk] [] M r := by
  unfold F_X4_takesWord_1_117 at h
  refine p_aload_n rfl ?_
  refine p_aload_n rfl ?_
  refine p_getI fk_X4_28 gt_1 rfl ?_
  refine p_putI fk_X4_31 gt_1 rfl ?_
  refine p_aload_n rfl ?_
  refine p_iload_n rfl ?_
  refine p_putI fk_X4_28 gt_1 rfl ?_
  refine p_iconst cn_1 ?_
  exact p_zret rfl h
set_option maxRecDepth 100000 in
theorem S_X4_takesWord_1_69 {l : Launch} (hl : l.stackTraces = false) : ∀ (n : Nat) {M : PM} {x1 : Nat} {x2 : Int32} {x3 : Int32} {r : PR}, F_X4_takesWord_1_69  n M x1 x2 x3 = some r → PW l 7 Y_X4_takesWord k_X4_takesWord_69 [vR 1, vR (100000 + x1), vI x2, vI x3] [] M r := by
  intro n
  induction n with
  | zero => intro M x1 x2 x3 r h; exact nomatch (show (none : Option PR) = some r from h)
  | succ n ih =>
    intro M x1 x2 x3 r h
    rw [F_X4_takesWord_1_69] at h
    refine p_iload_n rfl ?_
    refine p_aload_n rfl ?_
    refine p_slen hl ls_X4_51 (Nat.le_of_ble_eq_true rfl) (Nat.le_of_ble_eq_true rfl) h (fun h => ?_)
    refine p_icmp_ge h 63 rfl rfl (fun _ h => ?_) (fun _ h => ?_)
    · exact p_fg (S_X4_takesWord_1_117 hl h) ⟨Or.inr rfl, Or.inl rfl, Or.inr rfl, Or.inl rfl, trivial⟩
    · refine p_aload_n rfl ?_
      refine p_getI fk_X4_28 gt_1 rfl ?_
      refine p_iload_n rfl ?_
      refine p_iadd ?_
      refine p_aload_n rfl ?_
      refine p_getI fk_X4_25 gt_1 rfl ?_
      refine p_icmp_ge h 63 rfl rfl (fun _ h => ?_) (fun _ h => ?_)
      · exact p_fg (S_X4_takesWord_1_117 hl h) ⟨Or.inr rfl, Or.inl rfl, Or.inr rfl, Or.inl rfl, trivial⟩
      · refine p_aload_n rfl ?_
        refine p_getR fk_X4_11 gt_1 rfl rfl ?_
        refine p_aload_n rfl ?_
        refine p_getI fk_X4_28 gt_1 rfl ?_
        refine p_iload_n rfl ?_
        refine p_iadd ?_
        refine p_iald gt_2 h (fun h => ?_)
        refine p_aload_n rfl ?_
        refine p_iload_n rfl ?_
        refine p_schr hl ls_X4_56 (Nat.le_of_ble_eq_true rfl) (Nat.le_of_ble_eq_true rfl) h (fun h => ?_)
        refine p_icmp_eq h 61 rfl rfl (fun _ h => ?_) (fun _ h => ?_)
        · have h := lt_h h
          refine p_iinc (Nat.le_of_ble_eq_true rfl) rfl (ci_1 _) rfl ?_
          refine p_goto 37 rfl rfl ?_
          exact p_fg (ih h) ⟨Or.inr rfl, Or.inr rfl, Or.inr rfl, Or.inr rfl, trivial⟩
        · refine p_iconst cn_0 ?_
          exact p_zret rfl h
set_option maxRecDepth 100000 in
theorem S_X4_takesWord_1_45 {l : Launch} (hl : l.stackTraces = false) {M : PM} {x1 : Nat} {x2 : Int32} {r : PR} (h : F_X4_takesWord_1_45  M x1 x2 = some r) : PW l 7 Y_X4_takesWord k_X4_takesWord_45 [vR 1, vR (100000 + x1), vI x2, jk] [] M r := by
  unfold F_X4_takesWord_1_45 at h
  refine p_aload_n rfl ?_
  refine p_cI (av := [_]) ⟨mok_X4_isFine, Or.inl ⟨47, 1, 4, 0, _, rfl, rfl, rfl, gt_1, rfl, ins_X4_isFine, Or.inl lk_X4_47⟩⟩ (Nat.le_of_ble_eq_true rfl) (Nat.le_of_ble_eq_true rfl) rfl (fun _ h => pc_X4_isFine_1 hl h) h (fun v26 M25 h => ?_)
  refine p_if_eq h 33 rfl rfl (fun _ h => ?_) (fun _ h => ?_)
  · refine p_iconst cn_0 ?_
    exact p_zret rfl h
  · refine p_iload_n rfl ?_
    refine p_aload_n rfl ?_
    refine p_getI fk_X4_28 gt_1 rfl ?_
    refine p_isub ?_
    refine p_aload_n rfl ?_
    refine p_slen hl ls_X4_51 (Nat.le_of_ble_eq_true rfl) (Nat.le_of_ble_eq_true rfl) h (fun h => ?_)
    refine p_icmp_eq h 35 rfl rfl (fun _ h => ?_) (fun _ h => ?_)
    · refine p_iconst cn_0 ?_
      refine p_istore_n (Nat.le_of_ble_eq_true rfl) rfl ?_
      exact p_fg (S_X4_takesWord_1_69 hl FUEL h) ⟨Or.inr rfl, Or.inr rfl, Or.inr rfl, Or.inr rfl, trivial⟩
    · refine p_iconst cn_0 ?_
      exact p_zret rfl h
set_option maxRecDepth 100000 in
theorem S_X4_takesWord_1_9 {l : Launch} (hl : l.stackTraces = false) : ∀ (n : Nat) {M : PM} {x1 : Nat} {x2 : Int32} {r : PR}, F_X4_takesWord_1_9  n M x1 x2 = some r → PW l 7 Y_X4_takesWord k_X4_takesWord_9 [vR 1, vR (100000 + x1), vI x2, jk] [] M r := by
  intro n
  induction n with
  | zero => intro M x1 x2 r h; exact nomatch (show (none : Option PR) = some r from h)
  | succ n ih =>
    intro M x1 x2 r h
    rw [F_X4_takesWord_1_9] at h
    refine p_iload_n rfl ?_
    refine p_aload_n rfl ?_
    refine p_getI fk_X4_25 gt_1 rfl ?_
    refine p_icmp_ge h 23 rfl rfl (fun _ h => ?_) (fun _ h => ?_)
    · exact p_fg (S_X4_takesWord_1_45 hl h) ⟨Or.inr rfl, Or.inr rfl, Or.inr rfl, Or.inl rfl, trivial⟩
    · refine p_aload_n rfl ?_
      refine p_getR fk_X4_11 gt_1 rfl rfl ?_
      refine p_iload_n rfl ?_
      refine p_iald gt_2 h (fun h => ?_)
      refine p_bipush cb_97 ?_
      refine p_icmp_lt h 23 rfl rfl (fun _ h => ?_) (fun _ h => ?_)
      · exact p_fg (S_X4_takesWord_1_45 hl h) ⟨Or.inr rfl, Or.inr rfl, Or.inr rfl, Or.inl rfl, trivial⟩
      · refine p_aload_n rfl ?_
        refine p_getR fk_X4_11 gt_1 rfl rfl ?_
        refine p_iload_n rfl ?_
        refine p_iald gt_2 h (fun h => ?_)
        refine p_bipush cb_122 ?_
        refine p_icmp_gt h 23 rfl rfl (fun _ h => ?_) (fun _ h => ?_)
        · exact p_fg (S_X4_takesWord_1_45 hl h) ⟨Or.inr rfl, Or.inr rfl, Or.inr rfl, Or.inl rfl, trivial⟩
        · have h := lt_h h
          refine p_iinc (Nat.le_of_ble_eq_true rfl) rfl (ci_1 _) rfl ?_
          refine p_goto 5 rfl rfl ?_
          exact p_fg (ih h) ⟨Or.inr rfl, Or.inr rfl, Or.inr rfl, Or.inl rfl, trivial⟩
set_option maxRecDepth 100000 in
theorem S_X4_takesWord_1 {l : Launch} (hl : l.stackTraces = false) {M : PM} {a1 : Nat} {r : PR} (h : F_X4_takesWord_1 M a1 = some r) : PW l 7 Y_X4_takesWord k_X4_takesWord [vR 1, vR (100000 + a1), jk, jk] [] M r := by
  unfold F_X4_takesWord_1 at h
  refine p_aload_n rfl ?_
  refine p_cV (av := [_]) ⟨mok_X4_skipBlanks, Or.inl ⟨40, 1, 4, 0, _, rfl, rfl, rfl, gt_1, rfl, ins_X4_skipBlanks, Or.inl lk_X4_40⟩⟩ (Nat.le_of_ble_eq_true rfl) (Nat.le_of_ble_eq_true rfl) rfl (fun _ h => pc_X4_skipBlanks_1 hl h) h (fun M28 h => ?_)
  refine p_aload_n rfl ?_
  refine p_getI fk_X4_28 gt_1 rfl ?_
  have h := lt_h h
  refine p_istore_n (Nat.le_of_ble_eq_true rfl) rfl ?_
  exact p_fg (S_X4_takesWord_1_9 hl FUEL h) ⟨Or.inr rfl, Or.inr rfl, Or.inr rfl, Or.inl rfl, trivial⟩
set_option maxRecDepth 100000 in
theorem pc_X4_takesWord_1 {l : Launch} (hl : l.stackTraces = false) {M : PM} {a1 : Nat} {r : PR} (h : F_X4_takesWord_1 M a1 = some r) : PC l 7 Y_X4_takesWord [vR 1, vR (100000 + a1)] M r := pc_of hl (by decide +kernel) cok_X4_takesWord (Nat.le_of_ble_eq_true rfl) rfl (S_X4_takesWord_1 hl  h) rfl
def F_X4_blameNext_1 (M : PM)  : Option PR := cV (F_X4_skipBlanks_1 M) fun M30 => cV (F_X4_blame_1 M30 1 (mI M30 1 3)) fun M31 => some (.inl none, M31)
set_option maxRecDepth 100000 in
theorem S_X4_blameNext_1 {l : Launch} (hl : l.stackTraces = false) {M : PM}  {r : PR} (h : F_X4_blameNext_1 M  = some r) : PW l 1 Y_X4_blameNext k_X4_blameNext [vR 1] [] M r := by
  unfold F_X4_blameNext_1 at h
  refine p_aload_n rfl ?_
  refine p_cV (av := [_]) ⟨mok_X4_skipBlanks, Or.inl ⟨40, 1, 4, 0, _, rfl, rfl, rfl, gt_1, rfl, ins_X4_skipBlanks, Or.inl lk_X4_40⟩⟩ (Nat.le_of_ble_eq_true rfl) (Nat.le_of_ble_eq_true rfl) rfl (fun _ h => pc_X4_skipBlanks_1 hl h) h (fun M30 h => ?_)
  refine p_aload_n rfl ?_
  refine p_iconst cn_1 ?_
  refine p_aload_n rfl ?_
  refine p_getI fk_X4_28 gt_1 rfl ?_
  refine p_cV (av := [_, _, _]) ⟨mok_X4_blame, Or.inl ⟨43, 1, 4, 0, _, rfl, rfl, rfl, gt_1, rfl, ins_X4_blame, Or.inl lk_X4_43⟩⟩ (Nat.le_of_ble_eq_true rfl) (Nat.le_of_ble_eq_true rfl) rfl (fun _ h => pc_X4_blame_1 hl h) h (fun M31 h => ?_)
  exact p_ret rfl h
set_option maxRecDepth 100000 in
theorem pc_X4_blameNext_1 {l : Launch} (hl : l.stackTraces = false) {M : PM}  {r : PR} (h : F_X4_blameNext_1 M  = some r) : PC l 1 Y_X4_blameNext [vR 1] M r := pc_of hl (by decide +kernel) cok_X4_blameNext (Nat.le_of_ble_eq_true rfl) rfl (S_X4_blameNext_1 hl  h) rfl
def F_X4_takesSign_1 (M : PM) (a1 : Int32) : Option PR := cV (F_X4_skipBlanks_1 M) fun M32 => cI (F_X4_isFine_1 M32) fun v34 M33 => (if v34 = 0 then (if (0 : Int32) &&& 1 = 0 then some (.inl (some (.int 0)), M33) else none) else (if mI M33 1 2 ≤ mI M33 1 3 then (if (0 : Int32) &&& 1 = 0 then some (.inl (some (.int 0)), M33) else none) else if ixOK (mI M33 1 3) 500 = true then (if mA M33 2 (mI M33 1 3).toNatClampNeg = a1 then (if (1 : Int32) &&& 1 = 1 then some (.inl (some (.int 1)), sI (sI M33 1 4 (mI M33 1 3)) 1 3 ((mI (sI M33 1 4 (mI M33 1 3)) 1 3) + 1)) else none) else (if (0 : Int32) &&& 1 = 0 then some (.inl (some (.int 0)), M33) else none)) else none))
set_option maxRecDepth 100000 in
theorem S_X4_takesSign_1 {l : Launch} (hl : l.stackTraces = false) {M : PM} {a1 : Int32} {r : PR} (h : F_X4_takesSign_1 M a1 = some r) : PW l 1 Y_X4_takesSign k_X4_takesSign [vR 1, vI a1] [] M r := by
  unfold F_X4_takesSign_1 at h
  refine p_aload_n rfl ?_
  refine p_cV (av := [_]) ⟨mok_X4_skipBlanks, Or.inl ⟨40, 1, 4, 0, _, rfl, rfl, rfl, gt_1, rfl, ins_X4_skipBlanks, Or.inl lk_X4_40⟩⟩ (Nat.le_of_ble_eq_true rfl) (Nat.le_of_ble_eq_true rfl) rfl (fun _ h => pc_X4_skipBlanks_1 hl h) h (fun M32 h => ?_)
  refine p_aload_n rfl ?_
  refine p_cI (av := [_]) ⟨mok_X4_isFine, Or.inl ⟨47, 1, 4, 0, _, rfl, rfl, rfl, gt_1, rfl, ins_X4_isFine, Or.inl lk_X4_47⟩⟩ (Nat.le_of_ble_eq_true rfl) (Nat.le_of_ble_eq_true rfl) rfl (fun _ h => pc_X4_isFine_1 hl h) h (fun v34 M33 h => ?_)
  refine p_if_eq h 17 rfl rfl (fun _ h => ?_) (fun _ h => ?_)
  · refine p_iconst cn_0 ?_
    exact p_zret rfl h
  · refine p_aload_n rfl ?_
    refine p_getI fk_X4_28 gt_1 rfl ?_
    refine p_aload_n rfl ?_
    refine p_getI fk_X4_25 gt_1 rfl ?_
    refine p_icmp_ge h 17 rfl rfl (fun _ h => ?_) (fun _ h => ?_)
    · refine p_iconst cn_0 ?_
      exact p_zret rfl h
    · refine p_aload_n rfl ?_
      refine p_getR fk_X4_11 gt_1 rfl rfl ?_
      refine p_aload_n rfl ?_
      refine p_getI fk_X4_28 gt_1 rfl ?_
      refine p_iald gt_2 h (fun h => ?_)
      refine p_iload_n rfl ?_
      refine p_icmp_eq h 19 rfl rfl (fun _ h => ?_) (fun _ h => ?_)
      · refine p_aload_n rfl ?_
        refine p_aload_n rfl ?_
        refine p_getI fk_X4_28 gt_1 rfl ?_
        refine p_putI fk_X4_31 gt_1 rfl ?_
        refine p_aload_n rfl ?_
        refine p_dup rfl ?_
        refine p_getI fk_X4_28 gt_1 rfl ?_
        refine p_iconst cn_1 ?_
        refine p_iadd ?_
        refine p_putI fk_X4_28 gt_1 rfl ?_
        refine p_iconst cn_1 ?_
        exact p_zret rfl h
      · refine p_iconst cn_0 ?_
        exact p_zret rfl h
set_option maxRecDepth 100000 in
theorem pc_X4_takesSign_1 {l : Launch} (hl : l.stackTraces = false) {M : PM} {a1 : Int32} {r : PR} (h : F_X4_takesSign_1 M a1 = some r) : PC l 1 Y_X4_takesSign [vR 1, vI a1] M r := pc_of hl (by decide +kernel) cok_X4_takesSign (Nat.le_of_ble_eq_true rfl) rfl (S_X4_takesSign_1 hl  h) rfl
def F_X4_blameTaken_1 (M : PM) (a1 : Int32) : Option PR := cV (F_X4_blame_1 M a1 (mI M 1 4)) fun M35 => some (.inl none, M35)
set_option maxRecDepth 100000 in
theorem S_X4_blameTaken_1 {l : Launch} (hl : l.stackTraces = false) {M : PM} {a1 : Int32} {r : PR} (h : F_X4_blameTaken_1 M a1 = some r) : PW l 1 Y_X4_blameTaken k_X4_blameTaken [vR 1, vI a1] [] M r := by
  unfold F_X4_blameTaken_1 at h
  refine p_aload_n rfl ?_
  refine p_iload_n rfl ?_
  refine p_aload_n rfl ?_
  refine p_getI fk_X4_31 gt_1 rfl ?_
  refine p_cV (av := [_, _, _]) ⟨mok_X4_blame, Or.inl ⟨43, 1, 4, 0, _, rfl, rfl, rfl, gt_1, rfl, ins_X4_blame, Or.inl lk_X4_43⟩⟩ (Nat.le_of_ble_eq_true rfl) (Nat.le_of_ble_eq_true rfl) rfl (fun _ h => pc_X4_blame_1 hl h) h (fun M35 h => ?_)
  exact p_ret rfl h
set_option maxRecDepth 100000 in
theorem pc_X4_blameTaken_1 {l : Launch} (hl : l.stackTraces = false) {M : PM} {a1 : Int32} {r : PR} (h : F_X4_blameTaken_1 M a1 = some r) : PC l 1 Y_X4_blameTaken [vR 1, vI a1] M r := pc_of hl (by decide +kernel) cok_X4_blameTaken (Nat.le_of_ble_eq_true rfl) rfl (S_X4_blameTaken_1 hl  h) rfl
def F_X4_takeNumber_1_131 (M : PM) (x3 : Int32) : Option PR := cI (F_X4_isFine_1 M) fun v37 M36 => (if v37 = 0 then some (.inl (some (.int (-1))), M36) else some (.inl (some (.int x3)), M36))
def F_X4_takeNumber_1_122 (M : PM) (x3 : Int32) : Option PR := cV (F_X4_blame_1 M 2 (mI M 1 4)) fun M38 => F_X4_takeNumber_1_131 M38 x3
def F_X4_takeNumber_1_89 (M : PM) (x1 : Int32) (x2 : Int32) (x3 : Int32) : Option PR := (if mI M 1 3 = mI M 1 4 then cV (F_X4_blame_1 M 1 (mI M 1 4)) fun M39 => F_X4_takeNumber_1_131 M39 x3 else (if x3 < x1 then F_X4_takeNumber_1_122 M x3 else (if x3 ≤ x2 then F_X4_takeNumber_1_131 M x3 else F_X4_takeNumber_1_122 M x3)))
def F_X4_takeNumber_1_14 : Nat → PM → Int32 → Int32 → Int32 → Option PR
  | 0, _, _, _, _ => none
  | n + 1, M, x1, x2, x3 => (if mI M 1 2 ≤ mI M 1 3 then F_X4_takeNumber_1_89 M x1 x2 x3 else if ixOK (mI M 1 3) 500 = true then (if mA M 2 (mI M 1 3).toNatClampNeg < 48 then F_X4_takeNumber_1_89 M x1 x2 x3 else if ixOK (mI M 1 3) 500 = true then (if 57 < mA M 2 (mI M 1 3).toNatClampNeg then F_X4_takeNumber_1_89 M x1 x2 x3 else if ixOK (mI M 1 3) 500 = true then cI (F_J9_min_7cf53 M (((10 * x3) + (mA M 2 (mI M 1 3).toNatClampNeg)) - 48) 1000000) fun v41 M40 => F_X4_takeNumber_1_14 n (sI M40 1 3 ((mI M40 1 3) + 1)) x1 x2 v41 else none) else none) else none)
def F_X4_takeNumber_1 (M : PM) (a1 : Int32) (a2 : Int32) : Option PR := cV (F_X4_skipBlanks_1 M) fun M42 => F_X4_takeNumber_1_14 FUEL (sI M42 1 4 (mI M42 1 3)) a1 a2 0
set_option maxRecDepth 100000 in
theorem S_X4_takeNumber_1_131 {l : Launch} (hl : l.stackTraces = false) {M : PM} {x3 : Int32} {r : PR} (h : F_X4_takeNumber_1_131  M x3 = some r) : PW l 1 Y_X4_takeNumber k_X4_takeNumber_131 [vR 1, jk, jk, vI x3] [] M r := by
  unfold F_X4_takeNumber_1_131 at h
  refine p_aload_n rfl ?_
  refine p_cI (av := [_]) ⟨mok_X4_isFine, Or.inl ⟨47, 1, 4, 0, _, rfl, rfl, rfl, gt_1, rfl, ins_X4_isFine, Or.inl lk_X4_47⟩⟩ (Nat.le_of_ble_eq_true rfl) (Nat.le_of_ble_eq_true rfl) rfl (fun _ h => pc_X4_isFine_1 hl h) h (fun v37 M36 h => ?_)
  refine p_if_eq h 75 rfl rfl (fun _ h => ?_) (fun _ h => ?_)
  · refine p_iconst cn_m1 ?_
    exact p_iret rfl h
  · refine p_iload_n rfl ?_
    refine p_goto 76 rfl rfl ?_
    exact p_iret rfl h
set_option maxRecDepth 100000 in
theorem S_X4_takeNumber_1_122 {l : Launch} (hl : l.stackTraces = false) {M : PM} {x3 : Int32} {r : PR} (h : F_X4_takeNumber_1_122  M x3 = some r) : PW l 1 Y_X4_takeNumber k_X4_takeNumber_122 [vR 1, jk, jk, vI x3] [] M r := by
  unfold F_X4_takeNumber_1_122 at h
  refine p_aload_n rfl ?_
  refine p_iconst cn_2 ?_
  refine p_aload_n rfl ?_
  refine p_getI fk_X4_31 gt_1 rfl ?_
  refine p_cV (av := [_, _, _]) ⟨mok_X4_blame, Or.inl ⟨43, 1, 4, 0, _, rfl, rfl, rfl, gt_1, rfl, ins_X4_blame, Or.inl lk_X4_43⟩⟩ (Nat.le_of_ble_eq_true rfl) (Nat.le_of_ble_eq_true rfl) rfl (fun _ h => pc_X4_blame_1 hl h) h (fun M38 h => ?_)
  exact p_fg (S_X4_takeNumber_1_131 hl h) ⟨Or.inr rfl, Or.inl rfl, Or.inl rfl, Or.inr rfl, trivial⟩
set_option maxRecDepth 100000 in
theorem S_X4_takeNumber_1_89 {l : Launch} (hl : l.stackTraces = false) {M : PM} {x1 : Int32} {x2 : Int32} {x3 : Int32} {r : PR} (h : F_X4_takeNumber_1_89  M x1 x2 x3 = some r) : PW l 1 Y_X4_takeNumber k_X4_takeNumber_89 [vR 1, vI x1, vI x2, vI x3] [] M r := by
  unfold F_X4_takeNumber_1_89 at h
  refine p_aload_n rfl ?_
  refine p_getI fk_X4_28 gt_1 rfl ?_
  refine p_aload_n rfl ?_
  refine p_getI fk_X4_31 gt_1 rfl ?_
  refine p_icmp_ne h 59 rfl rfl (fun _ h => ?_) (fun _ h => ?_)
  · refine p_aload_n rfl ?_
    refine p_iconst cn_1 ?_
    refine p_aload_n rfl ?_
    refine p_getI fk_X4_31 gt_1 rfl ?_
    refine p_cV (av := [_, _, _]) ⟨mok_X4_blame, Or.inl ⟨43, 1, 4, 0, _, rfl, rfl, rfl, gt_1, rfl, ins_X4_blame, Or.inl lk_X4_43⟩⟩ (Nat.le_of_ble_eq_true rfl) (Nat.le_of_ble_eq_true rfl) rfl (fun _ h => pc_X4_blame_1 hl h) h (fun M39 h => ?_)
    refine p_goto 70 rfl rfl ?_
    exact p_fg (S_X4_takeNumber_1_131 hl h) ⟨Or.inr rfl, Or.inl rfl, Or.inl rfl, Or.inr rfl, trivial⟩
  · refine p_iload_n rfl ?_
    refine p_iload_n rfl ?_
    refine p_icmp_lt h 65 rfl rfl (fun _ h => ?_) (fun _ h => ?_)
    · exact p_fg (S_X4_takeNumber_1_122 hl h) ⟨Or.inr rfl, Or.inl rfl, Or.inl rfl, Or.inr rfl, trivial⟩
    · refine p_iload_n rfl ?_
      refine p_iload_n rfl ?_
      refine p_icmp_le h 70 rfl rfl (fun _ h => ?_) (fun _ h => ?_)
      · exact p_fg (S_X4_takeNumber_1_131 hl h) ⟨Or.inr rfl, Or.inl rfl, Or.inl rfl, Or.inr rfl, trivial⟩
      · exact p_fg (S_X4_takeNumber_1_122 hl h) ⟨Or.inr rfl, Or.inl rfl, Or.inl rfl, Or.inr rfl, trivial⟩
set_option maxRecDepth 100000 in
theorem S_X4_takeNumber_1_14 {l : Launch} (hl : l.stackTraces = false) : ∀ (n : Nat) {M : PM} {x1 : Int32} {x2 : Int32} {x3 : Int32} {r : PR}, F_X4_takeNumber_1_14  n M x1 x2 x3 = some r → PW l 1 Y_X4_takeNumber k_X4_takeNumber_14 [vR 1, vI x1, vI x2, vI x3] [] M r := by
  intro n
  induction n with
  | zero => intro M x1 x2 x3 r h; exact nomatch (show (none : Option PR) = some r from h)
  | succ n ih =>
    intro M x1 x2 x3 r h
    rw [F_X4_takeNumber_1_14] at h
    refine p_aload_n rfl ?_
    refine p_getI fk_X4_28 gt_1 rfl ?_
    refine p_aload_n rfl ?_
    refine p_getI fk_X4_25 gt_1 rfl ?_
    refine p_icmp_ge h 48 rfl rfl (fun _ h => ?_) (fun _ h => ?_)
    · exact p_fg (S_X4_takeNumber_1_89 hl h) ⟨Or.inr rfl, Or.inr rfl, Or.inr rfl, Or.inr rfl, trivial⟩
    · refine p_aload_n rfl ?_
      refine p_getR fk_X4_11 gt_1 rfl rfl ?_
      refine p_aload_n rfl ?_
      refine p_getI fk_X4_28 gt_1 rfl ?_
      refine p_iald gt_2 h (fun h => ?_)
      refine p_bipush cb_48 ?_
      refine p_icmp_lt h 48 rfl rfl (fun _ h => ?_) (fun _ h => ?_)
      · exact p_fg (S_X4_takeNumber_1_89 hl h) ⟨Or.inr rfl, Or.inr rfl, Or.inr rfl, Or.inr rfl, trivial⟩
      · refine p_aload_n rfl ?_
        refine p_getR fk_X4_11 gt_1 rfl rfl ?_
        refine p_aload_n rfl ?_
        refine p_getI fk_X4_28 gt_1 rfl ?_
        refine p_iald gt_2 h (fun h => ?_)
        refine p_bipush cb_57 ?_
        refine p_icmp_gt h 48 rfl rfl (fun _ h => ?_) (fun _ h => ?_)
        · exact p_fg (S_X4_takeNumber_1_89 hl h) ⟨Or.inr rfl, Or.inr rfl, Or.inr rfl, Or.inr rfl, trivial⟩
        · refine p_bipush cb_10 ?_
          refine p_iload_n rfl ?_
          refine p_imul ?_
          refine p_aload_n rfl ?_
          refine p_getR fk_X4_11 gt_1 rfl rfl ?_
          refine p_aload_n rfl ?_
          refine p_getI fk_X4_28 gt_1 rfl ?_
          refine p_iald gt_2 h (fun h => ?_)
          refine p_iadd ?_
          refine p_bipush cb_48 ?_
          refine p_isub ?_
          refine p_ldc co_X4_60 ?_
          refine p_cI (av := [_, _]) ⟨mok_J9_min_7cf53, Or.inr ⟨19, rfl, rfl, sta_J9_min_7cf53, Or.inl lk_X4_19⟩⟩ (Nat.le_of_ble_eq_true rfl) (Nat.le_of_ble_eq_true rfl) rfl (fun _ h => pc_J9_min_7cf53 hl h) h (fun v41 M40 h => ?_)
          refine p_istore_n (Nat.le_of_ble_eq_true rfl) rfl ?_
          refine p_aload_n rfl ?_
          refine p_dup rfl ?_
          refine p_getI fk_X4_28 gt_1 rfl ?_
          refine p_iconst cn_1 ?_
          refine p_iadd ?_
          refine p_putI fk_X4_28 gt_1 rfl ?_
          refine p_goto 8 rfl rfl ?_
          exact p_fg (ih h) ⟨Or.inr rfl, Or.inr rfl, Or.inr rfl, Or.inr rfl, trivial⟩
set_option maxRecDepth 100000 in
theorem S_X4_takeNumber_1 {l : Launch} (hl : l.stackTraces = false) {M : PM} {a1 : Int32} {a2 : Int32} {r : PR} (h : F_X4_takeNumber_1 M a1 a2 = some r) : PW l 1 Y_X4_takeNumber k_X4_takeNumber [vR 1, vI a1, vI a2, jk] [] M r := by
  unfold F_X4_takeNumber_1 at h
  refine p_aload_n rfl ?_
  refine p_cV (av := [_]) ⟨mok_X4_skipBlanks, Or.inl ⟨40, 1, 4, 0, _, rfl, rfl, rfl, gt_1, rfl, ins_X4_skipBlanks, Or.inl lk_X4_40⟩⟩ (Nat.le_of_ble_eq_true rfl) (Nat.le_of_ble_eq_true rfl) rfl (fun _ h => pc_X4_skipBlanks_1 hl h) h (fun M42 h => ?_)
  refine p_aload_n rfl ?_
  refine p_aload_n rfl ?_
  refine p_getI fk_X4_28 gt_1 rfl ?_
  refine p_putI fk_X4_31 gt_1 rfl ?_
  refine p_iconst cn_0 ?_
  refine p_istore_n (Nat.le_of_ble_eq_true rfl) rfl ?_
  exact p_fg (S_X4_takeNumber_1_14 hl FUEL h) ⟨Or.inr rfl, Or.inr rfl, Or.inr rfl, Or.inr rfl, trivial⟩
set_option maxRecDepth 100000 in
theorem pc_X4_takeNumber_1 {l : Launch} (hl : l.stackTraces = false) {M : PM} {a1 : Int32} {a2 : Int32} {r : PR} (h : F_X4_takeNumber_1 M a1 a2 = some r) : PC l 1 Y_X4_takeNumber [vR 1, vI a1, vI a2] M r := pc_of hl (by decide +kernel) cok_X4_takeNumber (Nat.le_of_ble_eq_true rfl) rfl (S_X4_takeNumber_1 hl  h) rfl
def F_X0_readStill_29_1_68 (k41 : PM → Int32 → Int32 → Int32 → Option PR) (M : PM) (x3 : Int32) (x5 : Int32) (t0 : Int32) (t1 : Int32) : Option PR := lt (t0 ||| t1) fun y43 => lt (x5 + 1) fun y44 => k41 M x3 y43 y44
def F_X0_readStill_29_1_41 : Nat → PM → Int32 → Int32 → Int32 → Option PR
  | 0, _, _, _, _ => none
  | n + 1, M, x3, x4, x5 => (if mI M 29 5 ≤ x5 then (if x4 = 0 then if ixOK (mI M 29 5) 3 = true then some (.inl none, sI (sA M 41 (mI M 29 5).toNatClampNeg x3) 29 5 ((mI (sA M 41 (mI M 29 5).toNatClampNeg x3) 29 5) + 1)) else none else some (.inl none, M)) else if ixOK x5 3 = true then (if mA M 41 x5.toNatClampNeg = x3 then F_X0_readStill_29_1_68 (F_X0_readStill_29_1_41 n) M x3 x5 x4 1 else F_X0_readStill_29_1_68 (F_X0_readStill_29_1_41 n) M x3 x5 x4 0) else none)
def F_X0_readStill_29_1_36 (M : PM) (x3 : Int32) (t0 : Int32) : Option PR := F_X0_readStill_29_1_41 FUEL M x3 t0 0
def F_X0_readStill_29_1 (M : PM) (a2 : Int32) : Option PR := (if a2 = 0 then cV (F_X4_blameTaken_1 M 3) fun M45 => some (.inl none, M45) else (if mI M 29 5 < 3 then cI (F_X4_takeNumber_1 M 0 99999) fun v47 M46 => (if v47 = (-1) then F_X0_readStill_29_1_36 M46 v47 1 else F_X0_readStill_29_1_36 M46 v47 0) else cV (F_X4_blameTaken_1 M 3) fun M48 => some (.inl none, M48)))
set_option maxRecDepth 100000 in
theorem S_X0_readStill_29_1_68 {l : Launch} (hl : l.stackTraces = false) {k41 : PM → Int32 → Int32 → Int32 → Option PR} (hk41 : ∀ {M : PM} {x3 : Int32} {x4 : Int32} {x5 : Int32} {r : PR}, k41 M x3 x4 x5 = some r → PW l 2 Y_X0_readStill k_X0_readStill_41 [vR 29, jk, jk, vI x3, vI x4, vI x5] [] M r) {M : PM} {x3 : Int32} {x5 : Int32} {t0 : Int32} {t1 : Int32} {r : PR} (h : F_X0_readStill_29_1_68 k41 M x3 x5 t0 t1 = some r) : PW l 2 Y_X0_readStill k_X0_readStill_68 [vR 29, jk, jk, vI x3, jk, vI x5] [vI t1, vI t0] M r := by
  unfold F_X0_readStill_29_1_68 at h
  refine p_ior ?_
  have h := lt_h h
  refine p_istore (Nat.le_of_ble_eq_true rfl) rfl ?_
  have h := lt_h h
  refine p_iinc (Nat.le_of_ble_eq_true rfl) rfl (ci_1 _) rfl ?_
  refine p_goto 24 rfl rfl ?_
  exact p_fg (hk41 h) ⟨Or.inr rfl, Or.inl rfl, Or.inl rfl, Or.inr rfl, Or.inr rfl, Or.inr rfl, trivial⟩
set_option maxRecDepth 100000 in
theorem S_X0_readStill_29_1_41 {l : Launch} (hl : l.stackTraces = false) : ∀ (n : Nat) {M : PM} {x3 : Int32} {x4 : Int32} {x5 : Int32} {r : PR}, F_X0_readStill_29_1_41  n M x3 x4 x5 = some r → PW l 2 Y_X0_readStill k_X0_readStill_41 [vR 29, jk, jk, vI x3, vI x4, vI x5] [] M r := by
  intro n
  induction n with
  | zero => intro M x3 x4 x5 r h; exact nomatch (show (none : Option PR) = some r from h)
  | succ n ih =>
    intro M x3 x4 x5 r h
    rw [F_X0_readStill_29_1_41] at h
    refine p_iload rfl ?_
    refine p_aload_n rfl ?_
    refine p_getI fk_X0_50 gt_29 rfl ?_
    refine p_icmp_ge h 42 rfl rfl (fun _ h => ?_) (fun _ h => ?_)
    · refine p_iload rfl ?_
      refine p_if_ne h 56 rfl rfl (fun _ h => ?_) (fun _ h => ?_)
      · refine p_aload_n rfl ?_
        refine p_getR fk_X0_27 gt_29 rfl rfl ?_
        refine p_aload_n rfl ?_
        refine p_getI fk_X0_50 gt_29 rfl ?_
        refine p_iload_n rfl ?_
        refine p_iast gt_41 h (fun h => ?_)
        refine p_aload_n rfl ?_
        refine p_dup rfl ?_
        refine p_getI fk_X0_50 gt_29 rfl ?_
        refine p_iconst cn_1 ?_
        refine p_iadd ?_
        refine p_putI fk_X0_50 gt_29 rfl ?_
        exact p_ret rfl h
      · exact p_ret rfl h
    · refine p_iload rfl ?_
      refine p_aload_n rfl ?_
      refine p_getR fk_X0_27 gt_29 rfl rfl ?_
      refine p_iload rfl ?_
      refine p_iald gt_41 h (fun h => ?_)
      refine p_iload_n rfl ?_
      refine p_icmp_ne h 37 rfl rfl (fun _ h => ?_) (fun _ h => ?_)
      · refine p_iconst cn_1 ?_
        refine p_goto 38 rfl rfl ?_
        exact p_fg (S_X0_readStill_29_1_68 hl (fun h => ih h) h) ⟨Or.inr rfl, Or.inl rfl, Or.inl rfl, Or.inr rfl, Or.inl rfl, Or.inr rfl, trivial⟩
      · refine p_iconst cn_0 ?_
        exact p_fg (S_X0_readStill_29_1_68 hl (fun h => ih h) h) ⟨Or.inr rfl, Or.inl rfl, Or.inl rfl, Or.inr rfl, Or.inl rfl, Or.inr rfl, trivial⟩
set_option maxRecDepth 100000 in
theorem S_X0_readStill_29_1_36 {l : Launch} (hl : l.stackTraces = false) {M : PM} {x3 : Int32} {t0 : Int32} {r : PR} (h : F_X0_readStill_29_1_36  M x3 t0 = some r) : PW l 2 Y_X0_readStill k_X0_readStill_36 [vR 29, jk, jk, vI x3, jk, jk] [vI t0] M r := by
  unfold F_X0_readStill_29_1_36 at h
  refine p_istore (Nat.le_of_ble_eq_true rfl) rfl ?_
  refine p_iconst cn_0 ?_
  refine p_istore (Nat.le_of_ble_eq_true rfl) rfl ?_
  exact p_fg (S_X0_readStill_29_1_41 hl FUEL h) ⟨Or.inr rfl, Or.inl rfl, Or.inl rfl, Or.inr rfl, Or.inr rfl, Or.inr rfl, trivial⟩
set_option maxRecDepth 100000 in
theorem S_X0_readStill_29_1 {l : Launch} (hl : l.stackTraces = false) {M : PM} {a2 : Int32} {r : PR} (h : F_X0_readStill_29_1 M a2 = some r) : PW l 2 Y_X0_readStill k_X0_readStill [vR 29, vR 1, vI a2, jk, jk, jk] [] M r := by
  unfold F_X0_readStill_29_1 at h
  refine p_iload_n rfl ?_
  refine p_if_eq h 6 rfl rfl (fun _ h => ?_) (fun _ h => ?_)
  · refine p_aload_n rfl ?_
    refine p_iconst cn_3 ?_
    refine p_cV (av := [_, _]) ⟨mok_X4_blameTaken, Or.inl ⟨130, 1, 4, 0, _, rfl, rfl, rfl, gt_1, rfl, ins_X4_blameTaken, Or.inr lk_X0_130⟩⟩ (Nat.le_of_ble_eq_true rfl) (Nat.le_of_ble_eq_true rfl) rfl (fun _ h => pc_X4_blameTaken_1 hl h) h (fun M45 h => ?_)
    exact p_ret rfl h
  · refine p_aload_n rfl ?_
    refine p_getI fk_X0_50 gt_29 rfl ?_
    refine p_iconst cn_3 ?_
    refine p_icmp_lt h 10 rfl rfl (fun _ h => ?_) (fun _ h => ?_)
    · refine p_aload_n rfl ?_
      refine p_iconst cn_0 ?_
      refine p_ldc co_X0_142 ?_
      refine p_cI (av := [_, _, _]) ⟨mok_X4_takeNumber, Or.inl ⟨133, 1, 4, 0, _, rfl, rfl, rfl, gt_1, rfl, ins_X4_takeNumber, Or.inr lk_X0_133⟩⟩ (Nat.le_of_ble_eq_true rfl) (Nat.le_of_ble_eq_true rfl) rfl (fun _ h => pc_X4_takeNumber_1 hl h) h (fun v47 M46 h => ?_)
      refine p_istore_n (Nat.le_of_ble_eq_true rfl) rfl ?_
      refine p_iload_n rfl ?_
      refine p_iconst cn_m1 ?_
      refine p_icmp_ne h 20 rfl rfl (fun _ h => ?_) (fun _ h => ?_)
      · refine p_iconst cn_1 ?_
        refine p_goto 21 rfl rfl ?_
        exact p_fg (S_X0_readStill_29_1_36 hl h) ⟨Or.inr rfl, Or.inl rfl, Or.inl rfl, Or.inr rfl, Or.inl rfl, Or.inl rfl, trivial⟩
      · refine p_iconst cn_0 ?_
        exact p_fg (S_X0_readStill_29_1_36 hl h) ⟨Or.inr rfl, Or.inl rfl, Or.inl rfl, Or.inr rfl, Or.inl rfl, Or.inl rfl, trivial⟩
    · refine p_aload_n rfl ?_
      refine p_iconst cn_3 ?_
      refine p_cV (av := [_, _]) ⟨mok_X4_blameTaken, Or.inl ⟨130, 1, 4, 0, _, rfl, rfl, rfl, gt_1, rfl, ins_X4_blameTaken, Or.inr lk_X0_130⟩⟩ (Nat.le_of_ble_eq_true rfl) (Nat.le_of_ble_eq_true rfl) rfl (fun _ h => pc_X4_blameTaken_1 hl h) h (fun M48 h => ?_)
      exact p_ret rfl h
set_option maxRecDepth 100000 in
theorem pc_X0_readStill_29_1 {l : Launch} (hl : l.stackTraces = false) {M : PM} {a2 : Int32} {r : PR} (h : F_X0_readStill_29_1 M a2 = some r) : PC l 2 Y_X0_readStill [vR 29, vR 1, vI a2] M r := pc_of hl (by decide +kernel) cok_X0_readStill (Nat.le_of_ble_eq_true rfl) rfl (S_X0_readStill_29_1 hl  h) rfl
def F_X2_isLaw_30 (M : PM) (a1 : Int32) : Option PR := (if a1 < 0 then (if (0 : Int32) &&& 1 = 0 then some (.inl (some (.int 0)), M) else none) else (if mI M 30 4 ≤ a1 then (if (0 : Int32) &&& 1 = 0 then some (.inl (some (.int 0)), M) else none) else (if (1 : Int32) &&& 1 = 1 then some (.inl (some (.int 1)), M) else none)))
set_option maxRecDepth 100000 in
theorem S_X2_isLaw_30 {l : Launch} (hl : l.stackTraces = false) {M : PM} {a1 : Int32} {r : PR} (h : F_X2_isLaw_30 M a1 = some r) : PW l 0 Y_X2_isLaw k_X2_isLaw [vR 30, vI a1] [] M r := by
  unfold F_X2_isLaw_30 at h
  refine p_iload_n rfl ?_
  refine p_if_lt h 8 rfl rfl (fun _ h => ?_) (fun _ h => ?_)
  · refine p_iconst cn_0 ?_
    exact p_zret rfl h
  · refine p_iload_n rfl ?_
    refine p_aload_n rfl ?_
    refine p_getI fk_X2_31 gt_30 rfl ?_
    refine p_icmp_ge h 8 rfl rfl (fun _ h => ?_) (fun _ h => ?_)
    · refine p_iconst cn_0 ?_
      exact p_zret rfl h
    · refine p_iconst cn_1 ?_
      refine p_goto 9 rfl rfl ?_
      exact p_zret rfl h
set_option maxRecDepth 100000 in
theorem pc_X2_isLaw_30 {l : Launch} (hl : l.stackTraces = false) {M : PM} {a1 : Int32} {r : PR} (h : F_X2_isLaw_30 M a1 = some r) : PC l 0 Y_X2_isLaw [vR 30, vI a1] M r := pc_of hl (by decide +kernel) cok_X2_isLaw (Nat.le_of_ble_eq_true rfl) rfl (S_X2_isLaw_30 hl  h) rfl
def F_X2_weekOf_30 (M : PM) (a1 : Int32) : Option PR := cI (F_X2_isLaw_30 M a1) fun v50 M49 => (if v50 = 0 then some (.inl (some (.int 0)), M49) else if ixOK a1 12 = true then some (.inl (some (.int (mA M49 31 a1.toNatClampNeg))), M49) else none)
set_option maxRecDepth 100000 in
theorem S_X2_weekOf_30 {l : Launch} (hl : l.stackTraces = false) {M : PM} {a1 : Int32} {r : PR} (h : F_X2_weekOf_30 M a1 = some r) : PW l 1 Y_X2_weekOf k_X2_weekOf [vR 30, vI a1] [] M r := by
  unfold F_X2_weekOf_30 at h
  refine p_aload_n rfl ?_
  refine p_iload_n rfl ?_
  refine p_cI (av := [_, _]) ⟨mok_X2_isLaw, Or.inl ⟨50, 30, 2, 0, _, rfl, rfl, rfl, gt_30, rfl, ins_X2_isLaw, Or.inl lk_X2_50⟩⟩ (Nat.le_of_ble_eq_true rfl) (Nat.le_of_ble_eq_true rfl) rfl (fun _ h => pc_X2_isLaw_30 hl h) h (fun v50 M49 h => ?_)
  refine p_if_eq h 9 rfl rfl (fun _ h => ?_) (fun _ h => ?_)
  · refine p_iconst cn_0 ?_
    exact p_iret rfl h
  · refine p_aload_n rfl ?_
    refine p_getR fk_X2_15 gt_30 rfl rfl ?_
    refine p_iload_n rfl ?_
    refine p_iald gt_31 h (fun h => ?_)
    refine p_goto 10 rfl rfl ?_
    exact p_iret rfl h
set_option maxRecDepth 100000 in
theorem pc_X2_weekOf_30 {l : Launch} (hl : l.stackTraces = false) {M : PM} {a1 : Int32} {r : PR} (h : F_X2_weekOf_30 M a1 = some r) : PC l 1 Y_X2_weekOf [vR 30, vI a1] M r := pc_of hl (by decide +kernel) cok_X2_weekOf (Nat.le_of_ble_eq_true rfl) rfl (S_X2_weekOf_30 hl  h) rfl
def F_X0_readSlip_29_1_73 (M : PM) (x3 : Int32) (x4 : Int32) (t0 : Int32) : Option PR := (if t0 = (-1) then some (.inl none, M) else if ixOK ((x3 * 12) + x4) 120 = true then some (.inl none, sA M 40 ((x3 * 12) + x4).toNatClampNeg t0) else none)
def F_X0_readSlip_29_1_45 (M : PM) (x3 : Int32) (t0 : Int32) : Option PR := (if t0 = (-1) then F_X0_readSlip_29_1_73 M x3 t0 (-1) else cI (F_X2_weekOf_30 M t0) fun v52 M51 => cI (F_X4_takeNumber_1 M51 0 (v52 - 1)) fun v54 M53 => F_X0_readSlip_29_1_73 M53 x3 t0 v54)
def F_X0_readSlip_29_1 (M : PM) (a2 : Int32) : Option PR := (if a2 = 0 then cV (F_X4_blameTaken_1 M 3) fun M59 => some (.inl none, M59) else cI (F_X4_takeNumber_1 M 0 ((mI M 29 4) - 1)) fun v56 M55 => (if v56 = (-1) then F_X0_readSlip_29_1_45 M55 v56 (-1) else cI (F_X4_takeNumber_1 M55 0 ((mI M55 30 4) - 1)) fun v58 M57 => F_X0_readSlip_29_1_45 M57 v56 v58))
set_option maxRecDepth 100000 in
theorem S_X0_readSlip_29_1_73 {l : Launch} (hl : l.stackTraces = false) {M : PM} {x3 : Int32} {x4 : Int32} {t0 : Int32} {r : PR} (h : F_X0_readSlip_29_1_73  M x3 x4 t0 = some r) : PW l 2 Y_X0_readSlip k_X0_readSlip_73 [vR 29, jk, jk, vI x3, vI x4, jk] [vI t0] M r := by
  unfold F_X0_readSlip_29_1_73 at h
  refine p_istore (Nat.le_of_ble_eq_true rfl) rfl ?_
  refine p_iload rfl ?_
  refine p_iconst cn_m1 ?_
  refine p_icmp_eq h 55 rfl rfl (fun _ h => ?_) (fun _ h => ?_)
  · exact p_ret rfl h
  · refine p_aload_n rfl ?_
    refine p_getR fk_X0_23 gt_29 rfl rfl ?_
    refine p_iload_n rfl ?_
    refine p_bipush cb_12 ?_
    refine p_imul ?_
    refine p_iload rfl ?_
    refine p_iadd ?_
    refine p_iload rfl ?_
    refine p_iast gt_40 h (fun h => ?_)
    exact p_ret rfl h
set_option maxRecDepth 100000 in
theorem S_X0_readSlip_29_1_45 {l : Launch} (hl : l.stackTraces = false) {M : PM} {x3 : Int32} {t0 : Int32} {r : PR} (h : F_X0_readSlip_29_1_45  M x3 t0 = some r) : PW l 2 Y_X0_readSlip k_X0_readSlip_45 [vR 29, vR 1, jk, vI x3, jk, jk] [vI t0] M r := by
  unfold F_X0_readSlip_29_1_45 at h
  refine p_istore (Nat.le_of_ble_eq_true rfl) rfl ?_
  refine p_iload rfl ?_
  refine p_iconst cn_m1 ?_
  refine p_icmp_ne h 33 rfl rfl (fun _ h => ?_) (fun _ h => ?_)
  · refine p_iconst cn_m1 ?_
    refine p_goto 42 rfl rfl ?_
    exact p_fg (S_X0_readSlip_29_1_73 hl h) ⟨Or.inr rfl, Or.inl rfl, Or.inl rfl, Or.inr rfl, Or.inr rfl, Or.inl rfl, trivial⟩
  · refine p_aload_n rfl ?_
    refine p_iconst cn_0 ?_
    refine p_aload_n rfl ?_
    refine p_getR fk_X0_14 gt_29 rfl rfl ?_
    refine p_iload rfl ?_
    refine p_cI (av := [_, _]) ⟨mok_X2_weekOf, Or.inl ⟨139, 30, 2, 0, _, rfl, rfl, rfl, gt_30, rfl, ins_X2_weekOf, Or.inr lk_X0_139⟩⟩ (Nat.le_of_ble_eq_true rfl) (Nat.le_of_ble_eq_true rfl) rfl (fun _ h => pc_X2_weekOf_30 hl h) h (fun v52 M51 h => ?_)
    refine p_iconst cn_1 ?_
    refine p_isub ?_
    refine p_cI (av := [_, _, _]) ⟨mok_X4_takeNumber, Or.inl ⟨133, 1, 4, 0, _, rfl, rfl, rfl, gt_1, rfl, ins_X4_takeNumber, Or.inr lk_X0_133⟩⟩ (Nat.le_of_ble_eq_true rfl) (Nat.le_of_ble_eq_true rfl) rfl (fun _ h => pc_X4_takeNumber_1 hl h) h (fun v54 M53 h => ?_)
    exact p_fg (S_X0_readSlip_29_1_73 hl h) ⟨Or.inr rfl, Or.inl rfl, Or.inl rfl, Or.inr rfl, Or.inr rfl, Or.inl rfl, trivial⟩
set_option maxRecDepth 100000 in
theorem S_X0_readSlip_29_1 {l : Launch} (hl : l.stackTraces = false) {M : PM} {a2 : Int32} {r : PR} (h : F_X0_readSlip_29_1 M a2 = some r) : PW l 2 Y_X0_readSlip k_X0_readSlip [vR 29, vR 1, vI a2, jk, jk, jk] [] M r := by
  unfold F_X0_readSlip_29_1 at h
  refine p_iload_n rfl ?_
  refine p_if_ne h 6 rfl rfl (fun _ h => ?_) (fun _ h => ?_)
  · refine p_aload_n rfl ?_
    refine p_iconst cn_3 ?_
    refine p_cV (av := [_, _]) ⟨mok_X4_blameTaken, Or.inl ⟨130, 1, 4, 0, _, rfl, rfl, rfl, gt_1, rfl, ins_X4_blameTaken, Or.inr lk_X0_130⟩⟩ (Nat.le_of_ble_eq_true rfl) (Nat.le_of_ble_eq_true rfl) rfl (fun _ h => pc_X4_blameTaken_1 hl h) h (fun M59 h => ?_)
    exact p_ret rfl h
  · refine p_aload_n rfl ?_
    refine p_iconst cn_0 ?_
    refine p_aload_n rfl ?_
    refine p_getI fk_X0_47 gt_29 rfl ?_
    refine p_iconst cn_1 ?_
    refine p_isub ?_
    refine p_cI (av := [_, _, _]) ⟨mok_X4_takeNumber, Or.inl ⟨133, 1, 4, 0, _, rfl, rfl, rfl, gt_1, rfl, ins_X4_takeNumber, Or.inr lk_X0_133⟩⟩ (Nat.le_of_ble_eq_true rfl) (Nat.le_of_ble_eq_true rfl) rfl (fun _ h => pc_X4_takeNumber_1 hl h) h (fun v56 M55 h => ?_)
    refine p_istore_n (Nat.le_of_ble_eq_true rfl) rfl ?_
    refine p_iload_n rfl ?_
    refine p_iconst cn_m1 ?_
    refine p_icmp_ne h 19 rfl rfl (fun _ h => ?_) (fun _ h => ?_)
    · refine p_iconst cn_m1 ?_
      refine p_goto 27 rfl rfl ?_
      exact p_fg (S_X0_readSlip_29_1_45 hl h) ⟨Or.inr rfl, Or.inr rfl, Or.inl rfl, Or.inr rfl, Or.inl rfl, Or.inl rfl, trivial⟩
    · refine p_aload_n rfl ?_
      refine p_iconst cn_0 ?_
      refine p_aload_n rfl ?_
      refine p_getR fk_X0_14 gt_29 rfl rfl ?_
      refine p_getI fk_X0_63 gt_30 rfl ?_
      refine p_iconst cn_1 ?_
      refine p_isub ?_
      refine p_cI (av := [_, _, _]) ⟨mok_X4_takeNumber, Or.inl ⟨133, 1, 4, 0, _, rfl, rfl, rfl, gt_1, rfl, ins_X4_takeNumber, Or.inr lk_X0_133⟩⟩ (Nat.le_of_ble_eq_true rfl) (Nat.le_of_ble_eq_true rfl) rfl (fun _ h => pc_X4_takeNumber_1 hl h) h (fun v58 M57 h => ?_)
      exact p_fg (S_X0_readSlip_29_1_45 hl h) ⟨Or.inr rfl, Or.inr rfl, Or.inl rfl, Or.inr rfl, Or.inl rfl, Or.inl rfl, trivial⟩
set_option maxRecDepth 100000 in
theorem pc_X0_readSlip_29_1 {l : Launch} (hl : l.stackTraces = false) {M : PM} {a2 : Int32} {r : PR} (h : F_X0_readSlip_29_1 M a2 = some r) : PC l 2 Y_X0_readSlip [vR 29, vR 1, vI a2] M r := pc_of hl (by decide +kernel) cok_X0_readSlip (Nat.le_of_ble_eq_true rfl) rfl (S_X0_readSlip_29_1 hl  h) rfl
def F_X0_readHouse_29_1 (M : PM) (a2 : Int32) : Option PR := (if a2 = 0 then cV (F_X4_blameTaken_1 M 3) fun M60 => some (.inl none, M60) else (if mI M 29 4 < 10 then some (.inl none, sI M 29 4 ((mI M 29 4) + 1)) else cV (F_X4_blameTaken_1 M 3) fun M61 => some (.inl none, M61)))
set_option maxRecDepth 100000 in
theorem S_X0_readHouse_29_1 {l : Launch} (hl : l.stackTraces = false) {M : PM} {a2 : Int32} {r : PR} (h : F_X0_readHouse_29_1 M a2 = some r) : PW l 2 Y_X0_readHouse k_X0_readHouse [vR 29, vR 1, vI a2] [] M r := by
  unfold F_X0_readHouse_29_1 at h
  refine p_iload_n rfl ?_
  refine p_if_eq h 6 rfl rfl (fun _ h => ?_) (fun _ h => ?_)
  · refine p_aload_n rfl ?_
    refine p_iconst cn_3 ?_
    refine p_cV (av := [_, _]) ⟨mok_X4_blameTaken, Or.inl ⟨130, 1, 4, 0, _, rfl, rfl, rfl, gt_1, rfl, ins_X4_blameTaken, Or.inr lk_X0_130⟩⟩ (Nat.le_of_ble_eq_true rfl) (Nat.le_of_ble_eq_true rfl) rfl (fun _ h => pc_X4_blameTaken_1 hl h) h (fun M60 h => ?_)
    exact p_ret rfl h
  · refine p_aload_n rfl ?_
    refine p_getI fk_X0_47 gt_29 rfl ?_
    refine p_bipush cb_10 ?_
    refine p_icmp_lt h 10 rfl rfl (fun _ h => ?_) (fun _ h => ?_)
    · refine p_aload_n rfl ?_
      refine p_dup rfl ?_
      refine p_getI fk_X0_47 gt_29 rfl ?_
      refine p_iconst cn_1 ?_
      refine p_iadd ?_
      refine p_putI fk_X0_47 gt_29 rfl ?_
      exact p_ret rfl h
    · refine p_aload_n rfl ?_
      refine p_iconst cn_3 ?_
      refine p_cV (av := [_, _]) ⟨mok_X4_blameTaken, Or.inl ⟨130, 1, 4, 0, _, rfl, rfl, rfl, gt_1, rfl, ins_X4_blameTaken, Or.inr lk_X0_130⟩⟩ (Nat.le_of_ble_eq_true rfl) (Nat.le_of_ble_eq_true rfl) rfl (fun _ h => pc_X4_blameTaken_1 hl h) h (fun M61 h => ?_)
      exact p_ret rfl h
set_option maxRecDepth 100000 in
theorem pc_X0_readHouse_29_1 {l : Launch} (hl : l.stackTraces = false) {M : PM} {a2 : Int32} {r : PR} (h : F_X0_readHouse_29_1 M a2 = some r) : PC l 2 Y_X0_readHouse [vR 29, vR 1, vI a2] M r := pc_of hl (by decide +kernel) cok_X0_readHouse (Nat.le_of_ble_eq_true rfl) rfl (S_X0_readHouse_29_1 hl  h) rfl
def F_X2_isFull_35 (M : PM)  : Option PR := (if mI M 35 4 < 6 then (if (0 : Int32) &&& 1 = 0 then some (.inl (some (.int 0)), M) else none) else (if (1 : Int32) &&& 1 = 1 then some (.inl (some (.int 1)), M) else none))
set_option maxRecDepth 100000 in
theorem S_X2_isFull_35 {l : Launch} (hl : l.stackTraces = false) {M : PM}  {r : PR} (h : F_X2_isFull_35 M  = some r) : PW l 0 Y_X2_isFull k_X2_isFull [vR 35] [] M r := by
  unfold F_X2_isFull_35 at h
  refine p_aload_n rfl ?_
  refine p_getI fk_X2_31 gt_35 rfl ?_
  refine p_aload_n rfl ?_
  refine p_getR fk_X2_15 gt_35 rfl rfl ?_
  refine p_alen gt_36 (by simp) al_6 ?_
  refine p_icmp_lt h 8 rfl rfl (fun _ h => ?_) (fun _ h => ?_)
  · refine p_iconst cn_0 ?_
    exact p_zret rfl h
  · refine p_iconst cn_1 ?_
    refine p_goto 9 rfl rfl ?_
    exact p_zret rfl h
set_option maxRecDepth 100000 in
theorem pc_X2_isFull_35 {l : Launch} (hl : l.stackTraces = false) {M : PM}  {r : PR} (h : F_X2_isFull_35 M  = some r) : PC l 0 Y_X2_isFull [vR 35] M r := pc_of hl (by decide +kernel) cok_X2_isFull (Nat.le_of_ble_eq_true rfl) rfl (S_X2_isFull_35 hl  h) rfl
def F_J9_max_7cf53 (M : PM) (a0 : Int32) (a1 : Int32) : Option PR := (if a0 < a1 then some (.inl (some (.int a1)), M) else some (.inl (some (.int a0)), M))
set_option maxRecDepth 100000 in
theorem S_J9_max_7cf53 {l : Launch} (hl : l.stackTraces = false) {M : PM} {a0 : Int32} {a1 : Int32} {r : PR} (h : F_J9_max_7cf53 M a0 a1 = some r) : PW l 0 Y_J9_max_7cf53 k_J9_max_7cf53 [vI a0, vI a1] [] M r := by
  unfold F_J9_max_7cf53 at h
  refine p_iload_n rfl ?_
  refine p_iload_n rfl ?_
  refine p_icmp_lt h 5 rfl rfl (fun _ h => ?_) (fun _ h => ?_)
  · refine p_iload_n rfl ?_
    exact p_iret rfl h
  · refine p_iload_n rfl ?_
    refine p_goto 6 rfl rfl ?_
    exact p_iret rfl h
set_option maxRecDepth 100000 in
theorem pc_J9_max_7cf53 {l : Launch} (hl : l.stackTraces = false) {M : PM} {a0 : Int32} {a1 : Int32} {r : PR} (h : F_J9_max_7cf53 M a0 a1 = some r) : PC l 0 Y_J9_max_7cf53 [vI a0, vI a1] M r := pc_of hl (by decide +kernel) cok_J9_max_7cf53 (Nat.le_of_ble_eq_true rfl) rfl (S_J9_max_7cf53 hl  h) rfl
def F_X10_everyOf_4 : Nat → PM → Int32 → Int64 → Int32 → Option PR
  | 0, _, _, _, _ => none
  | n + 1, M, x0, x1, x3 => (if 64 ≤ x3 then some (.inl (some (.long x1)), M) else lt (x1 ||| ((1 : Int64) <<< (x3.toInt64 &&& 63))) fun y62 => cI (F_J9_max_7cf53 M x0 1) fun v64 M63 => lt (x3 + v64) fun y65 => F_X10_everyOf_4 n M63 x0 y62 y65)
def F_X10_everyOf (M : PM) (a0 : Int32) : Option PR := lt ((0 : Int64)) fun y66 => F_X10_everyOf_4 FUEL M a0 y66 0
set_option maxRecDepth 100000 in
theorem S_X10_everyOf_4 {l : Launch} (hl : l.stackTraces = false) : ∀ (n : Nat) {M : PM} {x0 : Int32} {x1 : Int64} {x3 : Int32} {r : PR}, F_X10_everyOf_4  n M x0 x1 x3 = some r → PW l 1 Y_X10_everyOf k_X10_everyOf_4 [vI x0, vJ x1, jk, vI x3] [] M r := by
  intro n
  induction n with
  | zero => intro M x0 x1 x3 r h; exact nomatch (show (none : Option PR) = some r from h)
  | succ n ih =>
    intro M x0 x1 x3 r h
    rw [F_X10_everyOf_4] at h
    refine p_iload_n rfl ?_
    refine p_bipush cb_64 ?_
    refine p_icmp_ge h 20 rfl rfl (fun _ h => ?_) (fun _ h => ?_)
    · refine p_lload_n rfl ?_
      exact p_lret rfl h
    · refine p_lload_n rfl ?_
      refine p_lconst cl_1 ?_
      refine p_iload_n rfl ?_
      refine p_lshl ?_
      refine p_lor ?_
      have h := lt_h h
      refine p_lstore_n (Nat.le_of_ble_eq_true rfl) rfl ?_
      refine p_iload_n rfl ?_
      refine p_iload_n rfl ?_
      refine p_iconst cn_1 ?_
      refine p_cI (av := [_, _]) ⟨mok_J9_max_7cf53, Or.inr ⟨298, rfl, rfl, sta_J9_max_7cf53, Or.inl lk_X10_298⟩⟩ (Nat.le_of_ble_eq_true rfl) (Nat.le_of_ble_eq_true rfl) rfl (fun _ h => pc_J9_max_7cf53 hl h) h (fun v64 M63 h => ?_)
      refine p_iadd ?_
      have h := lt_h h
      refine p_istore_n (Nat.le_of_ble_eq_true rfl) rfl ?_
      refine p_goto 4 rfl rfl ?_
      exact p_fg (ih h) ⟨Or.inr rfl, Or.inr rfl, Or.inl rfl, Or.inr rfl, trivial⟩
set_option maxRecDepth 100000 in
theorem S_X10_everyOf {l : Launch} (hl : l.stackTraces = false) {M : PM} {a0 : Int32} {r : PR} (h : F_X10_everyOf M a0 = some r) : PW l 1 Y_X10_everyOf k_X10_everyOf [vI a0, jk, jk, jk] [] M r := by
  unfold F_X10_everyOf at h
  refine p_lconst cl_0 ?_
  have h := lt_h h
  refine p_lstore_n (Nat.le_of_ble_eq_true rfl) rfl ?_
  refine p_iconst cn_0 ?_
  refine p_istore_n (Nat.le_of_ble_eq_true rfl) rfl ?_
  exact p_fg (S_X10_everyOf_4 hl FUEL h) ⟨Or.inr rfl, Or.inr rfl, Or.inl rfl, Or.inr rfl, trivial⟩
set_option maxRecDepth 100000 in
theorem pc_X10_everyOf {l : Launch} (hl : l.stackTraces = false) {M : PM} {a0 : Int32} {r : PR} (h : F_X10_everyOf M a0 = some r) : PC l 1 Y_X10_everyOf [vI a0] M r := pc_of hl (by decide +kernel) cok_X10_everyOf (Nat.le_of_ble_eq_true rfl) rfl (S_X10_everyOf hl  h) rfl
def F_X2_add_35 (M : PM) (a1 : Int32) (a2 : Int32) : Option PR := cI (F_X2_isFull_35 M) fun v68 M67 => (if v68 = 0 then if ixOK (mI M67 35 4) 6 = true then if ixOK (mI (sA M67 36 (mI M67 35 4).toNatClampNeg a1) 35 4) 6 = true then cJ (F_X10_everyOf (sA (sA M67 36 (mI M67 35 4).toNatClampNeg a1) 37 (mI (sA M67 36 (mI M67 35 4).toNatClampNeg a1) 35 4).toNatClampNeg a2) a1) fun v70 M69 => if ixOK (mI (sA (sA M67 36 (mI M67 35 4).toNatClampNeg a1) 37 (mI (sA M67 36 (mI M67 35 4).toNatClampNeg a1) 35 4).toNatClampNeg a2) 35 4) 6 = true then lt (sI (sB M69 38 (mI (sA (sA M67 36 (mI M67 35 4).toNatClampNeg a1) 37 (mI (sA M67 36 (mI M67 35 4).toNatClampNeg a1) 35 4).toNatClampNeg a2) 35 4).toNatClampNeg v70) 35 4 ((mI (sB M69 38 (mI (sA (sA M67 36 (mI M67 35 4).toNatClampNeg a1) 37 (mI (sA M67 36 (mI M67 35 4).toNatClampNeg a1) 35 4).toNatClampNeg a2) 35 4).toNatClampNeg v70) 35 4) + 1)) fun M71 => some (.inl none, M71) else none else none else none else some (.inl none, M67))
set_option maxRecDepth 100000 in
theorem S_X2_add_35 {l : Launch} (hl : l.stackTraces = false) {M : PM} {a1 : Int32} {a2 : Int32} {r : PR} (h : F_X2_add_35 M a1 a2 = some r) : PW l 2 Y_X2_add k_X2_add [vR 35, vI a1, vI a2] [] M r := by
  unfold F_X2_add_35 at h
  refine p_aload_n rfl ?_
  refine p_cI (av := [_]) ⟨mok_X2_isFull, Or.inl ⟨35, 35, 2, 0, _, rfl, rfl, rfl, gt_35, rfl, ins_X2_isFull, Or.inl lk_X2_35⟩⟩ (Nat.le_of_ble_eq_true rfl) (Nat.le_of_ble_eq_true rfl) rfl (fun _ h => pc_X2_isFull_35 hl h) h (fun v68 M67 h => ?_)
  refine p_if_ne h 28 rfl rfl (fun _ h => ?_) (fun _ h => ?_)
  · refine p_aload_n rfl ?_
    refine p_getR fk_X2_15 gt_35 rfl rfl ?_
    refine p_aload_n rfl ?_
    refine p_getI fk_X2_31 gt_35 rfl ?_
    refine p_iload_n rfl ?_
    refine p_iast gt_36 h (fun h => ?_)
    refine p_aload_n rfl ?_
    refine p_getR fk_X2_21 gt_35 rfl rfl ?_
    refine p_aload_n rfl ?_
    refine p_getI fk_X2_31 gt_35 rfl ?_
    refine p_iload_n rfl ?_
    refine p_iast gt_37 h (fun h => ?_)
    refine p_aload_n rfl ?_
    refine p_getR fk_X2_24 gt_35 rfl rfl ?_
    refine p_aload_n rfl ?_
    refine p_getI fk_X2_31 gt_35 rfl ?_
    refine p_iload_n rfl ?_
    refine p_cJ (av := [_]) ⟨mok_X10_everyOf, Or.inr ⟨39, rfl, rfl, sta_X10_everyOf, Or.inr lk_X2_39⟩⟩ (Nat.le_of_ble_eq_true rfl) (Nat.le_of_ble_eq_true rfl) rfl (fun _ h => pc_X10_everyOf hl h) h (fun v70 M69 h => ?_)
    refine p_last gt_38 h (fun h => ?_)
    refine p_aload_n rfl ?_
    refine p_dup rfl ?_
    refine p_getI fk_X2_31 gt_35 rfl ?_
    refine p_iconst cn_1 ?_
    refine p_iadd ?_
    refine p_putI fk_X2_31 gt_35 rfl ?_
    have h := lt_h h
    exact p_ret rfl h
  · exact p_ret rfl h
set_option maxRecDepth 100000 in
theorem pc_X2_add_35 {l : Launch} (hl : l.stackTraces = false) {M : PM} {a1 : Int32} {a2 : Int32} {r : PR} (h : F_X2_add_35 M a1 a2 = some r) : PC l 2 Y_X2_add [vR 35, vI a1, vI a2] M r := pc_of hl (by decide +kernel) cok_X2_add (Nat.le_of_ble_eq_true rfl) rfl (S_X2_add_35 hl  h) rfl
def F_X0_readLaw_29_1_35 (M : PM) (a3 : Int32) : Option PR := (if a3 = 0 then cV (F_X4_blameTaken_1 M 3) fun M72 => some (.inl none, M72) else cI (F_X2_isFull_35 M) fun v74 M73 => (if v74 = 0 then cI (F_X4_takeNumber_1 M73 2 24) fun v76 M75 => (if v76 = (-1) then some (.inl none, M75) else cI (F_X4_takeNumber_1 M75 0 (v76 - 1)) fun v78 M77 => (if v78 = (-1) then some (.inl none, M77) else cV (F_X2_add_35 M77 v76 v78) fun M79 => some (.inl none, M79))) else cV (F_X4_blameTaken_1 M73 3) fun M80 => some (.inl none, M80)))
set_option maxRecDepth 100000 in
theorem S_X0_readLaw_29_1_35 {l : Launch} (hl : l.stackTraces = false) {M : PM} {a3 : Int32} {r : PR} (h : F_X0_readLaw_29_1_35 M a3 = some r) : PW l 3 Y_X0_readLaw k_X0_readLaw [vR 29, vR 1, vR 35, vI a3, jk, jk] [] M r := by
  unfold F_X0_readLaw_29_1_35 at h
  refine p_iload_n rfl ?_
  refine p_if_eq h 5 rfl rfl (fun _ h => ?_) (fun _ h => ?_)
  · refine p_aload_n rfl ?_
    refine p_iconst cn_3 ?_
    refine p_cV (av := [_, _]) ⟨mok_X4_blameTaken, Or.inl ⟨130, 1, 4, 0, _, rfl, rfl, rfl, gt_1, rfl, ins_X4_blameTaken, Or.inr lk_X0_130⟩⟩ (Nat.le_of_ble_eq_true rfl) (Nat.le_of_ble_eq_true rfl) rfl (fun _ h => pc_X4_blameTaken_1 hl h) h (fun M72 h => ?_)
    exact p_ret rfl h
  · refine p_aload_n rfl ?_
    refine p_cI (av := [_]) ⟨mok_X2_isFull, Or.inl ⟨127, 35, 2, 0, _, rfl, rfl, rfl, gt_35, rfl, ins_X2_isFull, Or.inr lk_X0_127⟩⟩ (Nat.le_of_ble_eq_true rfl) (Nat.le_of_ble_eq_true rfl) rfl (fun _ h => pc_X2_isFull_35 hl h) h (fun v74 M73 h => ?_)
    refine p_if_eq h 9 rfl rfl (fun _ h => ?_) (fun _ h => ?_)
    · refine p_aload_n rfl ?_
      refine p_iconst cn_2 ?_
      refine p_bipush cb_24 ?_
      refine p_cI (av := [_, _, _]) ⟨mok_X4_takeNumber, Or.inl ⟨133, 1, 4, 0, _, rfl, rfl, rfl, gt_1, rfl, ins_X4_takeNumber, Or.inr lk_X0_133⟩⟩ (Nat.le_of_ble_eq_true rfl) (Nat.le_of_ble_eq_true rfl) rfl (fun _ h => pc_X4_takeNumber_1 hl h) h (fun v76 M75 h => ?_)
      refine p_istore (Nat.le_of_ble_eq_true rfl) rfl ?_
      refine p_iload rfl ?_
      refine p_iconst cn_m1 ?_
      refine p_icmp_eq h 31 rfl rfl (fun _ h => ?_) (fun _ h => ?_)
      · exact p_ret rfl h
      · refine p_aload_n rfl ?_
        refine p_iconst cn_0 ?_
        refine p_iload rfl ?_
        refine p_iconst cn_1 ?_
        refine p_isub ?_
        refine p_cI (av := [_, _, _]) ⟨mok_X4_takeNumber, Or.inl ⟨133, 1, 4, 0, _, rfl, rfl, rfl, gt_1, rfl, ins_X4_takeNumber, Or.inr lk_X0_133⟩⟩ (Nat.le_of_ble_eq_true rfl) (Nat.le_of_ble_eq_true rfl) rfl (fun _ h => pc_X4_takeNumber_1 hl h) h (fun v78 M77 h => ?_)
        refine p_istore (Nat.le_of_ble_eq_true rfl) rfl ?_
        refine p_iload rfl ?_
        refine p_iconst cn_m1 ?_
        refine p_icmp_eq h 31 rfl rfl (fun _ h => ?_) (fun _ h => ?_)
        · exact p_ret rfl h
        · refine p_aload_n rfl ?_
          refine p_iload rfl ?_
          refine p_iload rfl ?_
          refine p_cV (av := [_, _, _]) ⟨mok_X2_add, Or.inl ⟨136, 35, 2, 0, _, rfl, rfl, rfl, gt_35, rfl, ins_X2_add, Or.inr lk_X0_136⟩⟩ (Nat.le_of_ble_eq_true rfl) (Nat.le_of_ble_eq_true rfl) rfl (fun _ h => pc_X2_add_35 hl h) h (fun M79 h => ?_)
          exact p_ret rfl h
    · refine p_aload_n rfl ?_
      refine p_iconst cn_3 ?_
      refine p_cV (av := [_, _]) ⟨mok_X4_blameTaken, Or.inl ⟨130, 1, 4, 0, _, rfl, rfl, rfl, gt_1, rfl, ins_X4_blameTaken, Or.inr lk_X0_130⟩⟩ (Nat.le_of_ble_eq_true rfl) (Nat.le_of_ble_eq_true rfl) rfl (fun _ h => pc_X4_blameTaken_1 hl h) h (fun M80 h => ?_)
      exact p_ret rfl h
set_option maxRecDepth 100000 in
theorem pc_X0_readLaw_29_1_35 {l : Launch} (hl : l.stackTraces = false) {M : PM} {a3 : Int32} {r : PR} (h : F_X0_readLaw_29_1_35 M a3 = some r) : PC l 3 Y_X0_readLaw [vR 29, vR 1, vR 35, vI a3] M r := pc_of hl (by decide +kernel) cok_X0_readLaw (Nat.le_of_ble_eq_true rfl) rfl (S_X0_readLaw_29_1_35 hl  h) rfl
def F_X2_isFull_30 (M : PM)  : Option PR := (if mI M 30 4 < 12 then (if (0 : Int32) &&& 1 = 0 then some (.inl (some (.int 0)), M) else none) else (if (1 : Int32) &&& 1 = 1 then some (.inl (some (.int 1)), M) else none))
set_option maxRecDepth 100000 in
theorem S_X2_isFull_30 {l : Launch} (hl : l.stackTraces = false) {M : PM}  {r : PR} (h : F_X2_isFull_30 M  = some r) : PW l 0 Y_X2_isFull k_X2_isFull [vR 30] [] M r := by
  unfold F_X2_isFull_30 at h
  refine p_aload_n rfl ?_
  refine p_getI fk_X2_31 gt_30 rfl ?_
  refine p_aload_n rfl ?_
  refine p_getR fk_X2_15 gt_30 rfl rfl ?_
  refine p_alen gt_31 (by simp) al_12 ?_
  refine p_icmp_lt h 8 rfl rfl (fun _ h => ?_) (fun _ h => ?_)
  · refine p_iconst cn_0 ?_
    exact p_zret rfl h
  · refine p_iconst cn_1 ?_
    refine p_goto 9 rfl rfl ?_
    exact p_zret rfl h
set_option maxRecDepth 100000 in
theorem pc_X2_isFull_30 {l : Launch} (hl : l.stackTraces = false) {M : PM}  {r : PR} (h : F_X2_isFull_30 M  = some r) : PC l 0 Y_X2_isFull [vR 30] M r := pc_of hl (by decide +kernel) cok_X2_isFull (Nat.le_of_ble_eq_true rfl) rfl (S_X2_isFull_30 hl  h) rfl
def F_X2_add_30 (M : PM) (a1 : Int32) (a2 : Int32) : Option PR := cI (F_X2_isFull_30 M) fun v82 M81 => (if v82 = 0 then if ixOK (mI M81 30 4) 12 = true then if ixOK (mI (sA M81 31 (mI M81 30 4).toNatClampNeg a1) 30 4) 12 = true then cJ (F_X10_everyOf (sA (sA M81 31 (mI M81 30 4).toNatClampNeg a1) 32 (mI (sA M81 31 (mI M81 30 4).toNatClampNeg a1) 30 4).toNatClampNeg a2) a1) fun v84 M83 => if ixOK (mI (sA (sA M81 31 (mI M81 30 4).toNatClampNeg a1) 32 (mI (sA M81 31 (mI M81 30 4).toNatClampNeg a1) 30 4).toNatClampNeg a2) 30 4) 12 = true then lt (sI (sB M83 33 (mI (sA (sA M81 31 (mI M81 30 4).toNatClampNeg a1) 32 (mI (sA M81 31 (mI M81 30 4).toNatClampNeg a1) 30 4).toNatClampNeg a2) 30 4).toNatClampNeg v84) 30 4 ((mI (sB M83 33 (mI (sA (sA M81 31 (mI M81 30 4).toNatClampNeg a1) 32 (mI (sA M81 31 (mI M81 30 4).toNatClampNeg a1) 30 4).toNatClampNeg a2) 30 4).toNatClampNeg v84) 30 4) + 1)) fun M85 => some (.inl none, M85) else none else none else none else some (.inl none, M81))
set_option maxRecDepth 100000 in
theorem S_X2_add_30 {l : Launch} (hl : l.stackTraces = false) {M : PM} {a1 : Int32} {a2 : Int32} {r : PR} (h : F_X2_add_30 M a1 a2 = some r) : PW l 2 Y_X2_add k_X2_add [vR 30, vI a1, vI a2] [] M r := by
  unfold F_X2_add_30 at h
  refine p_aload_n rfl ?_
  refine p_cI (av := [_]) ⟨mok_X2_isFull, Or.inl ⟨35, 30, 2, 0, _, rfl, rfl, rfl, gt_30, rfl, ins_X2_isFull, Or.inl lk_X2_35⟩⟩ (Nat.le_of_ble_eq_true rfl) (Nat.le_of_ble_eq_true rfl) rfl (fun _ h => pc_X2_isFull_30 hl h) h (fun v82 M81 h => ?_)
  refine p_if_ne h 28 rfl rfl (fun _ h => ?_) (fun _ h => ?_)
  · refine p_aload_n rfl ?_
    refine p_getR fk_X2_15 gt_30 rfl rfl ?_
    refine p_aload_n rfl ?_
    refine p_getI fk_X2_31 gt_30 rfl ?_
    refine p_iload_n rfl ?_
    refine p_iast gt_31 h (fun h => ?_)
    refine p_aload_n rfl ?_
    refine p_getR fk_X2_21 gt_30 rfl rfl ?_
    refine p_aload_n rfl ?_
    refine p_getI fk_X2_31 gt_30 rfl ?_
    refine p_iload_n rfl ?_
    refine p_iast gt_32 h (fun h => ?_)
    refine p_aload_n rfl ?_
    refine p_getR fk_X2_24 gt_30 rfl rfl ?_
    refine p_aload_n rfl ?_
    refine p_getI fk_X2_31 gt_30 rfl ?_
    refine p_iload_n rfl ?_
    refine p_cJ (av := [_]) ⟨mok_X10_everyOf, Or.inr ⟨39, rfl, rfl, sta_X10_everyOf, Or.inr lk_X2_39⟩⟩ (Nat.le_of_ble_eq_true rfl) (Nat.le_of_ble_eq_true rfl) rfl (fun _ h => pc_X10_everyOf hl h) h (fun v84 M83 h => ?_)
    refine p_last gt_33 h (fun h => ?_)
    refine p_aload_n rfl ?_
    refine p_dup rfl ?_
    refine p_getI fk_X2_31 gt_30 rfl ?_
    refine p_iconst cn_1 ?_
    refine p_iadd ?_
    refine p_putI fk_X2_31 gt_30 rfl ?_
    have h := lt_h h
    exact p_ret rfl h
  · exact p_ret rfl h
set_option maxRecDepth 100000 in
theorem pc_X2_add_30 {l : Launch} (hl : l.stackTraces = false) {M : PM} {a1 : Int32} {a2 : Int32} {r : PR} (h : F_X2_add_30 M a1 a2 = some r) : PC l 2 Y_X2_add [vR 30, vI a1, vI a2] M r := pc_of hl (by decide +kernel) cok_X2_add (Nat.le_of_ble_eq_true rfl) rfl (S_X2_add_30 hl  h) rfl
def F_X0_readLaw_29_1_30 (M : PM) (a3 : Int32) : Option PR := (if a3 = 0 then cV (F_X4_blameTaken_1 M 3) fun M86 => some (.inl none, M86) else cI (F_X2_isFull_30 M) fun v88 M87 => (if v88 = 0 then cI (F_X4_takeNumber_1 M87 2 24) fun v90 M89 => (if v90 = (-1) then some (.inl none, M89) else cI (F_X4_takeNumber_1 M89 0 (v90 - 1)) fun v92 M91 => (if v92 = (-1) then some (.inl none, M91) else cV (F_X2_add_30 M91 v90 v92) fun M93 => some (.inl none, M93))) else cV (F_X4_blameTaken_1 M87 3) fun M94 => some (.inl none, M94)))
set_option maxRecDepth 100000 in
theorem S_X0_readLaw_29_1_30 {l : Launch} (hl : l.stackTraces = false) {M : PM} {a3 : Int32} {r : PR} (h : F_X0_readLaw_29_1_30 M a3 = some r) : PW l 3 Y_X0_readLaw k_X0_readLaw [vR 29, vR 1, vR 30, vI a3, jk, jk] [] M r := by
  unfold F_X0_readLaw_29_1_30 at h
  refine p_iload_n rfl ?_
  refine p_if_eq h 5 rfl rfl (fun _ h => ?_) (fun _ h => ?_)
  · refine p_aload_n rfl ?_
    refine p_iconst cn_3 ?_
    refine p_cV (av := [_, _]) ⟨mok_X4_blameTaken, Or.inl ⟨130, 1, 4, 0, _, rfl, rfl, rfl, gt_1, rfl, ins_X4_blameTaken, Or.inr lk_X0_130⟩⟩ (Nat.le_of_ble_eq_true rfl) (Nat.le_of_ble_eq_true rfl) rfl (fun _ h => pc_X4_blameTaken_1 hl h) h (fun M86 h => ?_)
    exact p_ret rfl h
  · refine p_aload_n rfl ?_
    refine p_cI (av := [_]) ⟨mok_X2_isFull, Or.inl ⟨127, 30, 2, 0, _, rfl, rfl, rfl, gt_30, rfl, ins_X2_isFull, Or.inr lk_X0_127⟩⟩ (Nat.le_of_ble_eq_true rfl) (Nat.le_of_ble_eq_true rfl) rfl (fun _ h => pc_X2_isFull_30 hl h) h (fun v88 M87 h => ?_)
    refine p_if_eq h 9 rfl rfl (fun _ h => ?_) (fun _ h => ?_)
    · refine p_aload_n rfl ?_
      refine p_iconst cn_2 ?_
      refine p_bipush cb_24 ?_
      refine p_cI (av := [_, _, _]) ⟨mok_X4_takeNumber, Or.inl ⟨133, 1, 4, 0, _, rfl, rfl, rfl, gt_1, rfl, ins_X4_takeNumber, Or.inr lk_X0_133⟩⟩ (Nat.le_of_ble_eq_true rfl) (Nat.le_of_ble_eq_true rfl) rfl (fun _ h => pc_X4_takeNumber_1 hl h) h (fun v90 M89 h => ?_)
      refine p_istore (Nat.le_of_ble_eq_true rfl) rfl ?_
      refine p_iload rfl ?_
      refine p_iconst cn_m1 ?_
      refine p_icmp_eq h 31 rfl rfl (fun _ h => ?_) (fun _ h => ?_)
      · exact p_ret rfl h
      · refine p_aload_n rfl ?_
        refine p_iconst cn_0 ?_
        refine p_iload rfl ?_
        refine p_iconst cn_1 ?_
        refine p_isub ?_
        refine p_cI (av := [_, _, _]) ⟨mok_X4_takeNumber, Or.inl ⟨133, 1, 4, 0, _, rfl, rfl, rfl, gt_1, rfl, ins_X4_takeNumber, Or.inr lk_X0_133⟩⟩ (Nat.le_of_ble_eq_true rfl) (Nat.le_of_ble_eq_true rfl) rfl (fun _ h => pc_X4_takeNumber_1 hl h) h (fun v92 M91 h => ?_)
        refine p_istore (Nat.le_of_ble_eq_true rfl) rfl ?_
        refine p_iload rfl ?_
        refine p_iconst cn_m1 ?_
        refine p_icmp_eq h 31 rfl rfl (fun _ h => ?_) (fun _ h => ?_)
        · exact p_ret rfl h
        · refine p_aload_n rfl ?_
          refine p_iload rfl ?_
          refine p_iload rfl ?_
          refine p_cV (av := [_, _, _]) ⟨mok_X2_add, Or.inl ⟨136, 30, 2, 0, _, rfl, rfl, rfl, gt_30, rfl, ins_X2_add, Or.inr lk_X0_136⟩⟩ (Nat.le_of_ble_eq_true rfl) (Nat.le_of_ble_eq_true rfl) rfl (fun _ h => pc_X2_add_30 hl h) h (fun M93 h => ?_)
          exact p_ret rfl h
    · refine p_aload_n rfl ?_
      refine p_iconst cn_3 ?_
      refine p_cV (av := [_, _]) ⟨mok_X4_blameTaken, Or.inl ⟨130, 1, 4, 0, _, rfl, rfl, rfl, gt_1, rfl, ins_X4_blameTaken, Or.inr lk_X0_130⟩⟩ (Nat.le_of_ble_eq_true rfl) (Nat.le_of_ble_eq_true rfl) rfl (fun _ h => pc_X4_blameTaken_1 hl h) h (fun M94 h => ?_)
      exact p_ret rfl h
set_option maxRecDepth 100000 in
theorem pc_X0_readLaw_29_1_30 {l : Launch} (hl : l.stackTraces = false) {M : PM} {a3 : Int32} {r : PR} (h : F_X0_readLaw_29_1_30 M a3 = some r) : PC l 3 Y_X0_readLaw [vR 29, vR 1, vR 30, vI a3] M r := pc_of hl (by decide +kernel) cok_X0_readLaw (Nat.le_of_ble_eq_true rfl) rfl (S_X0_readLaw_29_1_30 hl  h) rfl
def F_X0_readClause_29_1_102 (M : PM)  : Option PR := cI (F_X4_isFine_1 M) fun v96 M95 => (if v96 = 0 then some (.inl none, M95) else cI (F_X4_takesSign_1 M95 59) fun v98 M97 => (if v98 = 0 then cV (F_X4_blameNext_1 M97) fun M99 => some (.inl none, M99) else some (.inl none, M97)))
def F_X0_readClause_29_1 (M : PM) (a2 : Int32) : Option PR := cI (F_X4_takesWord_1 M 0) fun v101 M100 => (if v101 = 0 then cI (F_X4_takesWord_1 M100 1) fun v103 M102 => (if v103 = 0 then cI (F_X4_takesWord_1 M102 2) fun v105 M104 => (if v105 = 0 then cI (F_X4_takesWord_1 M104 3) fun v107 M106 => (if v107 = 0 then cI (F_X4_takesWord_1 M106 4) fun v109 M108 => (if v109 = 0 then cV (F_X4_blameNext_1 M108) fun M110 => F_X0_readClause_29_1_102 M110 else cV (F_X0_readStill_29_1 M108 a2) fun M111 => F_X0_readClause_29_1_102 M111) else cV (F_X0_readSlip_29_1 M106 a2) fun M112 => F_X0_readClause_29_1_102 M112) else cV (F_X0_readHouse_29_1 M104 a2) fun M113 => F_X0_readClause_29_1_102 M113) else cV (F_X0_readLaw_29_1_35 M102 a2) fun M114 => F_X0_readClause_29_1_102 M114) else cV (F_X0_readLaw_29_1_30 M100 a2) fun M115 => F_X0_readClause_29_1_102 M115)
set_option maxRecDepth 100000 in
theorem S_X0_readClause_29_1_102 {l : Launch} (hl : l.stackTraces = false) {M : PM}  {r : PR} (h : F_X0_readClause_29_1_102  M  = some r) : PW l 8 Y_X0_readClause k_X0_readClause_102 [jk, vR 1, jk] [] M r := by
  unfold F_X0_readClause_29_1_102 at h
  refine p_aload_n rfl ?_
  refine p_cI (av := [_]) ⟨mok_X4_isFine, Or.inl ⟨66, 1, 4, 0, _, rfl, rfl, rfl, gt_1, rfl, ins_X4_isFine, Or.inr lk_X0_66⟩⟩ (Nat.le_of_ble_eq_true rfl) (Nat.le_of_ble_eq_true rfl) rfl (fun _ h => pc_X4_isFine_1 hl h) h (fun v96 M95 h => ?_)
  refine p_if_eq h 60 rfl rfl (fun _ h => ?_) (fun _ h => ?_)
  · exact p_ret rfl h
  · refine p_aload_n rfl ?_
    refine p_bipush cb_59 ?_
    refine p_cI (av := [_, _]) ⟨mok_X4_takesSign, Or.inl ⟨123, 1, 4, 0, _, rfl, rfl, rfl, gt_1, rfl, ins_X4_takesSign, Or.inr lk_X0_123⟩⟩ (Nat.le_of_ble_eq_true rfl) (Nat.le_of_ble_eq_true rfl) rfl (fun _ h => pc_X4_takesSign_1 hl h) h (fun v98 M97 h => ?_)
    refine p_if_ne h 60 rfl rfl (fun _ h => ?_) (fun _ h => ?_)
    · refine p_aload_n rfl ?_
      refine p_cV (av := [_]) ⟨mok_X4_blameNext, Or.inl ⟨120, 1, 4, 0, _, rfl, rfl, rfl, gt_1, rfl, ins_X4_blameNext, Or.inr lk_X0_120⟩⟩ (Nat.le_of_ble_eq_true rfl) (Nat.le_of_ble_eq_true rfl) rfl (fun _ h => pc_X4_blameNext_1 hl h) h (fun M99 h => ?_)
      exact p_ret rfl h
    · exact p_ret rfl h
set_option maxRecDepth 100000 in
theorem S_X0_readClause_29_1 {l : Launch} (hl : l.stackTraces = false) {M : PM} {a2 : Int32} {r : PR} (h : F_X0_readClause_29_1 M a2 = some r) : PW l 8 Y_X0_readClause k_X0_readClause [vR 29, vR 1, vI a2] [] M r := by
  unfold F_X0_readClause_29_1 at h
  refine p_aload_n rfl ?_
  refine p_ldcS (si := 0) rfl ?_
  refine p_cI (av := [_, _]) ⟨mok_X4_takesWord, Or.inl ⟨96, 1, 4, 0, _, rfl, rfl, rfl, gt_1, rfl, ins_X4_takesWord, Or.inr lk_X0_96⟩⟩ (Nat.le_of_ble_eq_true rfl) (Nat.le_of_ble_eq_true rfl) rfl (fun _ h => pc_X4_takesWord_1 hl h) h (fun v101 M100 h => ?_)
  refine p_if_eq h 11 rfl rfl (fun _ h => ?_) (fun _ h => ?_)
  · refine p_aload_n rfl ?_
    refine p_ldcS (si := 1) rfl ?_
    refine p_cI (av := [_, _]) ⟨mok_X4_takesWord, Or.inl ⟨96, 1, 4, 0, _, rfl, rfl, rfl, gt_1, rfl, ins_X4_takesWord, Or.inr lk_X0_96⟩⟩ (Nat.le_of_ble_eq_true rfl) (Nat.le_of_ble_eq_true rfl) rfl (fun _ h => pc_X4_takesWord_1 hl h) h (fun v103 M102 h => ?_)
    refine p_if_eq h 22 rfl rfl (fun _ h => ?_) (fun _ h => ?_)
    · refine p_aload_n rfl ?_
      refine p_ldcS (si := 2) rfl ?_
      refine p_cI (av := [_, _]) ⟨mok_X4_takesWord, Or.inl ⟨96, 1, 4, 0, _, rfl, rfl, rfl, gt_1, rfl, ins_X4_takesWord, Or.inr lk_X0_96⟩⟩ (Nat.le_of_ble_eq_true rfl) (Nat.le_of_ble_eq_true rfl) rfl (fun _ h => pc_X4_takesWord_1 hl h) h (fun v105 M104 h => ?_)
      refine p_if_eq h 31 rfl rfl (fun _ h => ?_) (fun _ h => ?_)
      · refine p_aload_n rfl ?_
        refine p_ldcS (si := 3) rfl ?_
        refine p_cI (av := [_, _]) ⟨mok_X4_takesWord, Or.inl ⟨96, 1, 4, 0, _, rfl, rfl, rfl, gt_1, rfl, ins_X4_takesWord, Or.inr lk_X0_96⟩⟩ (Nat.le_of_ble_eq_true rfl) (Nat.le_of_ble_eq_true rfl) rfl (fun _ h => pc_X4_takesWord_1 hl h) h (fun v107 M106 h => ?_)
        refine p_if_eq h 40 rfl rfl (fun _ h => ?_) (fun _ h => ?_)
        · refine p_aload_n rfl ?_
          refine p_ldcS (si := 4) rfl ?_
          refine p_cI (av := [_, _]) ⟨mok_X4_takesWord, Or.inl ⟨96, 1, 4, 0, _, rfl, rfl, rfl, gt_1, rfl, ins_X4_takesWord, Or.inr lk_X0_96⟩⟩ (Nat.le_of_ble_eq_true rfl) (Nat.le_of_ble_eq_true rfl) rfl (fun _ h => pc_X4_takesWord_1 hl h) h (fun v109 M108 h => ?_)
          refine p_if_eq h 49 rfl rfl (fun _ h => ?_) (fun _ h => ?_)
          · refine p_aload_n rfl ?_
            refine p_cV (av := [_]) ⟨mok_X4_blameNext, Or.inl ⟨120, 1, 4, 0, _, rfl, rfl, rfl, gt_1, rfl, ins_X4_blameNext, Or.inr lk_X0_120⟩⟩ (Nat.le_of_ble_eq_true rfl) (Nat.le_of_ble_eq_true rfl) rfl (fun _ h => pc_X4_blameNext_1 hl h) h (fun M110 h => ?_)
            exact p_fg (S_X0_readClause_29_1_102 hl h) ⟨Or.inl rfl, Or.inr rfl, Or.inl rfl, trivial⟩
          · refine p_aload_n rfl ?_
            refine p_aload_n rfl ?_
            refine p_iload_n rfl ?_
            refine p_cV (av := [_, _, _]) ⟨mok_X0_readStill, Or.inl ⟨117, 29, 0, 0, _, rfl, rfl, rfl, gt_29, rfl, ins_X0_readStill, Or.inl lk_X0_117⟩⟩ (Nat.le_of_ble_eq_true rfl) (Nat.le_of_ble_eq_true rfl) rfl (fun _ h => pc_X0_readStill_29_1 hl h) h (fun M111 h => ?_)
            refine p_goto 51 rfl rfl ?_
            exact p_fg (S_X0_readClause_29_1_102 hl h) ⟨Or.inl rfl, Or.inr rfl, Or.inl rfl, trivial⟩
        · refine p_aload_n rfl ?_
          refine p_aload_n rfl ?_
          refine p_iload_n rfl ?_
          refine p_cV (av := [_, _, _]) ⟨mok_X0_readSlip, Or.inl ⟨113, 29, 0, 0, _, rfl, rfl, rfl, gt_29, rfl, ins_X0_readSlip, Or.inl lk_X0_113⟩⟩ (Nat.le_of_ble_eq_true rfl) (Nat.le_of_ble_eq_true rfl) rfl (fun _ h => pc_X0_readSlip_29_1 hl h) h (fun M112 h => ?_)
          refine p_goto 51 rfl rfl ?_
          exact p_fg (S_X0_readClause_29_1_102 hl h) ⟨Or.inl rfl, Or.inr rfl, Or.inl rfl, trivial⟩
      · refine p_aload_n rfl ?_
        refine p_aload_n rfl ?_
        refine p_iload_n rfl ?_
        refine p_cV (av := [_, _, _]) ⟨mok_X0_readHouse, Or.inl ⟨108, 29, 0, 0, _, rfl, rfl, rfl, gt_29, rfl, ins_X0_readHouse, Or.inl lk_X0_108⟩⟩ (Nat.le_of_ble_eq_true rfl) (Nat.le_of_ble_eq_true rfl) rfl (fun _ h => pc_X0_readHouse_29_1 hl h) h (fun M113 h => ?_)
        refine p_goto 51 rfl rfl ?_
        exact p_fg (S_X0_readClause_29_1_102 hl h) ⟨Or.inl rfl, Or.inr rfl, Or.inl rfl, trivial⟩
    · refine p_aload_n rfl ?_
      refine p_aload_n rfl ?_
      refine p_aload_n rfl ?_
      refine p_getR fk_X0_20 gt_29 rfl rfl ?_
      refine p_iload_n rfl ?_
      refine p_cV (av := [_, _, _, _]) ⟨mok_X0_readLaw, Or.inl ⟨100, 29, 0, 0, _, rfl, rfl, rfl, gt_29, rfl, ins_X0_readLaw, Or.inl lk_X0_100⟩⟩ (Nat.le_of_ble_eq_true rfl) (Nat.le_of_ble_eq_true rfl) rfl (fun _ h => pc_X0_readLaw_29_1_35 hl h) h (fun M114 h => ?_)
      refine p_goto 51 rfl rfl ?_
      exact p_fg (S_X0_readClause_29_1_102 hl h) ⟨Or.inl rfl, Or.inr rfl, Or.inl rfl, trivial⟩
  · refine p_aload_n rfl ?_
    refine p_aload_n rfl ?_
    refine p_aload_n rfl ?_
    refine p_getR fk_X0_14 gt_29 rfl rfl ?_
    refine p_iload_n rfl ?_
    refine p_cV (av := [_, _, _, _]) ⟨mok_X0_readLaw, Or.inl ⟨100, 29, 0, 0, _, rfl, rfl, rfl, gt_29, rfl, ins_X0_readLaw, Or.inl lk_X0_100⟩⟩ (Nat.le_of_ble_eq_true rfl) (Nat.le_of_ble_eq_true rfl) rfl (fun _ h => pc_X0_readLaw_29_1_30 hl h) h (fun M115 h => ?_)
    refine p_goto 51 rfl rfl ?_
    exact p_fg (S_X0_readClause_29_1_102 hl h) ⟨Or.inl rfl, Or.inr rfl, Or.inl rfl, trivial⟩
set_option maxRecDepth 100000 in
theorem pc_X0_readClause_29_1 {l : Launch} (hl : l.stackTraces = false) {M : PM} {a2 : Int32} {r : PR} (h : F_X0_readClause_29_1 M a2 = some r) : PC l 8 Y_X0_readClause [vR 29, vR 1, vI a2] M r := pc_of hl (by decide +kernel) cok_X0_readClause (Nat.le_of_ble_eq_true rfl) rfl (S_X0_readClause_29_1 hl  h) rfl
def F_X0_read_29_1_94 (M : PM)  : Option PR := cI (F_X10_all M (mI M 30 4)) fun v117 M116 => cI (F_X2_turnWith_30 M116 v117 1) fun v119 M118 => cI (F_X10_all (sI M118 29 6 v119) (mI (sI M118 29 6 v119) 35 4)) fun v121 M120 => cI (F_X2_turnWith_35 M120 v121 (mI M120 29 6)) fun v123 M122 => (if mI (sI M122 29 7 v123) 29 7 ≤ 100000 then some (.inl none, sI M122 29 7 v123) else cV (F_X4_blame_1 (sI M122 29 7 v123) 4 (mI (sI M122 29 7 v123) 1 2)) fun M124 => some (.inl none, M124))
def F_X0_read_29_1_85 (k52 : PM → Int32 → Option PR) (M : PM) (x2 : Int32) (t2 : Int32) : Option PR := cV (F_X0_readClause_29_1 M t2) fun M125 => lt (x2 + 1) fun y126 => k52 M125 y126
def F_X0_read_29_1_52 : Nat → PM → Int32 → Option PR
  | 0, _, _ => none
  | n + 1, M, x2 => (if 60 < x2 then F_X0_read_29_1_94 M else cI (F_X4_isFine_1 M) fun v128 M127 => (if v128 = 0 then F_X0_read_29_1_94 M127 else cI (F_X4_isAtEnd_1 M127) fun v130 M129 => (if v130 = 0 then (if 60 ≤ x2 then F_X0_read_29_1_85 (F_X0_read_29_1_52 n) M129 x2 0 else F_X0_read_29_1_85 (F_X0_read_29_1_52 n) M129 x2 1) else F_X0_read_29_1_94 M129)))
def F_X0_read_29_1_28 : Nat → PM → Int32 → Option PR
  | 0, _, _ => none
  | n + 1, M, x2 => (if 120 ≤ x2 then F_X0_read_29_1_52 FUEL M 0 else if ixOK x2 120 = true then lt (x2 + 1) fun y131 => F_X0_read_29_1_28 n (sA M 40 x2.toNatClampNeg 0) y131 else none)
def F_X0_read_29_1 (M : PM)  : Option PR := F_X0_read_29_1_28 FUEL (sI (sI (sI (sI M 30 4 0) 35 4 0) 29 4 0) 29 5 0) 0
set_option maxRecDepth 100000 in
theorem S_X0_read_29_1_94 {l : Launch} (hl : l.stackTraces = false) {M : PM}  {r : PR} (h : F_X0_read_29_1_94  M  = some r) : PW l 9 Y_X0_read k_X0_read_94 [vR 29, vR 1, jk] [] M r := by
  unfold F_X0_read_29_1_94 at h
  refine p_aload_n rfl ?_
  refine p_aload_n rfl ?_
  refine p_getR fk_X0_14 gt_29 rfl rfl ?_
  refine p_aload_n rfl ?_
  refine p_getR fk_X0_14 gt_29 rfl rfl ?_
  refine p_getI fk_X0_63 gt_30 rfl ?_
  refine p_cI (av := [_]) ⟨mok_X10_all, Or.inr ⟨79, rfl, rfl, sta_X10_all, Or.inr lk_X0_79⟩⟩ (Nat.le_of_ble_eq_true rfl) (Nat.le_of_ble_eq_true rfl) rfl (fun _ h => pc_X10_all hl h) h (fun v117 M116 h => ?_)
  refine p_iconst cn_1 ?_
  refine p_cI (av := [_, _, _]) ⟨mok_X2_turnWith, Or.inl ⟨83, 30, 2, 0, _, rfl, rfl, rfl, gt_30, rfl, ins_X2_turnWith, Or.inr lk_X0_83⟩⟩ (Nat.le_of_ble_eq_true rfl) (Nat.le_of_ble_eq_true rfl) rfl (fun _ h => pc_X2_turnWith_30 hl h) h (fun v119 M118 h => ?_)
  refine p_putI fk_X0_30 gt_29 rfl ?_
  refine p_aload_n rfl ?_
  refine p_aload_n rfl ?_
  refine p_getR fk_X0_20 gt_29 rfl rfl ?_
  refine p_aload_n rfl ?_
  refine p_getR fk_X0_20 gt_29 rfl rfl ?_
  refine p_getI fk_X0_63 gt_35 rfl ?_
  refine p_cI (av := [_]) ⟨mok_X10_all, Or.inr ⟨79, rfl, rfl, sta_X10_all, Or.inr lk_X0_79⟩⟩ (Nat.le_of_ble_eq_true rfl) (Nat.le_of_ble_eq_true rfl) rfl (fun _ h => pc_X10_all hl h) h (fun v121 M120 h => ?_)
  refine p_aload_n rfl ?_
  refine p_getI fk_X0_30 gt_29 rfl ?_
  refine p_cI (av := [_, _, _]) ⟨mok_X2_turnWith, Or.inl ⟨83, 35, 2, 0, _, rfl, rfl, rfl, gt_35, rfl, ins_X2_turnWith, Or.inr lk_X0_83⟩⟩ (Nat.le_of_ble_eq_true rfl) (Nat.le_of_ble_eq_true rfl) rfl (fun _ h => pc_X2_turnWith_35 hl h) h (fun v123 M122 h => ?_)
  refine p_putI fk_X0_34 gt_29 rfl ?_
  refine p_aload_n rfl ?_
  refine p_getI fk_X0_34 gt_29 rfl ?_
  refine p_ldc co_X0_86 ?_
  refine p_icmp_le h 80 rfl rfl (fun _ h => ?_) (fun _ h => ?_)
  · exact p_ret rfl h
  · refine p_aload_n rfl ?_
    refine p_iconst cn_4 ?_
    refine p_aload_n rfl ?_
    refine p_getI fk_X0_87 gt_1 rfl ?_
    refine p_cV (av := [_, _, _]) ⟨mok_X4_blame, Or.inl ⟨90, 1, 4, 0, _, rfl, rfl, rfl, gt_1, rfl, ins_X4_blame, Or.inr lk_X0_90⟩⟩ (Nat.le_of_ble_eq_true rfl) (Nat.le_of_ble_eq_true rfl) rfl (fun _ h => pc_X4_blame_1 hl h) h (fun M124 h => ?_)
    exact p_ret rfl h
set_option maxRecDepth 100000 in
theorem S_X0_read_29_1_85 {l : Launch} (hl : l.stackTraces = false) {k52 : PM → Int32 → Option PR} (hk52 : ∀ {M : PM} {x2 : Int32} {r : PR}, k52 M x2 = some r → PW l 9 Y_X0_read k_X0_read_52 [vR 29, vR 1, vI x2] [] M r) {M : PM} {x2 : Int32} {t2 : Int32} {r : PR} (h : F_X0_read_29_1_85 k52 M x2 t2 = some r) : PW l 9 Y_X0_read k_X0_read_85 [vR 29, vR 1, vI x2] [vI t2, vR 1, vR 29] M r := by
  unfold F_X0_read_29_1_85 at h
  refine p_cV (av := [_, _, _]) ⟨mok_X0_readClause, Or.inl ⟨75, 29, 0, 0, _, rfl, rfl, rfl, gt_29, rfl, ins_X0_readClause, Or.inl lk_X0_75⟩⟩ (Nat.le_of_ble_eq_true rfl) (Nat.le_of_ble_eq_true rfl) rfl (fun _ h => pc_X0_readClause_29_1 hl h) h (fun M125 h => ?_)
  have h := lt_h h
  refine p_iinc (Nat.le_of_ble_eq_true rfl) rfl (ci_1 _) rfl ?_
  refine p_goto 30 rfl rfl ?_
  exact p_fg (hk52 h) ⟨Or.inr rfl, Or.inr rfl, Or.inr rfl, trivial⟩
set_option maxRecDepth 100000 in
theorem S_X0_read_29_1_52 {l : Launch} (hl : l.stackTraces = false) : ∀ (n : Nat) {M : PM} {x2 : Int32} {r : PR}, F_X0_read_29_1_52  n M x2 = some r → PW l 9 Y_X0_read k_X0_read_52 [vR 29, vR 1, vI x2] [] M r := by
  intro n
  induction n with
  | zero => intro M x2 r h; exact nomatch (show (none : Option PR) = some r from h)
  | succ n ih =>
    intro M x2 r h
    rw [F_X0_read_29_1_52] at h
    refine p_iload_n rfl ?_
    refine p_bipush cb_60 ?_
    refine p_icmp_gt h 50 rfl rfl (fun _ h => ?_) (fun _ h => ?_)
    · exact p_fg (S_X0_read_29_1_94 hl h) ⟨Or.inr rfl, Or.inr rfl, Or.inl rfl, trivial⟩
    · refine p_aload_n rfl ?_
      refine p_cI (av := [_]) ⟨mok_X4_isFine, Or.inl ⟨66, 1, 4, 0, _, rfl, rfl, rfl, gt_1, rfl, ins_X4_isFine, Or.inr lk_X0_66⟩⟩ (Nat.le_of_ble_eq_true rfl) (Nat.le_of_ble_eq_true rfl) rfl (fun _ h => pc_X4_isFine_1 hl h) h (fun v128 M127 h => ?_)
      refine p_if_eq h 50 rfl rfl (fun _ h => ?_) (fun _ h => ?_)
      · exact p_fg (S_X0_read_29_1_94 hl h) ⟨Or.inr rfl, Or.inr rfl, Or.inl rfl, trivial⟩
      · refine p_aload_n rfl ?_
        refine p_cI (av := [_]) ⟨mok_X4_isAtEnd, Or.inl ⟨72, 1, 4, 0, _, rfl, rfl, rfl, gt_1, rfl, ins_X4_isAtEnd, Or.inr lk_X0_72⟩⟩ (Nat.le_of_ble_eq_true rfl) (Nat.le_of_ble_eq_true rfl) rfl (fun _ h => pc_X4_isAtEnd_1 hl h) h (fun v130 M129 h => ?_)
        refine p_if_ne h 50 rfl rfl (fun _ h => ?_) (fun _ h => ?_)
        · refine p_aload_n rfl ?_
          refine p_aload_n rfl ?_
          refine p_iload_n rfl ?_
          refine p_bipush cb_60 ?_
          refine p_icmp_ge h 46 rfl rfl (fun _ h => ?_) (fun _ h => ?_)
          · refine p_iconst cn_0 ?_
            exact p_fg (S_X0_read_29_1_85 hl (fun h => ih h) h) ⟨Or.inr rfl, Or.inr rfl, Or.inr rfl, trivial⟩
          · refine p_iconst cn_1 ?_
            refine p_goto 47 rfl rfl ?_
            exact p_fg (S_X0_read_29_1_85 hl (fun h => ih h) h) ⟨Or.inr rfl, Or.inr rfl, Or.inr rfl, trivial⟩
        · exact p_fg (S_X0_read_29_1_94 hl h) ⟨Or.inr rfl, Or.inr rfl, Or.inl rfl, trivial⟩
set_option maxRecDepth 100000 in
theorem S_X0_read_29_1_28 {l : Launch} (hl : l.stackTraces = false) : ∀ (n : Nat) {M : PM} {x2 : Int32} {r : PR}, F_X0_read_29_1_28  n M x2 = some r → PW l 9 Y_X0_read k_X0_read_28 [vR 29, vR 1, vI x2] [] M r := by
  intro n
  induction n with
  | zero => intro M x2 r h; exact nomatch (show (none : Option PR) = some r from h)
  | succ n ih =>
    intro M x2 r h
    rw [F_X0_read_29_1_28] at h
    refine p_iload_n rfl ?_
    refine p_aload_n rfl ?_
    refine p_getR fk_X0_23 gt_29 rfl rfl ?_
    refine p_alen gt_40 (by simp) al_120 ?_
    refine p_icmp_ge h 28 rfl rfl (fun _ h => ?_) (fun _ h => ?_)
    · refine p_iconst cn_0 ?_
      refine p_istore_n (Nat.le_of_ble_eq_true rfl) rfl ?_
      exact p_fg (S_X0_read_29_1_52 hl FUEL h) ⟨Or.inr rfl, Or.inr rfl, Or.inr rfl, trivial⟩
    · refine p_aload_n rfl ?_
      refine p_getR fk_X0_23 gt_29 rfl rfl ?_
      refine p_iload_n rfl ?_
      refine p_iconst cn_0 ?_
      refine p_iast gt_40 h (fun h => ?_)
      have h := lt_h h
      refine p_iinc (Nat.le_of_ble_eq_true rfl) rfl (ci_1 _) rfl ?_
      refine p_goto 16 rfl rfl ?_
      exact p_fg (ih h) ⟨Or.inr rfl, Or.inr rfl, Or.inr rfl, trivial⟩
set_option maxRecDepth 100000 in
theorem S_X0_read_29_1 {l : Launch} (hl : l.stackTraces = false) {M : PM}  {r : PR} (h : F_X0_read_29_1 M  = some r) : PW l 9 Y_X0_read k_X0_read [vR 29, vR 1, jk] [] M r := by
  unfold F_X0_read_29_1 at h
  refine p_aload_n rfl ?_
  refine p_getR fk_X0_14 gt_29 rfl rfl ?_
  refine p_iconst cn_0 ?_
  refine p_putI fk_X0_63 gt_30 rfl ?_
  refine p_aload_n rfl ?_
  refine p_getR fk_X0_20 gt_29 rfl rfl ?_
  refine p_iconst cn_0 ?_
  refine p_putI fk_X0_63 gt_35 rfl ?_
  refine p_aload_n rfl ?_
  refine p_iconst cn_0 ?_
  refine p_putI fk_X0_47 gt_29 rfl ?_
  refine p_aload_n rfl ?_
  refine p_iconst cn_0 ?_
  refine p_putI fk_X0_50 gt_29 rfl ?_
  refine p_iconst cn_0 ?_
  refine p_istore_n (Nat.le_of_ble_eq_true rfl) rfl ?_
  exact p_fg (S_X0_read_29_1_28 hl FUEL h) ⟨Or.inr rfl, Or.inr rfl, Or.inr rfl, trivial⟩
set_option maxRecDepth 100000 in
theorem pc_X0_read_29_1 {l : Launch} (hl : l.stackTraces = false) {M : PM}  {r : PR} (h : F_X0_read_29_1 M  = some r) : PC l 9 Y_X0_read [vR 29, vR 1] M r := pc_of hl (by decide +kernel) cok_X0_read (Nat.le_of_ble_eq_true rfl) rfl (S_X0_read_29_1 hl  h) rfl
def F_X10_closeText_0 (M : PM)  : Option PR := some (.inl (some (.int (mI (sI (sI M 0 13 (mI M 1 6)) 1 1 0) 1 5))), sI (sI M 0 13 (mI M 1 6)) 1 1 0)
set_option maxRecDepth 100000 in
theorem S_X10_closeText_0 {l : Launch} (hl : l.stackTraces = false) {M : PM}  {r : PR} (h : F_X10_closeText_0 M  = some r) : PW l 0 Y_X10_closeText k_X10_closeText [vR 0] [] M r := by
  unfold F_X10_closeText_0 at h
  refine p_aload_n rfl ?_
  refine p_aload_n rfl ?_
  refine p_getR fk_X10_21 gt_0 rfl rfl ?_
  refine p_getI fk_X10_384 gt_1 rfl ?_
  refine p_putI fk_X10_90 gt_0 rfl ?_
  refine p_aload_n rfl ?_
  refine p_getR fk_X10_21 gt_0 rfl rfl ?_
  refine p_iconst cn_0 ?_
  refine p_putI fk_X10_94 gt_1 rfl ?_
  refine p_aload_n rfl ?_
  refine p_getR fk_X10_21 gt_0 rfl rfl ?_
  refine p_getI fk_X10_385 gt_1 rfl ?_
  exact p_iret rfl h
set_option maxRecDepth 100000 in
theorem pc_X10_closeText_0 {l : Launch} (hl : l.stackTraces = false) {M : PM}  {r : PR} (h : F_X10_closeText_0 M  = some r) : PC l 0 Y_X10_closeText [vR 0] M r := pc_of hl (by decide +kernel) cok_X10_closeText (Nat.le_of_ble_eq_true rfl) rfl (S_X10_closeText_0 hl  h) rfl
def F_X10_left (M : PM) (a0 : Int32) (a1 : Int32) : Option PR := (if 1 ≤ a1 then if a1 = 0 then none else lt (a0 - a0 / a1 * a1) fun y132 => (if 0 ≤ y132 then some (.inl (some (.int y132)), M) else some (.inl (some (.int (y132 + a1))), M)) else some (.inl (some (.int 0)), M))
set_option maxRecDepth 100000 in
theorem S_X10_left {l : Launch} (hl : l.stackTraces = false) {M : PM} {a0 : Int32} {a1 : Int32} {r : PR} (h : F_X10_left M a0 a1 = some r) : PW l 0 Y_X10_left k_X10_left [vI a0, vI a1, jk] [] M r := by
  unfold F_X10_left at h
  refine p_iload_n rfl ?_
  refine p_iconst cn_1 ?_
  refine p_icmp_ge h 5 rfl rfl (fun _ h => ?_) (fun _ h => ?_)
  · refine p_iload_n rfl ?_
    refine p_iload_n rfl ?_
    refine p_irem h (fun h => ?_)
    have h := lt_h h
    refine p_istore_n (Nat.le_of_ble_eq_true rfl) rfl ?_
    refine p_iload_n rfl ?_
    refine p_if_ge h 15 rfl rfl (fun _ h => ?_) (fun _ h => ?_)
    · refine p_iload_n rfl ?_
      exact p_iret rfl h
    · refine p_iload_n rfl ?_
      refine p_iload_n rfl ?_
      refine p_iadd ?_
      refine p_goto 16 rfl rfl ?_
      exact p_iret rfl h
  · refine p_iconst cn_0 ?_
    exact p_iret rfl h
set_option maxRecDepth 100000 in
theorem pc_X10_left {l : Launch} (hl : l.stackTraces = false) {M : PM} {a0 : Int32} {a1 : Int32} {r : PR} (h : F_X10_left M a0 a1 = some r) : PC l 0 Y_X10_left [vI a0, vI a1] M r := pc_of hl (by decide +kernel) cok_X10_left (Nat.le_of_ble_eq_true rfl) rfl (S_X10_left hl  h) rfl
def F_X2_lawsThatMeet_4_53 (k5 : PM → Int32 → Int32 → Int32 → Int32 → Option PR) (M : PM) (x1 : Int32) (x2 : Int32) (x4 : Int32) (t0 : Int32) (t1 : Int32) : Option PR := lt (t0 ||| t1) fun y133 => lt (x4 + 1) fun y134 => k5 M x1 x2 y133 y134
def F_X2_lawsThatMeet_4_5 : Nat → PM → Int32 → Int32 → Int32 → Int32 → Option PR
  | 0, _, _, _, _, _ => none
  | n + 1, M, x1, x2, x3, x4 => (if mI M 4 4 ≤ x4 then some (.inl (some (.int x3)), M) else if ixOK x4 12 = true then cI (F_X10_commonDivisor M (mA M 5 x4.toNatClampNeg) x1) fun v136 M135 => if ixOK x4 12 = true then cI (F_X10_left M135 ((mA M135 6 x4.toNatClampNeg) - x2) v136) fun v138 M137 => (if v138 = 0 then F_X2_lawsThatMeet_4_53 (F_X2_lawsThatMeet_4_5 n) M137 x1 x2 x4 x3 (1 <<< (x4 &&& 31)) else F_X2_lawsThatMeet_4_53 (F_X2_lawsThatMeet_4_5 n) M137 x1 x2 x4 x3 0) else none else none)
def F_X2_lawsThatMeet_4 (M : PM) (a1 : Int32) (a2 : Int32) : Option PR := F_X2_lawsThatMeet_4_5 FUEL M a1 a2 0 0
set_option maxRecDepth 100000 in
theorem S_X2_lawsThatMeet_4_53 {l : Launch} (hl : l.stackTraces = false) {k5 : PM → Int32 → Int32 → Int32 → Int32 → Option PR} (hk5 : ∀ {M : PM} {x1 : Int32} {x2 : Int32} {x3 : Int32} {x4 : Int32} {r : PR}, k5 M x1 x2 x3 x4 = some r → PW l 1 Y_X2_lawsThatMeet k_X2_lawsThatMeet_5 [vR 4, vI x1, vI x2, vI x3, vI x4, jk] [] M r) {M : PM} {x1 : Int32} {x2 : Int32} {x4 : Int32} {t0 : Int32} {t1 : Int32} {r : PR} (h : F_X2_lawsThatMeet_4_53 k5 M x1 x2 x4 t0 t1 = some r) : PW l 1 Y_X2_lawsThatMeet k_X2_lawsThatMeet_53 [vR 4, vI x1, vI x2, jk, vI x4, jk] [vI t1, vI t0] M r := by
  unfold F_X2_lawsThatMeet_4_53 at h
  refine p_ior ?_
  have h := lt_h h
  refine p_istore_n (Nat.le_of_ble_eq_true rfl) rfl ?_
  have h := lt_h h
  refine p_iinc (Nat.le_of_ble_eq_true rfl) rfl (ci_1 _) rfl ?_
  refine p_goto 4 rfl rfl ?_
  exact p_fg (hk5 h) ⟨Or.inr rfl, Or.inr rfl, Or.inr rfl, Or.inr rfl, Or.inr rfl, Or.inl rfl, trivial⟩
set_option maxRecDepth 100000 in
theorem S_X2_lawsThatMeet_4_5 {l : Launch} (hl : l.stackTraces = false) : ∀ (n : Nat) {M : PM} {x1 : Int32} {x2 : Int32} {x3 : Int32} {x4 : Int32} {r : PR}, F_X2_lawsThatMeet_4_5  n M x1 x2 x3 x4 = some r → PW l 1 Y_X2_lawsThatMeet k_X2_lawsThatMeet_5 [vR 4, vI x1, vI x2, vI x3, vI x4, jk] [] M r := by
  intro n
  induction n with
  | zero => intro M x1 x2 x3 x4 r h; exact nomatch (show (none : Option PR) = some r from h)
  | succ n ih =>
    intro M x1 x2 x3 x4 r h
    rw [F_X2_lawsThatMeet_4_5] at h
    refine p_iload rfl ?_
    refine p_aload_n rfl ?_
    refine p_getI fk_X2_31 gt_4 rfl ?_
    refine p_icmp_ge h 34 rfl rfl (fun _ h => ?_) (fun _ h => ?_)
    · refine p_iload_n rfl ?_
      exact p_iret rfl h
    · refine p_aload_n rfl ?_
      refine p_getR fk_X2_15 gt_4 rfl rfl ?_
      refine p_iload rfl ?_
      refine p_iald gt_5 h (fun h => ?_)
      refine p_iload_n rfl ?_
      refine p_cI (av := [_, _]) ⟨mok_X10_commonDivisor, Or.inr ⟨65, rfl, rfl, sta_X10_commonDivisor, Or.inr lk_X2_65⟩⟩ (Nat.le_of_ble_eq_true rfl) (Nat.le_of_ble_eq_true rfl) rfl (fun _ h => pc_X10_commonDivisor hl h) h (fun v136 M135 h => ?_)
      refine p_istore (Nat.le_of_ble_eq_true rfl) rfl ?_
      refine p_iload_n rfl ?_
      refine p_aload_n rfl ?_
      refine p_getR fk_X2_21 gt_4 rfl rfl ?_
      refine p_iload rfl ?_
      refine p_iald gt_6 h (fun h => ?_)
      refine p_iload_n rfl ?_
      refine p_isub ?_
      refine p_iload rfl ?_
      refine p_cI (av := [_, _]) ⟨mok_X10_left, Or.inr ⟨54, rfl, rfl, sta_X10_left, Or.inr lk_X2_54⟩⟩ (Nat.le_of_ble_eq_true rfl) (Nat.le_of_ble_eq_true rfl) rfl (fun _ h => pc_X10_left hl h) h (fun v138 M137 h => ?_)
      refine p_if_ne h 29 rfl rfl (fun _ h => ?_) (fun _ h => ?_)
      · refine p_iconst cn_1 ?_
        refine p_iload rfl ?_
        refine p_ishl ?_
        refine p_goto 30 rfl rfl ?_
        exact p_fg (S_X2_lawsThatMeet_4_53 hl (fun h => ih h) h) ⟨Or.inr rfl, Or.inr rfl, Or.inr rfl, Or.inl rfl, Or.inr rfl, Or.inl rfl, trivial⟩
      · refine p_iconst cn_0 ?_
        exact p_fg (S_X2_lawsThatMeet_4_53 hl (fun h => ih h) h) ⟨Or.inr rfl, Or.inr rfl, Or.inr rfl, Or.inl rfl, Or.inr rfl, Or.inl rfl, trivial⟩
set_option maxRecDepth 100000 in
theorem S_X2_lawsThatMeet_4 {l : Launch} (hl : l.stackTraces = false) {M : PM} {a1 : Int32} {a2 : Int32} {r : PR} (h : F_X2_lawsThatMeet_4 M a1 a2 = some r) : PW l 1 Y_X2_lawsThatMeet k_X2_lawsThatMeet [vR 4, vI a1, vI a2, jk, jk, jk] [] M r := by
  unfold F_X2_lawsThatMeet_4 at h
  refine p_iconst cn_0 ?_
  refine p_istore_n (Nat.le_of_ble_eq_true rfl) rfl ?_
  refine p_iconst cn_0 ?_
  refine p_istore (Nat.le_of_ble_eq_true rfl) rfl ?_
  exact p_fg (S_X2_lawsThatMeet_4_5 hl FUEL h) ⟨Or.inr rfl, Or.inr rfl, Or.inr rfl, Or.inr rfl, Or.inr rfl, Or.inl rfl, trivial⟩
set_option maxRecDepth 100000 in
theorem pc_X2_lawsThatMeet_4 {l : Launch} (hl : l.stackTraces = false) {M : PM} {a1 : Int32} {a2 : Int32} {r : PR} (h : F_X2_lawsThatMeet_4 M a1 a2 = some r) : PC l 1 Y_X2_lawsThatMeet [vR 4, vI a1, vI a2] M r := pc_of hl (by decide +kernel) cok_X2_lawsThatMeet (Nat.le_of_ble_eq_true rfl) rfl (S_X2_lawsThatMeet_4 hl  h) rfl
def F_X2_isFull_4 (M : PM)  : Option PR := (if mI M 4 4 < 12 then (if (0 : Int32) &&& 1 = 0 then some (.inl (some (.int 0)), M) else none) else (if (1 : Int32) &&& 1 = 1 then some (.inl (some (.int 1)), M) else none))
set_option maxRecDepth 100000 in
theorem S_X2_isFull_4 {l : Launch} (hl : l.stackTraces = false) {M : PM}  {r : PR} (h : F_X2_isFull_4 M  = some r) : PW l 0 Y_X2_isFull k_X2_isFull [vR 4] [] M r := by
  unfold F_X2_isFull_4 at h
  refine p_aload_n rfl ?_
  refine p_getI fk_X2_31 gt_4 rfl ?_
  refine p_aload_n rfl ?_
  refine p_getR fk_X2_15 gt_4 rfl rfl ?_
  refine p_alen gt_5 (by simp) al_12 ?_
  refine p_icmp_lt h 8 rfl rfl (fun _ h => ?_) (fun _ h => ?_)
  · refine p_iconst cn_0 ?_
    exact p_zret rfl h
  · refine p_iconst cn_1 ?_
    refine p_goto 9 rfl rfl ?_
    exact p_zret rfl h
set_option maxRecDepth 100000 in
theorem pc_X2_isFull_4 {l : Launch} (hl : l.stackTraces = false) {M : PM}  {r : PR} (h : F_X2_isFull_4 M  = some r) : PC l 0 Y_X2_isFull [vR 4] M r := pc_of hl (by decide +kernel) cok_X2_isFull (Nat.le_of_ble_eq_true rfl) rfl (S_X2_isFull_4 hl  h) rfl
def F_X2_add_4 (M : PM) (a1 : Int32) (a2 : Int32) : Option PR := cI (F_X2_isFull_4 M) fun v140 M139 => (if v140 = 0 then if ixOK (mI M139 4 4) 12 = true then if ixOK (mI (sA M139 5 (mI M139 4 4).toNatClampNeg a1) 4 4) 12 = true then cJ (F_X10_everyOf (sA (sA M139 5 (mI M139 4 4).toNatClampNeg a1) 6 (mI (sA M139 5 (mI M139 4 4).toNatClampNeg a1) 4 4).toNatClampNeg a2) a1) fun v142 M141 => if ixOK (mI (sA (sA M139 5 (mI M139 4 4).toNatClampNeg a1) 6 (mI (sA M139 5 (mI M139 4 4).toNatClampNeg a1) 4 4).toNatClampNeg a2) 4 4) 12 = true then lt (sI (sB M141 7 (mI (sA (sA M139 5 (mI M139 4 4).toNatClampNeg a1) 6 (mI (sA M139 5 (mI M139 4 4).toNatClampNeg a1) 4 4).toNatClampNeg a2) 4 4).toNatClampNeg v142) 4 4 ((mI (sB M141 7 (mI (sA (sA M139 5 (mI M139 4 4).toNatClampNeg a1) 6 (mI (sA M139 5 (mI M139 4 4).toNatClampNeg a1) 4 4).toNatClampNeg a2) 4 4).toNatClampNeg v142) 4 4) + 1)) fun M143 => some (.inl none, M143) else none else none else none else some (.inl none, M139))
set_option maxRecDepth 100000 in
theorem S_X2_add_4 {l : Launch} (hl : l.stackTraces = false) {M : PM} {a1 : Int32} {a2 : Int32} {r : PR} (h : F_X2_add_4 M a1 a2 = some r) : PW l 2 Y_X2_add k_X2_add [vR 4, vI a1, vI a2] [] M r := by
  unfold F_X2_add_4 at h
  refine p_aload_n rfl ?_
  refine p_cI (av := [_]) ⟨mok_X2_isFull, Or.inl ⟨35, 4, 2, 0, _, rfl, rfl, rfl, gt_4, rfl, ins_X2_isFull, Or.inl lk_X2_35⟩⟩ (Nat.le_of_ble_eq_true rfl) (Nat.le_of_ble_eq_true rfl) rfl (fun _ h => pc_X2_isFull_4 hl h) h (fun v140 M139 h => ?_)
  refine p_if_ne h 28 rfl rfl (fun _ h => ?_) (fun _ h => ?_)
  · refine p_aload_n rfl ?_
    refine p_getR fk_X2_15 gt_4 rfl rfl ?_
    refine p_aload_n rfl ?_
    refine p_getI fk_X2_31 gt_4 rfl ?_
    refine p_iload_n rfl ?_
    refine p_iast gt_5 h (fun h => ?_)
    refine p_aload_n rfl ?_
    refine p_getR fk_X2_21 gt_4 rfl rfl ?_
    refine p_aload_n rfl ?_
    refine p_getI fk_X2_31 gt_4 rfl ?_
    refine p_iload_n rfl ?_
    refine p_iast gt_6 h (fun h => ?_)
    refine p_aload_n rfl ?_
    refine p_getR fk_X2_24 gt_4 rfl rfl ?_
    refine p_aload_n rfl ?_
    refine p_getI fk_X2_31 gt_4 rfl ?_
    refine p_iload_n rfl ?_
    refine p_cJ (av := [_]) ⟨mok_X10_everyOf, Or.inr ⟨39, rfl, rfl, sta_X10_everyOf, Or.inr lk_X2_39⟩⟩ (Nat.le_of_ble_eq_true rfl) (Nat.le_of_ble_eq_true rfl) rfl (fun _ h => pc_X10_everyOf hl h) h (fun v142 M141 h => ?_)
    refine p_last gt_7 h (fun h => ?_)
    refine p_aload_n rfl ?_
    refine p_dup rfl ?_
    refine p_getI fk_X2_31 gt_4 rfl ?_
    refine p_iconst cn_1 ?_
    refine p_iadd ?_
    refine p_putI fk_X2_31 gt_4 rfl ?_
    have h := lt_h h
    exact p_ret rfl h
  · exact p_ret rfl h
set_option maxRecDepth 100000 in
theorem pc_X2_add_4 {l : Launch} (hl : l.stackTraces = false) {M : PM} {a1 : Int32} {a2 : Int32} {r : PR} (h : F_X2_add_4 M a1 a2 = some r) : PC l 2 Y_X2_add [vR 4, vI a1, vI a2] M r := pc_of hl (by decide +kernel) cok_X2_add (Nat.le_of_ble_eq_true rfl) rfl (S_X2_add_4 hl  h) rfl
def F_X2_copy_4_30_39 : Nat → PM → Int32 → Option PR
  | 0, _, _ => none
  | n + 1, M, x2 => (if mI M 4 4 ≤ x2 then some (.inl none, M) else if ixOK x2 12 = true then if ixOK x2 12 = true then cI (F_X2_lawsThatMeet_4 M (mA M 5 x2.toNatClampNeg) (mA M 6 x2.toNatClampNeg)) fun v145 M144 => if ixOK x2 12 = true then lt (x2 + 1) fun y146 => F_X2_copy_4_30_39 n (sA M144 8 x2.toNatClampNeg v145) y146 else none else none else none)
def F_X2_copy_4_30_7 : Nat → PM → Int32 → Option PR
  | 0, _, _ => none
  | n + 1, M, x2 => (if mI M 30 4 ≤ x2 then F_X2_copy_4_30_39 FUEL M 0 else if ixOK x2 12 = true then if ixOK x2 12 = true then cV (F_X2_add_4 M (mA M 31 x2.toNatClampNeg) (mA M 32 x2.toNatClampNeg)) fun M147 => lt (x2 + 1) fun y148 => F_X2_copy_4_30_7 n M147 y148 else none else none)
def F_X2_copy_4_30 (M : PM)  : Option PR := F_X2_copy_4_30_7 FUEL (sI M 4 4 0) 0
set_option maxRecDepth 100000 in
theorem S_X2_copy_4_30_39 {l : Launch} (hl : l.stackTraces = false) : ∀ (n : Nat) {M : PM} {x2 : Int32} {r : PR}, F_X2_copy_4_30_39  n M x2 = some r → PW l 3 Y_X2_copy k_X2_copy_39 [vR 4, jk, vI x2] [] M r := by
  intro n
  induction n with
  | zero => intro M x2 r h; exact nomatch (show (none : Option PR) = some r from h)
  | succ n ih =>
    intro M x2 r h
    rw [F_X2_copy_4_30_39] at h
    refine p_iload_n rfl ?_
    refine p_aload_n rfl ?_
    refine p_getI fk_X2_31 gt_4 rfl ?_
    refine p_icmp_ge h 43 rfl rfl (fun _ h => ?_) (fun _ h => ?_)
    · exact p_ret rfl h
    · refine p_aload_n rfl ?_
      refine p_getR fk_X2_28 gt_4 rfl rfl ?_
      refine p_iload_n rfl ?_
      refine p_aload_n rfl ?_
      refine p_aload_n rfl ?_
      refine p_getR fk_X2_15 gt_4 rfl rfl ?_
      refine p_iload_n rfl ?_
      refine p_iald gt_5 h (fun h => ?_)
      refine p_aload_n rfl ?_
      refine p_getR fk_X2_21 gt_4 rfl rfl ?_
      refine p_iload_n rfl ?_
      refine p_iald gt_6 h (fun h => ?_)
      refine p_cI (av := [_, _, _]) ⟨mok_X2_lawsThatMeet, Or.inl ⟨47, 4, 2, 0, _, rfl, rfl, rfl, gt_4, rfl, ins_X2_lawsThatMeet, Or.inl lk_X2_47⟩⟩ (Nat.le_of_ble_eq_true rfl) (Nat.le_of_ble_eq_true rfl) rfl (fun _ h => pc_X2_lawsThatMeet_4 hl h) h (fun v145 M144 h => ?_)
      refine p_iast gt_8 h (fun h => ?_)
      have h := lt_h h
      refine p_iinc (Nat.le_of_ble_eq_true rfl) rfl (ci_1 _) rfl ?_
      refine p_goto 23 rfl rfl ?_
      exact p_fg (ih h) ⟨Or.inr rfl, Or.inl rfl, Or.inr rfl, trivial⟩
set_option maxRecDepth 100000 in
theorem S_X2_copy_4_30_7 {l : Launch} (hl : l.stackTraces = false) : ∀ (n : Nat) {M : PM} {x2 : Int32} {r : PR}, F_X2_copy_4_30_7  n M x2 = some r → PW l 3 Y_X2_copy k_X2_copy_7 [vR 4, vR 30, vI x2] [] M r := by
  intro n
  induction n with
  | zero => intro M x2 r h; exact nomatch (show (none : Option PR) = some r from h)
  | succ n ih =>
    intro M x2 r h
    rw [F_X2_copy_4_30_7] at h
    refine p_iload_n rfl ?_
    refine p_aload_n rfl ?_
    refine p_getI fk_X2_31 gt_30 rfl ?_
    refine p_icmp_ge h 21 rfl rfl (fun _ h => ?_) (fun _ h => ?_)
    · refine p_iconst cn_0 ?_
      refine p_istore_n (Nat.le_of_ble_eq_true rfl) rfl ?_
      exact p_fg (S_X2_copy_4_30_39 hl FUEL h) ⟨Or.inr rfl, Or.inl rfl, Or.inr rfl, trivial⟩
    · refine p_aload_n rfl ?_
      refine p_aload_n rfl ?_
      refine p_getR fk_X2_15 gt_30 rfl rfl ?_
      refine p_iload_n rfl ?_
      refine p_iald gt_31 h (fun h => ?_)
      refine p_aload_n rfl ?_
      refine p_getR fk_X2_21 gt_30 rfl rfl ?_
      refine p_iload_n rfl ?_
      refine p_iald gt_32 h (fun h => ?_)
      refine p_cV (av := [_, _, _]) ⟨mok_X2_add, Or.inl ⟨43, 4, 2, 0, _, rfl, rfl, rfl, gt_4, rfl, ins_X2_add, Or.inl lk_X2_43⟩⟩ (Nat.le_of_ble_eq_true rfl) (Nat.le_of_ble_eq_true rfl) rfl (fun _ h => pc_X2_add_4 hl h) h (fun M147 h => ?_)
      have h := lt_h h
      refine p_iinc (Nat.le_of_ble_eq_true rfl) rfl (ci_1 _) rfl ?_
      refine p_goto 5 rfl rfl ?_
      exact p_fg (ih h) ⟨Or.inr rfl, Or.inr rfl, Or.inr rfl, trivial⟩
set_option maxRecDepth 100000 in
theorem S_X2_copy_4_30 {l : Launch} (hl : l.stackTraces = false) {M : PM}  {r : PR} (h : F_X2_copy_4_30 M  = some r) : PW l 3 Y_X2_copy k_X2_copy [vR 4, vR 30, jk] [] M r := by
  unfold F_X2_copy_4_30 at h
  refine p_aload_n rfl ?_
  refine p_iconst cn_0 ?_
  refine p_putI fk_X2_31 gt_4 rfl ?_
  refine p_iconst cn_0 ?_
  refine p_istore_n (Nat.le_of_ble_eq_true rfl) rfl ?_
  exact p_fg (S_X2_copy_4_30_7 hl FUEL h) ⟨Or.inr rfl, Or.inr rfl, Or.inr rfl, trivial⟩
set_option maxRecDepth 100000 in
theorem pc_X2_copy_4_30 {l : Launch} (hl : l.stackTraces = false) {M : PM}  {r : PR} (h : F_X2_copy_4_30 M  = some r) : PC l 3 Y_X2_copy [vR 4, vR 30] M r := pc_of hl (by decide +kernel) cok_X2_copy (Nat.le_of_ble_eq_true rfl) rfl (S_X2_copy_4_30 hl  h) rfl
def F_X2_lawsThatMeet_9_53 (k5 : PM → Int32 → Int32 → Int32 → Int32 → Option PR) (M : PM) (x1 : Int32) (x2 : Int32) (x4 : Int32) (t0 : Int32) (t1 : Int32) : Option PR := lt (t0 ||| t1) fun y149 => lt (x4 + 1) fun y150 => k5 M x1 x2 y149 y150
def F_X2_lawsThatMeet_9_5 : Nat → PM → Int32 → Int32 → Int32 → Int32 → Option PR
  | 0, _, _, _, _, _ => none
  | n + 1, M, x1, x2, x3, x4 => (if mI M 9 4 ≤ x4 then some (.inl (some (.int x3)), M) else if ixOK x4 6 = true then cI (F_X10_commonDivisor M (mA M 10 x4.toNatClampNeg) x1) fun v152 M151 => if ixOK x4 6 = true then cI (F_X10_left M151 ((mA M151 11 x4.toNatClampNeg) - x2) v152) fun v154 M153 => (if v154 = 0 then F_X2_lawsThatMeet_9_53 (F_X2_lawsThatMeet_9_5 n) M153 x1 x2 x4 x3 (1 <<< (x4 &&& 31)) else F_X2_lawsThatMeet_9_53 (F_X2_lawsThatMeet_9_5 n) M153 x1 x2 x4 x3 0) else none else none)
def F_X2_lawsThatMeet_9 (M : PM) (a1 : Int32) (a2 : Int32) : Option PR := F_X2_lawsThatMeet_9_5 FUEL M a1 a2 0 0
set_option maxRecDepth 100000 in
theorem S_X2_lawsThatMeet_9_53 {l : Launch} (hl : l.stackTraces = false) {k5 : PM → Int32 → Int32 → Int32 → Int32 → Option PR} (hk5 : ∀ {M : PM} {x1 : Int32} {x2 : Int32} {x3 : Int32} {x4 : Int32} {r : PR}, k5 M x1 x2 x3 x4 = some r → PW l 1 Y_X2_lawsThatMeet k_X2_lawsThatMeet_5 [vR 9, vI x1, vI x2, vI x3, vI x4, jk] [] M r) {M : PM} {x1 : Int32} {x2 : Int32} {x4 : Int32} {t0 : Int32} {t1 : Int32} {r : PR} (h : F_X2_lawsThatMeet_9_53 k5 M x1 x2 x4 t0 t1 = some r) : PW l 1 Y_X2_lawsThatMeet k_X2_lawsThatMeet_53 [vR 9, vI x1, vI x2, jk, vI x4, jk] [vI t1, vI t0] M r := by
  unfold F_X2_lawsThatMeet_9_53 at h
  refine p_ior ?_
  have h := lt_h h
  refine p_istore_n (Nat.le_of_ble_eq_true rfl) rfl ?_
  have h := lt_h h
  refine p_iinc (Nat.le_of_ble_eq_true rfl) rfl (ci_1 _) rfl ?_
  refine p_goto 4 rfl rfl ?_
  exact p_fg (hk5 h) ⟨Or.inr rfl, Or.inr rfl, Or.inr rfl, Or.inr rfl, Or.inr rfl, Or.inl rfl, trivial⟩
set_option maxRecDepth 100000 in
theorem S_X2_lawsThatMeet_9_5 {l : Launch} (hl : l.stackTraces = false) : ∀ (n : Nat) {M : PM} {x1 : Int32} {x2 : Int32} {x3 : Int32} {x4 : Int32} {r : PR}, F_X2_lawsThatMeet_9_5  n M x1 x2 x3 x4 = some r → PW l 1 Y_X2_lawsThatMeet k_X2_lawsThatMeet_5 [vR 9, vI x1, vI x2, vI x3, vI x4, jk] [] M r := by
  intro n
  induction n with
  | zero => intro M x1 x2 x3 x4 r h; exact nomatch (show (none : Option PR) = some r from h)
  | succ n ih =>
    intro M x1 x2 x3 x4 r h
    rw [F_X2_lawsThatMeet_9_5] at h
    refine p_iload rfl ?_
    refine p_aload_n rfl ?_
    refine p_getI fk_X2_31 gt_9 rfl ?_
    refine p_icmp_ge h 34 rfl rfl (fun _ h => ?_) (fun _ h => ?_)
    · refine p_iload_n rfl ?_
      exact p_iret rfl h
    · refine p_aload_n rfl ?_
      refine p_getR fk_X2_15 gt_9 rfl rfl ?_
      refine p_iload rfl ?_
      refine p_iald gt_10 h (fun h => ?_)
      refine p_iload_n rfl ?_
      refine p_cI (av := [_, _]) ⟨mok_X10_commonDivisor, Or.inr ⟨65, rfl, rfl, sta_X10_commonDivisor, Or.inr lk_X2_65⟩⟩ (Nat.le_of_ble_eq_true rfl) (Nat.le_of_ble_eq_true rfl) rfl (fun _ h => pc_X10_commonDivisor hl h) h (fun v152 M151 h => ?_)
      refine p_istore (Nat.le_of_ble_eq_true rfl) rfl ?_
      refine p_iload_n rfl ?_
      refine p_aload_n rfl ?_
      refine p_getR fk_X2_21 gt_9 rfl rfl ?_
      refine p_iload rfl ?_
      refine p_iald gt_11 h (fun h => ?_)
      refine p_iload_n rfl ?_
      refine p_isub ?_
      refine p_iload rfl ?_
      refine p_cI (av := [_, _]) ⟨mok_X10_left, Or.inr ⟨54, rfl, rfl, sta_X10_left, Or.inr lk_X2_54⟩⟩ (Nat.le_of_ble_eq_true rfl) (Nat.le_of_ble_eq_true rfl) rfl (fun _ h => pc_X10_left hl h) h (fun v154 M153 h => ?_)
      refine p_if_ne h 29 rfl rfl (fun _ h => ?_) (fun _ h => ?_)
      · refine p_iconst cn_1 ?_
        refine p_iload rfl ?_
        refine p_ishl ?_
        refine p_goto 30 rfl rfl ?_
        exact p_fg (S_X2_lawsThatMeet_9_53 hl (fun h => ih h) h) ⟨Or.inr rfl, Or.inr rfl, Or.inr rfl, Or.inl rfl, Or.inr rfl, Or.inl rfl, trivial⟩
      · refine p_iconst cn_0 ?_
        exact p_fg (S_X2_lawsThatMeet_9_53 hl (fun h => ih h) h) ⟨Or.inr rfl, Or.inr rfl, Or.inr rfl, Or.inl rfl, Or.inr rfl, Or.inl rfl, trivial⟩
set_option maxRecDepth 100000 in
theorem S_X2_lawsThatMeet_9 {l : Launch} (hl : l.stackTraces = false) {M : PM} {a1 : Int32} {a2 : Int32} {r : PR} (h : F_X2_lawsThatMeet_9 M a1 a2 = some r) : PW l 1 Y_X2_lawsThatMeet k_X2_lawsThatMeet [vR 9, vI a1, vI a2, jk, jk, jk] [] M r := by
  unfold F_X2_lawsThatMeet_9 at h
  refine p_iconst cn_0 ?_
  refine p_istore_n (Nat.le_of_ble_eq_true rfl) rfl ?_
  refine p_iconst cn_0 ?_
  refine p_istore (Nat.le_of_ble_eq_true rfl) rfl ?_
  exact p_fg (S_X2_lawsThatMeet_9_5 hl FUEL h) ⟨Or.inr rfl, Or.inr rfl, Or.inr rfl, Or.inr rfl, Or.inr rfl, Or.inl rfl, trivial⟩
set_option maxRecDepth 100000 in
theorem pc_X2_lawsThatMeet_9 {l : Launch} (hl : l.stackTraces = false) {M : PM} {a1 : Int32} {a2 : Int32} {r : PR} (h : F_X2_lawsThatMeet_9 M a1 a2 = some r) : PC l 1 Y_X2_lawsThatMeet [vR 9, vI a1, vI a2] M r := pc_of hl (by decide +kernel) cok_X2_lawsThatMeet (Nat.le_of_ble_eq_true rfl) rfl (S_X2_lawsThatMeet_9 hl  h) rfl
def F_X2_isFull_9 (M : PM)  : Option PR := (if mI M 9 4 < 6 then (if (0 : Int32) &&& 1 = 0 then some (.inl (some (.int 0)), M) else none) else (if (1 : Int32) &&& 1 = 1 then some (.inl (some (.int 1)), M) else none))
set_option maxRecDepth 100000 in
theorem S_X2_isFull_9 {l : Launch} (hl : l.stackTraces = false) {M : PM}  {r : PR} (h : F_X2_isFull_9 M  = some r) : PW l 0 Y_X2_isFull k_X2_isFull [vR 9] [] M r := by
  unfold F_X2_isFull_9 at h
  refine p_aload_n rfl ?_
  refine p_getI fk_X2_31 gt_9 rfl ?_
  refine p_aload_n rfl ?_
  refine p_getR fk_X2_15 gt_9 rfl rfl ?_
  refine p_alen gt_10 (by simp) al_6 ?_
  refine p_icmp_lt h 8 rfl rfl (fun _ h => ?_) (fun _ h => ?_)
  · refine p_iconst cn_0 ?_
    exact p_zret rfl h
  · refine p_iconst cn_1 ?_
    refine p_goto 9 rfl rfl ?_
    exact p_zret rfl h
set_option maxRecDepth 100000 in
theorem pc_X2_isFull_9 {l : Launch} (hl : l.stackTraces = false) {M : PM}  {r : PR} (h : F_X2_isFull_9 M  = some r) : PC l 0 Y_X2_isFull [vR 9] M r := pc_of hl (by decide +kernel) cok_X2_isFull (Nat.le_of_ble_eq_true rfl) rfl (S_X2_isFull_9 hl  h) rfl
def F_X2_add_9 (M : PM) (a1 : Int32) (a2 : Int32) : Option PR := cI (F_X2_isFull_9 M) fun v156 M155 => (if v156 = 0 then if ixOK (mI M155 9 4) 6 = true then if ixOK (mI (sA M155 10 (mI M155 9 4).toNatClampNeg a1) 9 4) 6 = true then cJ (F_X10_everyOf (sA (sA M155 10 (mI M155 9 4).toNatClampNeg a1) 11 (mI (sA M155 10 (mI M155 9 4).toNatClampNeg a1) 9 4).toNatClampNeg a2) a1) fun v158 M157 => if ixOK (mI (sA (sA M155 10 (mI M155 9 4).toNatClampNeg a1) 11 (mI (sA M155 10 (mI M155 9 4).toNatClampNeg a1) 9 4).toNatClampNeg a2) 9 4) 6 = true then lt (sI (sB M157 12 (mI (sA (sA M155 10 (mI M155 9 4).toNatClampNeg a1) 11 (mI (sA M155 10 (mI M155 9 4).toNatClampNeg a1) 9 4).toNatClampNeg a2) 9 4).toNatClampNeg v158) 9 4 ((mI (sB M157 12 (mI (sA (sA M155 10 (mI M155 9 4).toNatClampNeg a1) 11 (mI (sA M155 10 (mI M155 9 4).toNatClampNeg a1) 9 4).toNatClampNeg a2) 9 4).toNatClampNeg v158) 9 4) + 1)) fun M159 => some (.inl none, M159) else none else none else none else some (.inl none, M155))
set_option maxRecDepth 100000 in
theorem S_X2_add_9 {l : Launch} (hl : l.stackTraces = false) {M : PM} {a1 : Int32} {a2 : Int32} {r : PR} (h : F_X2_add_9 M a1 a2 = some r) : PW l 2 Y_X2_add k_X2_add [vR 9, vI a1, vI a2] [] M r := by
  unfold F_X2_add_9 at h
  refine p_aload_n rfl ?_
  refine p_cI (av := [_]) ⟨mok_X2_isFull, Or.inl ⟨35, 9, 2, 0, _, rfl, rfl, rfl, gt_9, rfl, ins_X2_isFull, Or.inl lk_X2_35⟩⟩ (Nat.le_of_ble_eq_true rfl) (Nat.le_of_ble_eq_true rfl) rfl (fun _ h => pc_X2_isFull_9 hl h) h (fun v156 M155 h => ?_)
  refine p_if_ne h 28 rfl rfl (fun _ h => ?_) (fun _ h => ?_)
  · refine p_aload_n rfl ?_
    refine p_getR fk_X2_15 gt_9 rfl rfl ?_
    refine p_aload_n rfl ?_
    refine p_getI fk_X2_31 gt_9 rfl ?_
    refine p_iload_n rfl ?_
    refine p_iast gt_10 h (fun h => ?_)
    refine p_aload_n rfl ?_
    refine p_getR fk_X2_21 gt_9 rfl rfl ?_
    refine p_aload_n rfl ?_
    refine p_getI fk_X2_31 gt_9 rfl ?_
    refine p_iload_n rfl ?_
    refine p_iast gt_11 h (fun h => ?_)
    refine p_aload_n rfl ?_
    refine p_getR fk_X2_24 gt_9 rfl rfl ?_
    refine p_aload_n rfl ?_
    refine p_getI fk_X2_31 gt_9 rfl ?_
    refine p_iload_n rfl ?_
    refine p_cJ (av := [_]) ⟨mok_X10_everyOf, Or.inr ⟨39, rfl, rfl, sta_X10_everyOf, Or.inr lk_X2_39⟩⟩ (Nat.le_of_ble_eq_true rfl) (Nat.le_of_ble_eq_true rfl) rfl (fun _ h => pc_X10_everyOf hl h) h (fun v158 M157 h => ?_)
    refine p_last gt_12 h (fun h => ?_)
    refine p_aload_n rfl ?_
    refine p_dup rfl ?_
    refine p_getI fk_X2_31 gt_9 rfl ?_
    refine p_iconst cn_1 ?_
    refine p_iadd ?_
    refine p_putI fk_X2_31 gt_9 rfl ?_
    have h := lt_h h
    exact p_ret rfl h
  · exact p_ret rfl h
set_option maxRecDepth 100000 in
theorem pc_X2_add_9 {l : Launch} (hl : l.stackTraces = false) {M : PM} {a1 : Int32} {a2 : Int32} {r : PR} (h : F_X2_add_9 M a1 a2 = some r) : PC l 2 Y_X2_add [vR 9, vI a1, vI a2] M r := pc_of hl (by decide +kernel) cok_X2_add (Nat.le_of_ble_eq_true rfl) rfl (S_X2_add_9 hl  h) rfl
def F_X2_copy_9_35_39 : Nat → PM → Int32 → Option PR
  | 0, _, _ => none
  | n + 1, M, x2 => (if mI M 9 4 ≤ x2 then some (.inl none, M) else if ixOK x2 6 = true then if ixOK x2 6 = true then cI (F_X2_lawsThatMeet_9 M (mA M 10 x2.toNatClampNeg) (mA M 11 x2.toNatClampNeg)) fun v161 M160 => if ixOK x2 6 = true then lt (x2 + 1) fun y162 => F_X2_copy_9_35_39 n (sA M160 13 x2.toNatClampNeg v161) y162 else none else none else none)
def F_X2_copy_9_35_7 : Nat → PM → Int32 → Option PR
  | 0, _, _ => none
  | n + 1, M, x2 => (if mI M 35 4 ≤ x2 then F_X2_copy_9_35_39 FUEL M 0 else if ixOK x2 6 = true then if ixOK x2 6 = true then cV (F_X2_add_9 M (mA M 36 x2.toNatClampNeg) (mA M 37 x2.toNatClampNeg)) fun M163 => lt (x2 + 1) fun y164 => F_X2_copy_9_35_7 n M163 y164 else none else none)
def F_X2_copy_9_35 (M : PM)  : Option PR := F_X2_copy_9_35_7 FUEL (sI M 9 4 0) 0
set_option maxRecDepth 100000 in
theorem S_X2_copy_9_35_39 {l : Launch} (hl : l.stackTraces = false) : ∀ (n : Nat) {M : PM} {x2 : Int32} {r : PR}, F_X2_copy_9_35_39  n M x2 = some r → PW l 3 Y_X2_copy k_X2_copy_39 [vR 9, jk, vI x2] [] M r := by
  intro n
  induction n with
  | zero => intro M x2 r h; exact nomatch (show (none : Option PR) = some r from h)
  | succ n ih =>
    intro M x2 r h
    rw [F_X2_copy_9_35_39] at h
    refine p_iload_n rfl ?_
    refine p_aload_n rfl ?_
    refine p_getI fk_X2_31 gt_9 rfl ?_
    refine p_icmp_ge h 43 rfl rfl (fun _ h => ?_) (fun _ h => ?_)
    · exact p_ret rfl h
    · refine p_aload_n rfl ?_
      refine p_getR fk_X2_28 gt_9 rfl rfl ?_
      refine p_iload_n rfl ?_
      refine p_aload_n rfl ?_
      refine p_aload_n rfl ?_
      refine p_getR fk_X2_15 gt_9 rfl rfl ?_
      refine p_iload_n rfl ?_
      refine p_iald gt_10 h (fun h => ?_)
      refine p_aload_n rfl ?_
      refine p_getR fk_X2_21 gt_9 rfl rfl ?_
      refine p_iload_n rfl ?_
      refine p_iald gt_11 h (fun h => ?_)
      refine p_cI (av := [_, _, _]) ⟨mok_X2_lawsThatMeet, Or.inl ⟨47, 9, 2, 0, _, rfl, rfl, rfl, gt_9, rfl, ins_X2_lawsThatMeet, Or.inl lk_X2_47⟩⟩ (Nat.le_of_ble_eq_true rfl) (Nat.le_of_ble_eq_true rfl) rfl (fun _ h => pc_X2_lawsThatMeet_9 hl h) h (fun v161 M160 h => ?_)
      refine p_iast gt_13 h (fun h => ?_)
      have h := lt_h h
      refine p_iinc (Nat.le_of_ble_eq_true rfl) rfl (ci_1 _) rfl ?_
      refine p_goto 23 rfl rfl ?_
      exact p_fg (ih h) ⟨Or.inr rfl, Or.inl rfl, Or.inr rfl, trivial⟩
set_option maxRecDepth 100000 in
theorem S_X2_copy_9_35_7 {l : Launch} (hl : l.stackTraces = false) : ∀ (n : Nat) {M : PM} {x2 : Int32} {r : PR}, F_X2_copy_9_35_7  n M x2 = some r → PW l 3 Y_X2_copy k_X2_copy_7 [vR 9, vR 35, vI x2] [] M r := by
  intro n
  induction n with
  | zero => intro M x2 r h; exact nomatch (show (none : Option PR) = some r from h)
  | succ n ih =>
    intro M x2 r h
    rw [F_X2_copy_9_35_7] at h
    refine p_iload_n rfl ?_
    refine p_aload_n rfl ?_
    refine p_getI fk_X2_31 gt_35 rfl ?_
    refine p_icmp_ge h 21 rfl rfl (fun _ h => ?_) (fun _ h => ?_)
    · refine p_iconst cn_0 ?_
      refine p_istore_n (Nat.le_of_ble_eq_true rfl) rfl ?_
      exact p_fg (S_X2_copy_9_35_39 hl FUEL h) ⟨Or.inr rfl, Or.inl rfl, Or.inr rfl, trivial⟩
    · refine p_aload_n rfl ?_
      refine p_aload_n rfl ?_
      refine p_getR fk_X2_15 gt_35 rfl rfl ?_
      refine p_iload_n rfl ?_
      refine p_iald gt_36 h (fun h => ?_)
      refine p_aload_n rfl ?_
      refine p_getR fk_X2_21 gt_35 rfl rfl ?_
      refine p_iload_n rfl ?_
      refine p_iald gt_37 h (fun h => ?_)
      refine p_cV (av := [_, _, _]) ⟨mok_X2_add, Or.inl ⟨43, 9, 2, 0, _, rfl, rfl, rfl, gt_9, rfl, ins_X2_add, Or.inl lk_X2_43⟩⟩ (Nat.le_of_ble_eq_true rfl) (Nat.le_of_ble_eq_true rfl) rfl (fun _ h => pc_X2_add_9 hl h) h (fun M163 h => ?_)
      have h := lt_h h
      refine p_iinc (Nat.le_of_ble_eq_true rfl) rfl (ci_1 _) rfl ?_
      refine p_goto 5 rfl rfl ?_
      exact p_fg (ih h) ⟨Or.inr rfl, Or.inr rfl, Or.inr rfl, trivial⟩
set_option maxRecDepth 100000 in
theorem S_X2_copy_9_35 {l : Launch} (hl : l.stackTraces = false) {M : PM}  {r : PR} (h : F_X2_copy_9_35 M  = some r) : PW l 3 Y_X2_copy k_X2_copy [vR 9, vR 35, jk] [] M r := by
  unfold F_X2_copy_9_35 at h
  refine p_aload_n rfl ?_
  refine p_iconst cn_0 ?_
  refine p_putI fk_X2_31 gt_9 rfl ?_
  refine p_iconst cn_0 ?_
  refine p_istore_n (Nat.le_of_ble_eq_true rfl) rfl ?_
  exact p_fg (S_X2_copy_9_35_7 hl FUEL h) ⟨Or.inr rfl, Or.inr rfl, Or.inr rfl, trivial⟩
set_option maxRecDepth 100000 in
theorem pc_X2_copy_9_35 {l : Launch} (hl : l.stackTraces = false) {M : PM}  {r : PR} (h : F_X2_copy_9_35 M  = some r) : PC l 3 Y_X2_copy [vR 9, vR 35] M r := pc_of hl (by decide +kernel) cok_X2_copy (Nat.le_of_ble_eq_true rfl) rfl (S_X2_copy_9_35 hl  h) rfl
def F_X0_copy_3_29 (M : PM)  : Option PR := cV (F_X2_copy_4_30 M) fun M165 => cV (F_X2_copy_9_35 M165) fun M166 => if cpOK 0 0 120 120 120 = true then if cpOK 0 0 3 3 3 = true then lt (cA (cA M166 40 14 (0 : Int32).toNatClampNeg (0 : Int32).toNatClampNeg (120 : Int32).toNatClampNeg) 41 15 (0 : Int32).toNatClampNeg (0 : Int32).toNatClampNeg (3 : Int32).toNatClampNeg) fun M167 => lt (sI (sI (sI M167 3 4 (mI M167 29 4)) 3 5 (mI (sI M167 3 4 (mI M167 29 4)) 29 5)) 3 6 (mI (sI (sI M167 3 4 (mI M167 29 4)) 3 5 (mI (sI M167 3 4 (mI M167 29 4)) 29 5)) 29 6)) fun M168 => some (.inl none, sI M168 3 7 (mI M168 29 7)) else none else none
set_option maxRecDepth 100000 in
theorem S_X0_copy_3_29 {l : Launch} (hl : l.stackTraces = false) {M : PM}  {r : PR} (h : F_X0_copy_3_29 M  = some r) : PW l 4 Y_X0_copy k_X0_copy [vR 3, vR 29] [] M r := by
  unfold F_X0_copy_3_29 at h
  refine p_aload_n rfl ?_
  refine p_getR fk_X0_14 gt_3 rfl rfl ?_
  refine p_aload_n rfl ?_
  refine p_getR fk_X0_14 gt_29 rfl rfl ?_
  refine p_cV (av := [_, _]) ⟨mok_X2_copy, Or.inl ⟨37, 4, 2, 0, _, rfl, rfl, rfl, gt_4, rfl, ins_X2_copy, Or.inr lk_X0_37⟩⟩ (Nat.le_of_ble_eq_true rfl) (Nat.le_of_ble_eq_true rfl) rfl (fun _ h => pc_X2_copy_4_30 hl h) h (fun M165 h => ?_)
  refine p_aload_n rfl ?_
  refine p_getR fk_X0_20 gt_3 rfl rfl ?_
  refine p_aload_n rfl ?_
  refine p_getR fk_X0_20 gt_29 rfl rfl ?_
  refine p_cV (av := [_, _]) ⟨mok_X2_copy, Or.inl ⟨37, 9, 2, 0, _, rfl, rfl, rfl, gt_9, rfl, ins_X2_copy, Or.inr lk_X0_37⟩⟩ (Nat.le_of_ble_eq_true rfl) (Nat.le_of_ble_eq_true rfl) rfl (fun _ h => pc_X2_copy_9_35 hl h) h (fun M166 h => ?_)
  refine p_aload_n rfl ?_
  refine p_getR fk_X0_23 gt_29 rfl rfl ?_
  refine p_iconst cn_0 ?_
  refine p_aload_n rfl ?_
  refine p_getR fk_X0_23 gt_3 rfl rfl ?_
  refine p_iconst cn_0 ?_
  refine p_aload_n rfl ?_
  refine p_getR fk_X0_23 gt_3 rfl rfl ?_
  refine p_alen gt_14 (by simp) al_120 ?_
  refine p_copyI cp_X0_41 (Nat.le_of_ble_eq_true rfl) (Nat.le_of_ble_eq_true rfl) gt_40 gt_14 h (fun h => ?_)
  refine p_aload_n rfl ?_
  refine p_getR fk_X0_27 gt_29 rfl rfl ?_
  refine p_iconst cn_0 ?_
  refine p_aload_n rfl ?_
  refine p_getR fk_X0_27 gt_3 rfl rfl ?_
  refine p_iconst cn_0 ?_
  refine p_aload_n rfl ?_
  refine p_getR fk_X0_27 gt_3 rfl rfl ?_
  refine p_alen gt_15 (by simp) al_3 ?_
  refine p_copyI cp_X0_41 (Nat.le_of_ble_eq_true rfl) (Nat.le_of_ble_eq_true rfl) gt_41 gt_15 h (fun h => ?_)
  have h := lt_h h
  refine p_aload_n rfl ?_
  refine p_aload_n rfl ?_
  refine p_getI fk_X0_47 gt_29 rfl ?_
  refine p_putI fk_X0_47 gt_3 rfl ?_
  refine p_aload_n rfl ?_
  refine p_aload_n rfl ?_
  refine p_getI fk_X0_50 gt_29 rfl ?_
  refine p_putI fk_X0_50 gt_3 rfl ?_
  refine p_aload_n rfl ?_
  refine p_aload_n rfl ?_
  refine p_getI fk_X0_30 gt_29 rfl ?_
  refine p_putI fk_X0_30 gt_3 rfl ?_
  have h := lt_h h
  refine p_aload_n rfl ?_
  refine p_aload_n rfl ?_
  refine p_getI fk_X0_34 gt_29 rfl ?_
  refine p_putI fk_X0_34 gt_3 rfl ?_
  exact p_ret rfl h
set_option maxRecDepth 100000 in
theorem pc_X0_copy_3_29 {l : Launch} (hl : l.stackTraces = false) {M : PM}  {r : PR} (h : F_X0_copy_3_29 M  = some r) : PC l 4 Y_X0_copy [vR 3, vR 29] M r := pc_of hl (by decide +kernel) cok_X0_copy (Nat.le_of_ble_eq_true rfl) rfl (S_X0_copy_3_29 hl  h) rfl
def F_X7_clear_76 (M : PM)  : Option PR := if (0 : Int32) &&& 1 = 0 then some (.inl none, sI (sI (sI M 76 7 0) 76 8 0) 76 9 (mI (sI (sI M 76 7 0) 76 8 0) 3 7)) else none
set_option maxRecDepth 100000 in
theorem S_X7_clear_76 {l : Launch} (hl : l.stackTraces = false) {M : PM}  {r : PR} (h : F_X7_clear_76 M  = some r) : PW l 0 Y_X7_clear k_X7_clear [vR 76] [] M r := by
  unfold F_X7_clear_76 at h
  refine p_aload_n rfl ?_
  refine p_iconst cn_0 ?_
  refine p_putI fk_X7_40 gt_76 rfl ?_
  refine p_aload_n rfl ?_
  refine p_iconst cn_0 ?_
  refine p_putZ fk_X7_43 gt_76 rfl h (fun h => ?_)
  refine p_aload_n rfl ?_
  refine p_aload_n rfl ?_
  refine p_getR fk_X7_32 gt_76 rfl rfl ?_
  refine p_getI fk_X7_47 gt_3 rfl ?_
  refine p_putI fk_X7_28 gt_76 rfl ?_
  exact p_ret rfl h
set_option maxRecDepth 100000 in
theorem pc_X7_clear_76 {l : Launch} (hl : l.stackTraces = false) {M : PM}  {r : PR} (h : F_X7_clear_76 M  = some r) : PC l 0 Y_X7_clear [vR 76] M r := pc_of hl (by decide +kernel) cok_X7_clear (Nat.le_of_ble_eq_true rfl) rfl (S_X7_clear_76 hl  h) rfl
def F_X3_begin_16_3 (M : PM)  : Option PR := if cpOK 0 0 120 120 120 = true then some (.inl none, sI (sI (sI (cA M 14 17 (0 : Int32).toNatClampNeg (0 : Int32).toNatClampNeg (120 : Int32).toNatClampNeg) 16 4 0) 16 9 0) 16 12 0) else none
set_option maxRecDepth 100000 in
theorem S_X3_begin_16_3 {l : Launch} (hl : l.stackTraces = false) {M : PM}  {r : PR} (h : F_X3_begin_16_3 M  = some r) : PW l 1 Y_X3_begin k_X3_begin [vR 16, vR 3] [] M r := by
  unfold F_X3_begin_16_3 at h
  refine p_aload_n rfl ?_
  refine p_getR fk_X3_43 gt_3 rfl rfl ?_
  refine p_iconst cn_0 ?_
  refine p_aload_n rfl ?_
  refine p_getR fk_X3_9 gt_16 rfl rfl ?_
  refine p_iconst cn_0 ?_
  refine p_aload_n rfl ?_
  refine p_getR fk_X3_9 gt_16 rfl rfl ?_
  refine p_alen gt_17 (by simp) al_120 ?_
  refine p_copyI cp_X3_46 (Nat.le_of_ble_eq_true rfl) (Nat.le_of_ble_eq_true rfl) gt_14 gt_17 h (fun h => ?_)
  refine p_aload_n rfl ?_
  refine p_iconst cn_0 ?_
  refine p_putI fk_X3_52 gt_16 rfl ?_
  refine p_aload_n rfl ?_
  refine p_iconst cn_0 ?_
  refine p_putI fk_X3_56 gt_16 rfl ?_
  refine p_aload_n rfl ?_
  refine p_iconst cn_0 ?_
  refine p_putI fk_X3_59 gt_16 rfl ?_
  exact p_ret rfl h
set_option maxRecDepth 100000 in
theorem pc_X3_begin_16_3 {l : Launch} (hl : l.stackTraces = false) {M : PM}  {r : PR} (h : F_X3_begin_16_3 M  = some r) : PC l 1 Y_X3_begin [vR 16, vR 3] M r := pc_of hl (by decide +kernel) cok_X3_begin (Nat.le_of_ble_eq_true rfl) rfl (S_X3_begin_16_3 hl  h) rfl
def F_X10_calendar_0_21 (M : PM) (x1 : Int32) (t1 : Int32) : Option PR := bV (F_X10_need_0 M t1) fun M169 => cV (F_X4_open_1 M169 x1) fun M170 => cV (F_X0_read_29_1 M170) fun M171 => cI (F_X10_closeText_0 M171) fun v173 M172 => (if v173 = 0 then cV (F_X0_copy_3_29 M172) fun M174 => cV (F_X7_clear_76 M174) fun M175 => cV (F_X3_begin_16_3 M175) fun M176 => some (.inl (some (.int (mI (sI M176 0 5 0) 4 4))), sI M176 0 5 0) else some (.inl (some (.int (v173 - 10))), M172))
def F_X10_calendar_0_20 (M : PM) (x1 : Int32) : Option PR := F_X10_calendar_0_21 M x1 0
def F_X10_calendar_0 (M : PM) (a1 : Int32) : Option PR := (if a1 < 0 then F_X10_calendar_0_20 M a1 else (if mI M 1 1 < a1 then F_X10_calendar_0_20 M a1 else F_X10_calendar_0_21 M a1 1))
set_option maxRecDepth 100000 in
theorem S_X10_calendar_0_21 {l : Launch} (hl : l.stackTraces = false) {M : PM} {x1 : Int32} {t1 : Int32} {r : PR} (h : F_X10_calendar_0_21  M x1 t1 = some r) : PW l 10 Y_X10_calendar k_X10_calendar_21 [vR 0, vI x1, jk] [vI t1, vR 0] M r := by
  unfold F_X10_calendar_0_21 at h
  refine p_bV mok_X10_need rfl gt_0 rfl ins_X10_need lk_X10_101 (Nat.le_of_ble_eq_true rfl) (Nat.le_of_ble_eq_true rfl) rfl (fun _ h => pc_X10_need_0 hl h) h (fun M169 h => ?_)
  refine p_aload_n rfl ?_
  refine p_getR fk_X10_21 gt_0 rfl rfl ?_
  refine p_iload_n rfl ?_
  refine p_cV (av := [_, _]) ⟨mok_X4_open, Or.inl ⟨105, 1, 4, 0, _, rfl, rfl, rfl, gt_1, rfl, ins_X4_open, Or.inr lk_X10_105⟩⟩ (Nat.le_of_ble_eq_true rfl) (Nat.le_of_ble_eq_true rfl) rfl (fun _ h => pc_X4_open_1 hl h) h (fun M170 h => ?_)
  refine p_aload_n rfl ?_
  refine p_getR fk_X10_31 gt_0 rfl rfl ?_
  refine p_aload_n rfl ?_
  refine p_getR fk_X10_21 gt_0 rfl rfl ?_
  refine p_cV (av := [_, _]) ⟨mok_X0_read, Or.inl ⟨108, 29, 0, 0, _, rfl, rfl, rfl, gt_29, rfl, ins_X0_read, Or.inr lk_X10_108⟩⟩ (Nat.le_of_ble_eq_true rfl) (Nat.le_of_ble_eq_true rfl) rfl (fun _ h => pc_X0_read_29_1 hl h) h (fun M171 h => ?_)
  refine p_aload_n rfl ?_
  refine p_cI (av := [_]) ⟨mok_X10_closeText, Or.inl ⟨112, 0, 10, 0, _, rfl, rfl, rfl, gt_0, rfl, ins_X10_closeText, Or.inl lk_X10_112⟩⟩ (Nat.le_of_ble_eq_true rfl) (Nat.le_of_ble_eq_true rfl) rfl (fun _ h => pc_X10_closeText_0 hl h) h (fun v173 M172 h => ?_)
  refine p_istore_n (Nat.le_of_ble_eq_true rfl) rfl ?_
  refine p_iload_n rfl ?_
  refine p_if_eq h 30 rfl rfl (fun _ h => ?_) (fun _ h => ?_)
  · refine p_aload_n rfl ?_
    refine p_getR fk_X10_27 gt_0 rfl rfl ?_
    refine p_aload_n rfl ?_
    refine p_getR fk_X10_31 gt_0 rfl rfl ?_
    refine p_cV (av := [_, _]) ⟨mok_X0_copy, Or.inl ⟨116, 3, 0, 0, _, rfl, rfl, rfl, gt_3, rfl, ins_X0_copy, Or.inr lk_X10_116⟩⟩ (Nat.le_of_ble_eq_true rfl) (Nat.le_of_ble_eq_true rfl) rfl (fun _ h => pc_X0_copy_3_29 hl h) h (fun M174 h => ?_)
    refine p_aload_n rfl ?_
    refine p_getR fk_X10_47 gt_0 rfl rfl ?_
    refine p_cV (av := [_]) ⟨mok_X7_clear, Or.inl ⟨119, 76, 7, 0, _, rfl, rfl, rfl, gt_76, rfl, ins_X7_clear, Or.inr lk_X10_119⟩⟩ (Nat.le_of_ble_eq_true rfl) (Nat.le_of_ble_eq_true rfl) rfl (fun _ h => pc_X7_clear_76 hl h) h (fun M175 h => ?_)
    refine p_aload_n rfl ?_
    refine p_getR fk_X10_34 gt_0 rfl rfl ?_
    refine p_aload_n rfl ?_
    refine p_getR fk_X10_27 gt_0 rfl rfl ?_
    refine p_cV (av := [_, _]) ⟨mok_X3_begin, Or.inl ⟨122, 16, 3, 0, _, rfl, rfl, rfl, gt_16, rfl, ins_X3_begin, Or.inr lk_X10_122⟩⟩ (Nat.le_of_ble_eq_true rfl) (Nat.le_of_ble_eq_true rfl) rfl (fun _ h => pc_X3_begin_16_3 hl h) h (fun M176 h => ?_)
    refine p_aload_n rfl ?_
    refine p_iconst cn_0 ?_
    refine p_putI fk_X10_125 gt_0 rfl ?_
    refine p_aload_n rfl ?_
    refine p_getR fk_X10_27 gt_0 rfl rfl ?_
    refine p_getR fk_X10_128 gt_3 rfl rfl ?_
    refine p_getI fk_X10_132 gt_4 rfl ?_
    exact p_iret rfl h
  · refine p_iload_n rfl ?_
    refine p_bipush cb_10 ?_
    refine p_isub ?_
    exact p_iret rfl h
set_option maxRecDepth 100000 in
theorem S_X10_calendar_0_20 {l : Launch} (hl : l.stackTraces = false) {M : PM} {x1 : Int32} {r : PR} (h : F_X10_calendar_0_20  M x1 = some r) : PW l 10 Y_X10_calendar k_X10_calendar_20 [vR 0, vI x1, jk] [vR 0] M r := by
  unfold F_X10_calendar_0_20 at h
  refine p_iconst cn_0 ?_
  exact p_fg (S_X10_calendar_0_21 hl h) ⟨Or.inr rfl, Or.inr rfl, Or.inl rfl, trivial⟩
set_option maxRecDepth 100000 in
theorem S_X10_calendar_0 {l : Launch} (hl : l.stackTraces = false) {M : PM} {a1 : Int32} {r : PR} (h : F_X10_calendar_0 M a1 = some r) : PW l 10 Y_X10_calendar k_X10_calendar [vR 0, vI a1, jk] [] M r := by
  unfold F_X10_calendar_0 at h
  refine p_aload_n rfl ?_
  refine p_iload_n rfl ?_
  refine p_if_lt h 10 rfl rfl (fun _ h => ?_) (fun _ h => ?_)
  · exact p_fg (S_X10_calendar_0_20 hl h) ⟨Or.inr rfl, Or.inr rfl, Or.inl rfl, trivial⟩
  · refine p_iload_n rfl ?_
    refine p_aload_n rfl ?_
    refine p_getR fk_X10_21 gt_0 rfl rfl ?_
    refine p_getI fk_X10_94 gt_1 rfl ?_
    refine p_icmp_gt h 10 rfl rfl (fun _ h => ?_) (fun _ h => ?_)
    · exact p_fg (S_X10_calendar_0_20 hl h) ⟨Or.inr rfl, Or.inr rfl, Or.inl rfl, trivial⟩
    · refine p_iconst cn_1 ?_
      refine p_goto 11 rfl rfl ?_
      exact p_fg (S_X10_calendar_0_21 hl h) ⟨Or.inr rfl, Or.inr rfl, Or.inl rfl, trivial⟩
set_option maxRecDepth 100000 in
theorem pc_X10_calendar_0 {l : Launch} (hl : l.stackTraces = false) {M : PM} {a1 : Int32} {r : PR} (h : F_X10_calendar_0 M a1 = some r) : PC l 10 Y_X10_calendar [vR 0, vI a1] M r := pc_of hl (by decide +kernel) cok_X10_calendar (Nat.le_of_ble_eq_true rfl) rfl (S_X10_calendar_0 hl  h) rfl
def F_X7_clear_82 (M : PM)  : Option PR := if (0 : Int32) &&& 1 = 0 then some (.inl none, sI (sI (sI M 82 7 0) 82 8 0) 82 9 (mI (sI (sI M 82 7 0) 82 8 0) 3 7)) else none
set_option maxRecDepth 100000 in
theorem S_X7_clear_82 {l : Launch} (hl : l.stackTraces = false) {M : PM}  {r : PR} (h : F_X7_clear_82 M  = some r) : PW l 0 Y_X7_clear k_X7_clear [vR 82] [] M r := by
  unfold F_X7_clear_82 at h
  refine p_aload_n rfl ?_
  refine p_iconst cn_0 ?_
  refine p_putI fk_X7_40 gt_82 rfl ?_
  refine p_aload_n rfl ?_
  refine p_iconst cn_0 ?_
  refine p_putZ fk_X7_43 gt_82 rfl h (fun h => ?_)
  refine p_aload_n rfl ?_
  refine p_aload_n rfl ?_
  refine p_getR fk_X7_32 gt_82 rfl rfl ?_
  refine p_getI fk_X7_47 gt_3 rfl ?_
  refine p_putI fk_X7_28 gt_82 rfl ?_
  exact p_ret rfl h
set_option maxRecDepth 100000 in
theorem pc_X7_clear_82 {l : Launch} (hl : l.stackTraces = false) {M : PM}  {r : PR} (h : F_X7_clear_82 M  = some r) : PC l 0 Y_X7_clear [vR 82] M r := pc_of hl (by decide +kernel) cok_X7_clear (Nat.le_of_ble_eq_true rfl) rfl (S_X7_clear_82 hl  h) rfl
def F_X7_add_82 (M : PM) (a1 : Int32) (a2 : Int32) (a3 : Int32) : Option PR := (if mI M 82 7 < 100 then if ixOK (mI M 82 7) 100 = true then if ixOK (mI (sA M 83 (mI M 82 7).toNatClampNeg a1) 82 7) 100 = true then if ixOK (mI (sA (sA M 83 (mI M 82 7).toNatClampNeg a1) 84 (mI (sA M 83 (mI M 82 7).toNatClampNeg a1) 82 7).toNatClampNeg a2) 82 7) 100 = true then lt (sA (sA (sA M 83 (mI M 82 7).toNatClampNeg a1) 84 (mI (sA M 83 (mI M 82 7).toNatClampNeg a1) 82 7).toNatClampNeg a2) 85 (mI (sA (sA M 83 (mI M 82 7).toNatClampNeg a1) 84 (mI (sA M 83 (mI M 82 7).toNatClampNeg a1) 82 7).toNatClampNeg a2) 82 7).toNatClampNeg a3) fun M177 => some (.inl none, sI M177 82 7 ((mI M177 82 7) + 1)) else none else none else none else some (.inl none, M))
set_option maxRecDepth 100000 in
theorem S_X7_add_82 {l : Launch} (hl : l.stackTraces = false) {M : PM} {a1 : Int32} {a2 : Int32} {a3 : Int32} {r : PR} (h : F_X7_add_82 M a1 a2 a3 = some r) : PW l 0 Y_X7_add k_X7_add [vR 82, vI a1, vI a2, vI a3] [] M r := by
  unfold F_X7_add_82 at h
  refine p_aload_n rfl ?_
  refine p_getI fk_X7_40 gt_82 rfl ?_
  refine p_bipush cb_100 ?_
  refine p_icmp_lt h 5 rfl rfl (fun _ h => ?_) (fun _ h => ?_)
  · refine p_aload_n rfl ?_
    refine p_getR fk_X7_11 gt_82 rfl rfl ?_
    refine p_aload_n rfl ?_
    refine p_getI fk_X7_40 gt_82 rfl ?_
    refine p_iload_n rfl ?_
    refine p_iast gt_83 h (fun h => ?_)
    refine p_aload_n rfl ?_
    refine p_getR fk_X7_15 gt_82 rfl rfl ?_
    refine p_aload_n rfl ?_
    refine p_getI fk_X7_40 gt_82 rfl ?_
    refine p_iload_n rfl ?_
    refine p_iast gt_84 h (fun h => ?_)
    refine p_aload_n rfl ?_
    refine p_getR fk_X7_18 gt_82 rfl rfl ?_
    refine p_aload_n rfl ?_
    refine p_getI fk_X7_40 gt_82 rfl ?_
    refine p_iload_n rfl ?_
    refine p_iast gt_85 h (fun h => ?_)
    have h := lt_h h
    refine p_aload_n rfl ?_
    refine p_dup rfl ?_
    refine p_getI fk_X7_40 gt_82 rfl ?_
    refine p_iconst cn_1 ?_
    refine p_iadd ?_
    refine p_putI fk_X7_40 gt_82 rfl ?_
    exact p_ret rfl h
  · exact p_ret rfl h
set_option maxRecDepth 100000 in
theorem pc_X7_add_82 {l : Launch} (hl : l.stackTraces = false) {M : PM} {a1 : Int32} {a2 : Int32} {a3 : Int32} {r : PR} (h : F_X7_add_82 M a1 a2 a3 = some r) : PC l 0 Y_X7_add [vR 82, vI a1, vI a2, vI a3] M r := pc_of hl (by decide +kernel) cok_X7_add (Nat.le_of_ble_eq_true rfl) rfl (S_X7_add_82 hl  h) rfl
def F_X8_readPlain_88_82 (M : PM)  : Option PR := cI (F_X4_takesWord_1 M 0) fun v179 M178 => (if v179 = 0 then cI (F_X4_takesWord_1 M178 6) fun v181 M180 => (if v181 = 0 then cI (F_X4_takesWord_1 M180 7) fun v183 M182 => (if v183 = 0 then cI (F_X4_takesWord_1 M182 8) fun v185 M184 => (if v185 = 0 then cI (F_X4_takesWord_1 M184 2) fun v187 M186 => (if v187 = 0 then cV (F_X4_blameNext_1 M186) fun M188 => some (.inl none, M188) else cI (F_X4_takeNumber_1 M186 0 ((mI M186 3 4) - 1)) fun v190 M189 => (if v190 = (-1) then some (.inl none, M189) else cI (F_X4_takeNumber_1 M189 0 ((mI M189 4 4) - 1)) fun v192 M191 => cV (F_X7_add_82 M191 3 v190 v192) fun M193 => some (.inl none, M193))) else cI (F_X4_takeNumber_1 M184 2 99) fun v195 M194 => (if v195 = (-1) then some (.inl none, M194) else cI (F_X4_takeNumber_1 M194 0 (v195 - 1)) fun v197 M196 => cV (F_X7_add_82 M196 2 v195 v197) fun M198 => some (.inl none, M198))) else cI (F_X4_takeNumber_1 M182 0 ((mI M182 9 4) - 1)) fun v200 M199 => cV (F_X7_add_82 M199 4 v200 0) fun M201 => some (.inl none, M201)) else cI (F_X4_takeNumber_1 M180 0 12) fun v203 M202 => cV (F_X7_add_82 M202 1 v203 0) fun M204 => some (.inl none, M204)) else cI (F_X4_takeNumber_1 M178 0 ((mI M178 4 4) - 1)) fun v206 M205 => cV (F_X7_add_82 M205 0 v206 0) fun M207 => some (.inl none, M207))
set_option maxRecDepth 100000 in
theorem S_X8_readPlain_88_82 {l : Launch} (hl : l.stackTraces = false) {M : PM}  {r : PR} (h : F_X8_readPlain_88_82 M  = some r) : PW l 8 Y_X8_readPlain k_X8_readPlain [vR 88, vR 82, jk] [] M r := by
  unfold F_X8_readPlain_88_82 at h
  refine p_aload_n rfl ?_
  refine p_getR fk_X8_9 gt_88 rfl rfl ?_
  refine p_ldcT (sj := 0) rfl ?_
  refine p_cI (av := [_, _]) ⟨mok_X4_takesWord, Or.inl ⟨57, 1, 4, 0, _, rfl, rfl, rfl, gt_1, rfl, ins_X4_takesWord, Or.inr lk_X8_57⟩⟩ (Nat.le_of_ble_eq_true rfl) (Nat.le_of_ble_eq_true rfl) rfl (fun _ h => pc_X4_takesWord_1 hl h) h (fun v179 M178 h => ?_)
  refine p_if_eq h 20 rfl rfl (fun _ h => ?_) (fun _ h => ?_)
  · refine p_aload_n rfl ?_
    refine p_getR fk_X8_9 gt_88 rfl rfl ?_
    refine p_ldcS (si := 6) rfl ?_
    refine p_cI (av := [_, _]) ⟨mok_X4_takesWord, Or.inl ⟨57, 1, 4, 0, _, rfl, rfl, rfl, gt_1, rfl, ins_X4_takesWord, Or.inr lk_X8_57⟩⟩ (Nat.le_of_ble_eq_true rfl) (Nat.le_of_ble_eq_true rfl) rfl (fun _ h => pc_X4_takesWord_1 hl h) h (fun v181 M180 h => ?_)
    refine p_if_eq h 35 rfl rfl (fun _ h => ?_) (fun _ h => ?_)
    · refine p_aload_n rfl ?_
      refine p_getR fk_X8_9 gt_88 rfl rfl ?_
      refine p_ldcS (si := 7) rfl ?_
      refine p_cI (av := [_, _]) ⟨mok_X4_takesWord, Or.inl ⟨57, 1, 4, 0, _, rfl, rfl, rfl, gt_1, rfl, ins_X4_takesWord, Or.inr lk_X8_57⟩⟩ (Nat.le_of_ble_eq_true rfl) (Nat.le_of_ble_eq_true rfl) rfl (fun _ h => pc_X4_takesWord_1 hl h) h (fun v183 M182 h => ?_)
      refine p_if_eq h 55 rfl rfl (fun _ h => ?_) (fun _ h => ?_)
      · refine p_aload_n rfl ?_
        refine p_getR fk_X8_9 gt_88 rfl rfl ?_
        refine p_ldcS (si := 8) rfl ?_
        refine p_cI (av := [_, _]) ⟨mok_X4_takesWord, Or.inl ⟨57, 1, 4, 0, _, rfl, rfl, rfl, gt_1, rfl, ins_X4_takesWord, Or.inr lk_X8_57⟩⟩ (Nat.le_of_ble_eq_true rfl) (Nat.le_of_ble_eq_true rfl) rfl (fun _ h => pc_X4_takesWord_1 hl h) h (fun v185 M184 h => ?_)
        refine p_if_eq h 81 rfl rfl (fun _ h => ?_) (fun _ h => ?_)
        · refine p_aload_n rfl ?_
          refine p_getR fk_X8_9 gt_88 rfl rfl ?_
          refine p_ldcT (sj := 1) rfl ?_
          refine p_cI (av := [_, _]) ⟨mok_X4_takesWord, Or.inl ⟨57, 1, 4, 0, _, rfl, rfl, rfl, gt_1, rfl, ins_X4_takesWord, Or.inr lk_X8_57⟩⟩ (Nat.le_of_ble_eq_true rfl) (Nat.le_of_ble_eq_true rfl) rfl (fun _ h => pc_X4_takesWord_1 hl h) h (fun v187 M186 h => ?_)
          refine p_if_eq h 114 rfl rfl (fun _ h => ?_) (fun _ h => ?_)
          · refine p_aload_n rfl ?_
            refine p_getR fk_X8_9 gt_88 rfl rfl ?_
            refine p_cV (av := [_]) ⟨mok_X4_blameNext, Or.inl ⟨34, 1, 4, 0, _, rfl, rfl, rfl, gt_1, rfl, ins_X4_blameNext, Or.inr lk_X8_34⟩⟩ (Nat.le_of_ble_eq_true rfl) (Nat.le_of_ble_eq_true rfl) rfl (fun _ h => pc_X4_blameNext_1 hl h) h (fun M188 h => ?_)
            exact p_ret rfl h
          · refine p_aload_n rfl ?_
            refine p_getR fk_X8_9 gt_88 rfl rfl ?_
            refine p_iconst cn_0 ?_
            refine p_aload_n rfl ?_
            refine p_getR fk_X8_15 gt_88 rfl rfl ?_
            refine p_getI fk_X8_116 gt_3 rfl ?_
            refine p_iconst cn_1 ?_
            refine p_isub ?_
            refine p_cI (av := [_, _, _]) ⟨mok_X4_takeNumber, Or.inl ⟨101, 1, 4, 0, _, rfl, rfl, rfl, gt_1, rfl, ins_X4_takeNumber, Or.inr lk_X8_101⟩⟩ (Nat.le_of_ble_eq_true rfl) (Nat.le_of_ble_eq_true rfl) rfl (fun _ h => pc_X4_takeNumber_1 hl h) h (fun v190 M189 h => ?_)
            refine p_istore_n (Nat.le_of_ble_eq_true rfl) rfl ?_
            refine p_iload_n rfl ?_
            refine p_iconst cn_m1 ?_
            refine p_icmp_eq h 113 rfl rfl (fun _ h => ?_) (fun _ h => ?_)
            · refine p_goto 117 rfl rfl ?_
              exact p_ret rfl h
            · refine p_aload_n rfl ?_
              refine p_iconst cn_3 ?_
              refine p_iload_n rfl ?_
              refine p_aload_n rfl ?_
              refine p_getR fk_X8_9 gt_88 rfl rfl ?_
              refine p_iconst cn_0 ?_
              refine p_aload_n rfl ?_
              refine p_getR fk_X8_15 gt_88 rfl rfl ?_
              refine p_getR fk_X8_90 gt_3 rfl rfl ?_
              refine p_getI fk_X8_96 gt_4 rfl ?_
              refine p_iconst cn_1 ?_
              refine p_isub ?_
              refine p_cI (av := [_, _, _]) ⟨mok_X4_takeNumber, Or.inl ⟨101, 1, 4, 0, _, rfl, rfl, rfl, gt_1, rfl, ins_X4_takeNumber, Or.inr lk_X8_101⟩⟩ (Nat.le_of_ble_eq_true rfl) (Nat.le_of_ble_eq_true rfl) rfl (fun _ h => pc_X4_takeNumber_1 hl h) h (fun v192 M191 h => ?_)
              refine p_cV (av := [_, _, _, _]) ⟨mok_X7_add, Or.inl ⟨61, 82, 7, 0, _, rfl, rfl, rfl, gt_82, rfl, ins_X7_add, Or.inr lk_X8_61⟩⟩ (Nat.le_of_ble_eq_true rfl) (Nat.le_of_ble_eq_true rfl) rfl (fun _ h => pc_X7_add_82 hl h) h (fun M193 h => ?_)
              refine p_goto 117 rfl rfl ?_
              exact p_ret rfl h
        · refine p_aload_n rfl ?_
          refine p_getR fk_X8_9 gt_88 rfl rfl ?_
          refine p_iconst cn_2 ?_
          refine p_bipush cb_99 ?_
          refine p_cI (av := [_, _, _]) ⟨mok_X4_takeNumber, Or.inl ⟨101, 1, 4, 0, _, rfl, rfl, rfl, gt_1, rfl, ins_X4_takeNumber, Or.inr lk_X8_101⟩⟩ (Nat.le_of_ble_eq_true rfl) (Nat.le_of_ble_eq_true rfl) rfl (fun _ h => pc_X4_takeNumber_1 hl h) h (fun v195 M194 h => ?_)
          refine p_istore_n (Nat.le_of_ble_eq_true rfl) rfl ?_
          refine p_iload_n rfl ?_
          refine p_iconst cn_m1 ?_
          refine p_icmp_eq h 80 rfl rfl (fun _ h => ?_) (fun _ h => ?_)
          · refine p_goto 117 rfl rfl ?_
            exact p_ret rfl h
          · refine p_aload_n rfl ?_
            refine p_iconst cn_2 ?_
            refine p_iload_n rfl ?_
            refine p_aload_n rfl ?_
            refine p_getR fk_X8_9 gt_88 rfl rfl ?_
            refine p_iconst cn_0 ?_
            refine p_iload_n rfl ?_
            refine p_iconst cn_1 ?_
            refine p_isub ?_
            refine p_cI (av := [_, _, _]) ⟨mok_X4_takeNumber, Or.inl ⟨101, 1, 4, 0, _, rfl, rfl, rfl, gt_1, rfl, ins_X4_takeNumber, Or.inr lk_X8_101⟩⟩ (Nat.le_of_ble_eq_true rfl) (Nat.le_of_ble_eq_true rfl) rfl (fun _ h => pc_X4_takeNumber_1 hl h) h (fun v197 M196 h => ?_)
            refine p_cV (av := [_, _, _, _]) ⟨mok_X7_add, Or.inl ⟨61, 82, 7, 0, _, rfl, rfl, rfl, gt_82, rfl, ins_X7_add, Or.inr lk_X8_61⟩⟩ (Nat.le_of_ble_eq_true rfl) (Nat.le_of_ble_eq_true rfl) rfl (fun _ h => pc_X7_add_82 hl h) h (fun M198 h => ?_)
            refine p_goto 117 rfl rfl ?_
            exact p_ret rfl h
      · refine p_aload_n rfl ?_
        refine p_iconst cn_4 ?_
        refine p_aload_n rfl ?_
        refine p_getR fk_X8_9 gt_88 rfl rfl ?_
        refine p_iconst cn_0 ?_
        refine p_aload_n rfl ?_
        refine p_getR fk_X8_15 gt_88 rfl rfl ?_
        refine p_getR fk_X8_109 gt_3 rfl rfl ?_
        refine p_getI fk_X8_96 gt_9 rfl ?_
        refine p_iconst cn_1 ?_
        refine p_isub ?_
        refine p_cI (av := [_, _, _]) ⟨mok_X4_takeNumber, Or.inl ⟨101, 1, 4, 0, _, rfl, rfl, rfl, gt_1, rfl, ins_X4_takeNumber, Or.inr lk_X8_101⟩⟩ (Nat.le_of_ble_eq_true rfl) (Nat.le_of_ble_eq_true rfl) rfl (fun _ h => pc_X4_takeNumber_1 hl h) h (fun v200 M199 h => ?_)
        refine p_iconst cn_0 ?_
        refine p_cV (av := [_, _, _, _]) ⟨mok_X7_add, Or.inl ⟨61, 82, 7, 0, _, rfl, rfl, rfl, gt_82, rfl, ins_X7_add, Or.inr lk_X8_61⟩⟩ (Nat.le_of_ble_eq_true rfl) (Nat.le_of_ble_eq_true rfl) rfl (fun _ h => pc_X7_add_82 hl h) h (fun M201 h => ?_)
        refine p_goto 117 rfl rfl ?_
        exact p_ret rfl h
    · refine p_aload_n rfl ?_
      refine p_iconst cn_1 ?_
      refine p_aload_n rfl ?_
      refine p_getR fk_X8_9 gt_88 rfl rfl ?_
      refine p_iconst cn_0 ?_
      refine p_bipush cb_12 ?_
      refine p_cI (av := [_, _, _]) ⟨mok_X4_takeNumber, Or.inl ⟨101, 1, 4, 0, _, rfl, rfl, rfl, gt_1, rfl, ins_X4_takeNumber, Or.inr lk_X8_101⟩⟩ (Nat.le_of_ble_eq_true rfl) (Nat.le_of_ble_eq_true rfl) rfl (fun _ h => pc_X4_takeNumber_1 hl h) h (fun v203 M202 h => ?_)
      refine p_iconst cn_0 ?_
      refine p_cV (av := [_, _, _, _]) ⟨mok_X7_add, Or.inl ⟨61, 82, 7, 0, _, rfl, rfl, rfl, gt_82, rfl, ins_X7_add, Or.inr lk_X8_61⟩⟩ (Nat.le_of_ble_eq_true rfl) (Nat.le_of_ble_eq_true rfl) rfl (fun _ h => pc_X7_add_82 hl h) h (fun M204 h => ?_)
      refine p_goto 117 rfl rfl ?_
      exact p_ret rfl h
  · refine p_aload_n rfl ?_
    refine p_iconst cn_0 ?_
    refine p_aload_n rfl ?_
    refine p_getR fk_X8_9 gt_88 rfl rfl ?_
    refine p_iconst cn_0 ?_
    refine p_aload_n rfl ?_
    refine p_getR fk_X8_15 gt_88 rfl rfl ?_
    refine p_getR fk_X8_90 gt_3 rfl rfl ?_
    refine p_getI fk_X8_96 gt_4 rfl ?_
    refine p_iconst cn_1 ?_
    refine p_isub ?_
    refine p_cI (av := [_, _, _]) ⟨mok_X4_takeNumber, Or.inl ⟨101, 1, 4, 0, _, rfl, rfl, rfl, gt_1, rfl, ins_X4_takeNumber, Or.inr lk_X8_101⟩⟩ (Nat.le_of_ble_eq_true rfl) (Nat.le_of_ble_eq_true rfl) rfl (fun _ h => pc_X4_takeNumber_1 hl h) h (fun v206 M205 h => ?_)
    refine p_iconst cn_0 ?_
    refine p_cV (av := [_, _, _, _]) ⟨mok_X7_add, Or.inl ⟨61, 82, 7, 0, _, rfl, rfl, rfl, gt_82, rfl, ins_X7_add, Or.inr lk_X8_61⟩⟩ (Nat.le_of_ble_eq_true rfl) (Nat.le_of_ble_eq_true rfl) rfl (fun _ h => pc_X7_add_82 hl h) h (fun M207 h => ?_)
    refine p_goto 117 rfl rfl ?_
    exact p_ret rfl h
set_option maxRecDepth 100000 in
theorem pc_X8_readPlain_88_82 {l : Launch} (hl : l.stackTraces = false) {M : PM}  {r : PR} (h : F_X8_readPlain_88_82 M  = some r) : PC l 8 Y_X8_readPlain [vR 88, vR 82] M r := pc_of hl (by decide +kernel) cok_X8_readPlain (Nat.le_of_ble_eq_true rfl) rfl (S_X8_readPlain_88_82 hl  h) rfl
def F_X8_mayOpen_88_14 (M : PM) (x1 : Int32) : Option PR := (if 6 ≤ x1 then (if (0 : Int32) &&& 1 = 0 then some (.inl (some (.int 0)), M) else none) else (if (1 : Int32) &&& 1 = 1 then some (.inl (some (.int 1)), M) else none))
def F_X8_mayOpen_88 (M : PM) (a1 : Int32) : Option PR := (if a1 < 6 then F_X8_mayOpen_88_14 M a1 else cV (F_X4_blameTaken_1 M 3) fun M208 => F_X8_mayOpen_88_14 M208 a1)
set_option maxRecDepth 100000 in
theorem S_X8_mayOpen_88_14 {l : Launch} (hl : l.stackTraces = false) {M : PM} {x1 : Int32} {r : PR} (h : F_X8_mayOpen_88_14  M x1 = some r) : PW l 2 Y_X8_mayOpen k_X8_mayOpen_14 [jk, vI x1] [] M r := by
  unfold F_X8_mayOpen_88_14 at h
  refine p_iload_n rfl ?_
  refine p_bipush cb_6 ?_
  refine p_icmp_ge h 12 rfl rfl (fun _ h => ?_) (fun _ h => ?_)
  · refine p_iconst cn_0 ?_
    exact p_zret rfl h
  · refine p_iconst cn_1 ?_
    refine p_goto 13 rfl rfl ?_
    exact p_zret rfl h
set_option maxRecDepth 100000 in
theorem S_X8_mayOpen_88 {l : Launch} (hl : l.stackTraces = false) {M : PM} {a1 : Int32} {r : PR} (h : F_X8_mayOpen_88 M a1 = some r) : PW l 2 Y_X8_mayOpen k_X8_mayOpen [vR 88, vI a1] [] M r := by
  unfold F_X8_mayOpen_88 at h
  refine p_iload_n rfl ?_
  refine p_bipush cb_6 ?_
  refine p_icmp_lt h 7 rfl rfl (fun _ h => ?_) (fun _ h => ?_)
  · exact p_fg (S_X8_mayOpen_88_14 hl h) ⟨Or.inl rfl, Or.inr rfl, trivial⟩
  · refine p_aload_n rfl ?_
    refine p_getR fk_X8_9 gt_88 rfl rfl ?_
    refine p_iconst cn_3 ?_
    refine p_cV (av := [_, _]) ⟨mok_X4_blameTaken, Or.inl ⟨84, 1, 4, 0, _, rfl, rfl, rfl, gt_1, rfl, ins_X4_blameTaken, Or.inr lk_X8_84⟩⟩ (Nat.le_of_ble_eq_true rfl) (Nat.le_of_ble_eq_true rfl) rfl (fun _ h => pc_X4_blameTaken_1 hl h) h (fun M208 h => ?_)
    exact p_fg (S_X8_mayOpen_88_14 hl h) ⟨Or.inl rfl, Or.inr rfl, trivial⟩
set_option maxRecDepth 100000 in
theorem pc_X8_mayOpen_88 {l : Launch} (hl : l.stackTraces = false) {M : PM} {a1 : Int32} {r : PR} (h : F_X8_mayOpen_88 M a1 = some r) : PC l 2 Y_X8_mayOpen [vR 88, vI a1] M r := pc_of hl (by decide +kernel) cok_X8_mayOpen (Nat.le_of_ble_eq_true rfl) rfl (S_X8_mayOpen_88 hl  h) rfl
def F_X8_readSingle_88_82 (rc : Nat → PM → Int32 → Option PR) (M : PM) (a2 : Int32) : Option PR := cI (F_X4_takesWord_1 M 5) fun v210 M209 => (if v210 = 0 then cI (F_X4_takesSign_1 M209 91) fun v212 M211 => (if v212 = 0 then cV (F_X8_readPlain_88_82 M211) fun M213 => some (.inl none, M213) else cI (F_X8_mayOpen_88 M211 a2) fun v215 M214 => (if v215 = 0 then some (.inl none, M214) else cV (rc 0 M214 (a2 + 1)) fun M216 => cI (F_X4_takesSign_1 M216 93) fun v218 M217 => (if v218 = 0 then cV (F_X4_blameNext_1 M217) fun M219 => some (.inl none, M219) else some (.inl none, M217)))) else cI (F_X8_mayOpen_88 M209 a2) fun v221 M220 => (if v221 = 0 then some (.inl none, M220) else cV (rc 2 M220 (a2 + 1)) fun M222 => cV (F_X7_add_82 M222 5 0 0) fun M223 => some (.inl none, M223)))
set_option maxRecDepth 100000 in
theorem S_X8_readSingle_88_82 {l : Launch} (hl : l.stackTraces = false) {rc : Nat → PM → Int32 → Option PR} {gn : Nat} (hg : 9 ≤ gn) (hr0 : ∀ {M : PM} {a2 : Int32} {r : PR}, rc 0 M a2 = some r → PC l gn Y_X8_readChoice [vR 88, vR 82, vI a2] M r) (hr1 : ∀ {M : PM} {a2 : Int32} {r : PR}, rc 1 M a2 = some r → PC l gn Y_X8_readJoined [vR 88, vR 82, vI a2] M r) (hr2 : ∀ {M : PM} {a2 : Int32} {r : PR}, rc 2 M a2 = some r → PC l gn Y_X8_readSingle [vR 88, vR 82, vI a2] M r) {M : PM} {a2 : Int32} {r : PR} (h : F_X8_readSingle_88_82 rc M a2 = some r) : PW l (gn + 1) Y_X8_readSingle k_X8_readSingle [vR 88, vR 82, vI a2] [] M r := by
  unfold F_X8_readSingle_88_82 at h
  refine p_aload_n rfl ?_
  refine p_getR fk_X8_9 gt_88 rfl rfl ?_
  refine p_ldcS (si := 5) rfl ?_
  refine p_cI (av := [_, _]) ⟨mok_X4_takesWord, Or.inl ⟨57, 1, 4, 0, _, rfl, rfl, rfl, gt_1, rfl, ins_X4_takesWord, Or.inr lk_X8_57⟩⟩ (by omega) (Nat.le_of_ble_eq_true rfl) rfl (fun _ h => pc_X4_takesWord_1 hl h) h (fun v210 M209 h => ?_)
  refine p_if_eq h 21 rfl rfl (fun _ h => ?_) (fun _ h => ?_)
  · refine p_aload_n rfl ?_
    refine p_getR fk_X8_9 gt_88 rfl rfl ?_
    refine p_bipush cb_91 ?_
    refine p_cI (av := [_, _]) ⟨mok_X4_takesSign, Or.inl ⟨76, 1, 4, 0, _, rfl, rfl, rfl, gt_1, rfl, ins_X4_takesSign, Or.inr lk_X8_76⟩⟩ (by omega) (Nat.le_of_ble_eq_true rfl) rfl (fun _ h => pc_X4_takesSign_1 hl h) h (fun v212 M211 h => ?_)
    refine p_if_eq h 45 rfl rfl (fun _ h => ?_) (fun _ h => ?_)
    · refine p_aload_n rfl ?_
      refine p_aload_n rfl ?_
      refine p_cV (av := [_, _]) ⟨mok_X8_readPlain, Or.inl ⟨80, 88, 8, 0, _, rfl, rfl, rfl, gt_88, rfl, ins_X8_readPlain, Or.inl lk_X8_80⟩⟩ (by omega) (Nat.le_of_ble_eq_true rfl) rfl (fun _ h => pc_X8_readPlain_88_82 hl h) h (fun M213 h => ?_)
      exact p_ret rfl h
    · refine p_aload_n rfl ?_
      refine p_iload_n rfl ?_
      refine p_cI (av := [_, _]) ⟨mok_X8_mayOpen, Or.inl ⟨72, 88, 8, 0, _, rfl, rfl, rfl, gt_88, rfl, ins_X8_mayOpen, Or.inl lk_X8_72⟩⟩ (by omega) (Nat.le_of_ble_eq_true rfl) rfl (fun _ h => pc_X8_mayOpen_88 hl h) h (fun v215 M214 h => ?_)
      refine p_if_eq h 48 rfl rfl (fun _ h => ?_) (fun _ h => ?_)
      · exact p_ret rfl h
      · refine p_aload_n rfl ?_
        refine p_aload_n rfl ?_
        refine p_iload_n rfl ?_
        refine p_iconst cn_1 ?_
        refine p_iadd ?_
        refine p_cV (av := [_, _, _]) ⟨mok_X8_readChoice, Or.inl ⟨24, 88, 8, 0, _, rfl, rfl, rfl, gt_88, rfl, ins_X8_readChoice, Or.inl lk_X8_24⟩⟩ (Nat.le_refl _) (Nat.le_of_ble_eq_true rfl) rfl (fun _ h => hr0 h) h (fun M216 h => ?_)
        refine p_aload_n rfl ?_
        refine p_getR fk_X8_9 gt_88 rfl rfl ?_
        refine p_bipush cb_93 ?_
        refine p_cI (av := [_, _]) ⟨mok_X4_takesSign, Or.inl ⟨76, 1, 4, 0, _, rfl, rfl, rfl, gt_1, rfl, ins_X4_takesSign, Or.inr lk_X8_76⟩⟩ (by omega) (Nat.le_of_ble_eq_true rfl) rfl (fun _ h => pc_X4_takesSign_1 hl h) h (fun v218 M217 h => ?_)
        refine p_if_ne h 48 rfl rfl (fun _ h => ?_) (fun _ h => ?_)
        · refine p_aload_n rfl ?_
          refine p_getR fk_X8_9 gt_88 rfl rfl ?_
          refine p_cV (av := [_]) ⟨mok_X4_blameNext, Or.inl ⟨34, 1, 4, 0, _, rfl, rfl, rfl, gt_1, rfl, ins_X4_blameNext, Or.inr lk_X8_34⟩⟩ (by omega) (Nat.le_of_ble_eq_true rfl) rfl (fun _ h => pc_X4_blameNext_1 hl h) h (fun M219 h => ?_)
          refine p_goto 48 rfl rfl ?_
          exact p_ret rfl h
        · exact p_ret rfl h
  · refine p_aload_n rfl ?_
    refine p_iload_n rfl ?_
    refine p_cI (av := [_, _]) ⟨mok_X8_mayOpen, Or.inl ⟨72, 88, 8, 0, _, rfl, rfl, rfl, gt_88, rfl, ins_X8_mayOpen, Or.inl lk_X8_72⟩⟩ (by omega) (Nat.le_of_ble_eq_true rfl) rfl (fun _ h => pc_X8_mayOpen_88 hl h) h (fun v221 M220 h => ?_)
    refine p_if_eq h 48 rfl rfl (fun _ h => ?_) (fun _ h => ?_)
    · exact p_ret rfl h
    · refine p_aload_n rfl ?_
      refine p_aload_n rfl ?_
      refine p_iload_n rfl ?_
      refine p_iconst cn_1 ?_
      refine p_iadd ?_
      refine p_cV (av := [_, _, _]) ⟨mok_X8_readSingle, Or.inl ⟨65, 88, 8, 0, _, rfl, rfl, rfl, gt_88, rfl, ins_X8_readSingle, Or.inl lk_X8_65⟩⟩ (Nat.le_refl _) (Nat.le_of_ble_eq_true rfl) rfl (fun _ h => hr2 h) h (fun M222 h => ?_)
      refine p_aload_n rfl ?_
      refine p_iconst cn_5 ?_
      refine p_iconst cn_0 ?_
      refine p_iconst cn_0 ?_
      refine p_cV (av := [_, _, _, _]) ⟨mok_X7_add, Or.inl ⟨61, 82, 7, 0, _, rfl, rfl, rfl, gt_82, rfl, ins_X7_add, Or.inr lk_X8_61⟩⟩ (by omega) (Nat.le_of_ble_eq_true rfl) rfl (fun _ h => pc_X7_add_82 hl h) h (fun M223 h => ?_)
      refine p_goto 48 rfl rfl ?_
      exact p_ret rfl h
set_option maxRecDepth 100000 in
theorem pc_X8_readSingle_88_82 {l : Launch} (hl : l.stackTraces = false) {rc : Nat → PM → Int32 → Option PR} {gn : Nat} (hg : 9 ≤ gn) (hr0 : ∀ {M : PM} {a2 : Int32} {r : PR}, rc 0 M a2 = some r → PC l gn Y_X8_readChoice [vR 88, vR 82, vI a2] M r) (hr1 : ∀ {M : PM} {a2 : Int32} {r : PR}, rc 1 M a2 = some r → PC l gn Y_X8_readJoined [vR 88, vR 82, vI a2] M r) (hr2 : ∀ {M : PM} {a2 : Int32} {r : PR}, rc 2 M a2 = some r → PC l gn Y_X8_readSingle [vR 88, vR 82, vI a2] M r) {M : PM} {a2 : Int32} {r : PR} (h : F_X8_readSingle_88_82 rc M a2 = some r) : PC l (gn + 1) Y_X8_readSingle [vR 88, vR 82, vI a2] M r := pc_of hl (by decide +kernel) cok_X8_readSingle (Nat.le_of_ble_eq_true rfl) rfl (S_X8_readSingle_88_82 hl hg hr0 hr1 hr2 h) rfl
def F_X8_readJoined_88_82_8 (rc : Nat → PM → Int32 → Option PR) : Nat → PM → Int32 → Int32 → Option PR
  | 0, _, _, _ => none
  | n + 1, M, x2, x3 => (if 200 ≤ x3 then some (.inl none, M) else cI (F_X4_takesWord_1 M 9) fun v225 M224 => (if v225 = 0 then some (.inl none, M224) else cV (rc 2 M224 x2) fun M226 => cV (F_X7_add_82 M226 6 0 0) fun M227 => lt (x3 + 1) fun y228 => F_X8_readJoined_88_82_8 rc n M227 x2 y228))
def F_X8_readJoined_88_82 (rc : Nat → PM → Int32 → Option PR) (M : PM) (a2 : Int32) : Option PR := cV (rc 2 M a2) fun M229 => F_X8_readJoined_88_82_8 rc FUEL M229 a2 0
set_option maxRecDepth 100000 in
theorem S_X8_readJoined_88_82_8 {l : Launch} (hl : l.stackTraces = false) {rc : Nat → PM → Int32 → Option PR} {gn : Nat} (hg : 9 ≤ gn) (hr0 : ∀ {M : PM} {a2 : Int32} {r : PR}, rc 0 M a2 = some r → PC l gn Y_X8_readChoice [vR 88, vR 82, vI a2] M r) (hr1 : ∀ {M : PM} {a2 : Int32} {r : PR}, rc 1 M a2 = some r → PC l gn Y_X8_readJoined [vR 88, vR 82, vI a2] M r) (hr2 : ∀ {M : PM} {a2 : Int32} {r : PR}, rc 2 M a2 = some r → PC l gn Y_X8_readSingle [vR 88, vR 82, vI a2] M r) : ∀ (n : Nat) {M : PM} {x2 : Int32} {x3 : Int32} {r : PR}, F_X8_readJoined_88_82_8 rc n M x2 x3 = some r → PW l (gn + 1) Y_X8_readJoined k_X8_readJoined_8 [vR 88, vR 82, vI x2, vI x3] [] M r := by
  intro n
  induction n with
  | zero => intro M x2 x3 r h; exact nomatch (show (none : Option PR) = some r from h)
  | succ n ih =>
    intro M x2 x3 r h
    rw [F_X8_readJoined_88_82_8] at h
    refine p_iload_n rfl ?_
    refine p_sipush cs_200 ?_
    refine p_icmp_ge h 25 rfl rfl (fun _ h => ?_) (fun _ h => ?_)
    · exact p_ret rfl h
    · refine p_aload_n rfl ?_
      refine p_getR fk_X8_9 gt_88 rfl rfl ?_
      refine p_ldcS (si := 9) rfl ?_
      refine p_cI (av := [_, _]) ⟨mok_X4_takesWord, Or.inl ⟨57, 1, 4, 0, _, rfl, rfl, rfl, gt_1, rfl, ins_X4_takesWord, Or.inr lk_X8_57⟩⟩ (by omega) (Nat.le_of_ble_eq_true rfl) rfl (fun _ h => pc_X4_takesWord_1 hl h) h (fun v225 M224 h => ?_)
      refine p_if_eq h 25 rfl rfl (fun _ h => ?_) (fun _ h => ?_)
      · exact p_ret rfl h
      · refine p_aload_n rfl ?_
        refine p_aload_n rfl ?_
        refine p_iload_n rfl ?_
        refine p_cV (av := [_, _, _]) ⟨mok_X8_readSingle, Or.inl ⟨65, 88, 8, 0, _, rfl, rfl, rfl, gt_88, rfl, ins_X8_readSingle, Or.inl lk_X8_65⟩⟩ (Nat.le_refl _) (Nat.le_of_ble_eq_true rfl) rfl (fun _ h => hr2 h) h (fun M226 h => ?_)
        refine p_aload_n rfl ?_
        refine p_bipush cb_6 ?_
        refine p_iconst cn_0 ?_
        refine p_iconst cn_0 ?_
        refine p_cV (av := [_, _, _, _]) ⟨mok_X7_add, Or.inl ⟨61, 82, 7, 0, _, rfl, rfl, rfl, gt_82, rfl, ins_X7_add, Or.inr lk_X8_61⟩⟩ (by omega) (Nat.le_of_ble_eq_true rfl) rfl (fun _ h => pc_X7_add_82 hl h) h (fun M227 h => ?_)
        have h := lt_h h
        refine p_iinc (Nat.le_of_ble_eq_true rfl) rfl (ci_1 _) rfl ?_
        refine p_goto 6 rfl rfl ?_
        exact p_fg (ih h) ⟨Or.inr rfl, Or.inr rfl, Or.inr rfl, Or.inr rfl, trivial⟩
set_option maxRecDepth 100000 in
theorem S_X8_readJoined_88_82 {l : Launch} (hl : l.stackTraces = false) {rc : Nat → PM → Int32 → Option PR} {gn : Nat} (hg : 9 ≤ gn) (hr0 : ∀ {M : PM} {a2 : Int32} {r : PR}, rc 0 M a2 = some r → PC l gn Y_X8_readChoice [vR 88, vR 82, vI a2] M r) (hr1 : ∀ {M : PM} {a2 : Int32} {r : PR}, rc 1 M a2 = some r → PC l gn Y_X8_readJoined [vR 88, vR 82, vI a2] M r) (hr2 : ∀ {M : PM} {a2 : Int32} {r : PR}, rc 2 M a2 = some r → PC l gn Y_X8_readSingle [vR 88, vR 82, vI a2] M r) {M : PM} {a2 : Int32} {r : PR} (h : F_X8_readJoined_88_82 rc M a2 = some r) : PW l (gn + 1) Y_X8_readJoined k_X8_readJoined [vR 88, vR 82, vI a2, jk] [] M r := by
  unfold F_X8_readJoined_88_82 at h
  refine p_aload_n rfl ?_
  refine p_aload_n rfl ?_
  refine p_iload_n rfl ?_
  refine p_cV (av := [_, _, _]) ⟨mok_X8_readSingle, Or.inl ⟨65, 88, 8, 0, _, rfl, rfl, rfl, gt_88, rfl, ins_X8_readSingle, Or.inl lk_X8_65⟩⟩ (Nat.le_refl _) (Nat.le_of_ble_eq_true rfl) rfl (fun _ h => hr2 h) h (fun M229 h => ?_)
  refine p_iconst cn_0 ?_
  refine p_istore_n (Nat.le_of_ble_eq_true rfl) rfl ?_
  exact p_fg (S_X8_readJoined_88_82_8 hl hg hr0 hr1 hr2 FUEL h) ⟨Or.inr rfl, Or.inr rfl, Or.inr rfl, Or.inr rfl, trivial⟩
set_option maxRecDepth 100000 in
theorem pc_X8_readJoined_88_82 {l : Launch} (hl : l.stackTraces = false) {rc : Nat → PM → Int32 → Option PR} {gn : Nat} (hg : 9 ≤ gn) (hr0 : ∀ {M : PM} {a2 : Int32} {r : PR}, rc 0 M a2 = some r → PC l gn Y_X8_readChoice [vR 88, vR 82, vI a2] M r) (hr1 : ∀ {M : PM} {a2 : Int32} {r : PR}, rc 1 M a2 = some r → PC l gn Y_X8_readJoined [vR 88, vR 82, vI a2] M r) (hr2 : ∀ {M : PM} {a2 : Int32} {r : PR}, rc 2 M a2 = some r → PC l gn Y_X8_readSingle [vR 88, vR 82, vI a2] M r) {M : PM} {a2 : Int32} {r : PR} (h : F_X8_readJoined_88_82 rc M a2 = some r) : PC l (gn + 1) Y_X8_readJoined [vR 88, vR 82, vI a2] M r := pc_of hl (by decide +kernel) cok_X8_readJoined (Nat.le_of_ble_eq_true rfl) rfl (S_X8_readJoined_88_82 hl hg hr0 hr1 hr2 h) rfl
def F_X8_readChoice_88_82_8 (rc : Nat → PM → Int32 → Option PR) : Nat → PM → Int32 → Int32 → Option PR
  | 0, _, _, _ => none
  | n + 1, M, x2, x3 => (if 200 ≤ x3 then some (.inl none, M) else cI (F_X4_takesWord_1 M 10) fun v231 M230 => (if v231 = 0 then some (.inl none, M230) else cV (rc 1 M230 x2) fun M232 => cV (F_X7_add_82 M232 7 0 0) fun M233 => lt (x3 + 1) fun y234 => F_X8_readChoice_88_82_8 rc n M233 x2 y234))
def F_X8_readChoice_88_82 (rc : Nat → PM → Int32 → Option PR) (M : PM) (a2 : Int32) : Option PR := cV (rc 1 M a2) fun M235 => F_X8_readChoice_88_82_8 rc FUEL M235 a2 0
set_option maxRecDepth 100000 in
theorem S_X8_readChoice_88_82_8 {l : Launch} (hl : l.stackTraces = false) {rc : Nat → PM → Int32 → Option PR} {gn : Nat} (hg : 9 ≤ gn) (hr0 : ∀ {M : PM} {a2 : Int32} {r : PR}, rc 0 M a2 = some r → PC l gn Y_X8_readChoice [vR 88, vR 82, vI a2] M r) (hr1 : ∀ {M : PM} {a2 : Int32} {r : PR}, rc 1 M a2 = some r → PC l gn Y_X8_readJoined [vR 88, vR 82, vI a2] M r) (hr2 : ∀ {M : PM} {a2 : Int32} {r : PR}, rc 2 M a2 = some r → PC l gn Y_X8_readSingle [vR 88, vR 82, vI a2] M r) : ∀ (n : Nat) {M : PM} {x2 : Int32} {x3 : Int32} {r : PR}, F_X8_readChoice_88_82_8 rc n M x2 x3 = some r → PW l (gn + 1) Y_X8_readChoice k_X8_readChoice_8 [vR 88, vR 82, vI x2, vI x3] [] M r := by
  intro n
  induction n with
  | zero => intro M x2 x3 r h; exact nomatch (show (none : Option PR) = some r from h)
  | succ n ih =>
    intro M x2 x3 r h
    rw [F_X8_readChoice_88_82_8] at h
    refine p_iload_n rfl ?_
    refine p_sipush cs_200 ?_
    refine p_icmp_ge h 25 rfl rfl (fun _ h => ?_) (fun _ h => ?_)
    · exact p_ret rfl h
    · refine p_aload_n rfl ?_
      refine p_getR fk_X8_9 gt_88 rfl rfl ?_
      refine p_ldcS (si := 10) rfl ?_
      refine p_cI (av := [_, _]) ⟨mok_X4_takesWord, Or.inl ⟨57, 1, 4, 0, _, rfl, rfl, rfl, gt_1, rfl, ins_X4_takesWord, Or.inr lk_X8_57⟩⟩ (by omega) (Nat.le_of_ble_eq_true rfl) rfl (fun _ h => pc_X4_takesWord_1 hl h) h (fun v231 M230 h => ?_)
      refine p_if_eq h 25 rfl rfl (fun _ h => ?_) (fun _ h => ?_)
      · exact p_ret rfl h
      · refine p_aload_n rfl ?_
        refine p_aload_n rfl ?_
        refine p_iload_n rfl ?_
        refine p_cV (av := [_, _, _]) ⟨mok_X8_readJoined, Or.inl ⟨52, 88, 8, 0, _, rfl, rfl, rfl, gt_88, rfl, ins_X8_readJoined, Or.inl lk_X8_52⟩⟩ (Nat.le_refl _) (Nat.le_of_ble_eq_true rfl) rfl (fun _ h => hr1 h) h (fun M232 h => ?_)
        refine p_aload_n rfl ?_
        refine p_bipush cb_7 ?_
        refine p_iconst cn_0 ?_
        refine p_iconst cn_0 ?_
        refine p_cV (av := [_, _, _, _]) ⟨mok_X7_add, Or.inl ⟨61, 82, 7, 0, _, rfl, rfl, rfl, gt_82, rfl, ins_X7_add, Or.inr lk_X8_61⟩⟩ (by omega) (Nat.le_of_ble_eq_true rfl) rfl (fun _ h => pc_X7_add_82 hl h) h (fun M233 h => ?_)
        have h := lt_h h
        refine p_iinc (Nat.le_of_ble_eq_true rfl) rfl (ci_1 _) rfl ?_
        refine p_goto 6 rfl rfl ?_
        exact p_fg (ih h) ⟨Or.inr rfl, Or.inr rfl, Or.inr rfl, Or.inr rfl, trivial⟩
set_option maxRecDepth 100000 in
theorem S_X8_readChoice_88_82 {l : Launch} (hl : l.stackTraces = false) {rc : Nat → PM → Int32 → Option PR} {gn : Nat} (hg : 9 ≤ gn) (hr0 : ∀ {M : PM} {a2 : Int32} {r : PR}, rc 0 M a2 = some r → PC l gn Y_X8_readChoice [vR 88, vR 82, vI a2] M r) (hr1 : ∀ {M : PM} {a2 : Int32} {r : PR}, rc 1 M a2 = some r → PC l gn Y_X8_readJoined [vR 88, vR 82, vI a2] M r) (hr2 : ∀ {M : PM} {a2 : Int32} {r : PR}, rc 2 M a2 = some r → PC l gn Y_X8_readSingle [vR 88, vR 82, vI a2] M r) {M : PM} {a2 : Int32} {r : PR} (h : F_X8_readChoice_88_82 rc M a2 = some r) : PW l (gn + 1) Y_X8_readChoice k_X8_readChoice [vR 88, vR 82, vI a2, jk] [] M r := by
  unfold F_X8_readChoice_88_82 at h
  refine p_aload_n rfl ?_
  refine p_aload_n rfl ?_
  refine p_iload_n rfl ?_
  refine p_cV (av := [_, _, _]) ⟨mok_X8_readJoined, Or.inl ⟨52, 88, 8, 0, _, rfl, rfl, rfl, gt_88, rfl, ins_X8_readJoined, Or.inl lk_X8_52⟩⟩ (Nat.le_refl _) (Nat.le_of_ble_eq_true rfl) rfl (fun _ h => hr1 h) h (fun M235 h => ?_)
  refine p_iconst cn_0 ?_
  refine p_istore_n (Nat.le_of_ble_eq_true rfl) rfl ?_
  exact p_fg (S_X8_readChoice_88_82_8 hl hg hr0 hr1 hr2 FUEL h) ⟨Or.inr rfl, Or.inr rfl, Or.inr rfl, Or.inr rfl, trivial⟩
set_option maxRecDepth 100000 in
theorem pc_X8_readChoice_88_82 {l : Launch} (hl : l.stackTraces = false) {rc : Nat → PM → Int32 → Option PR} {gn : Nat} (hg : 9 ≤ gn) (hr0 : ∀ {M : PM} {a2 : Int32} {r : PR}, rc 0 M a2 = some r → PC l gn Y_X8_readChoice [vR 88, vR 82, vI a2] M r) (hr1 : ∀ {M : PM} {a2 : Int32} {r : PR}, rc 1 M a2 = some r → PC l gn Y_X8_readJoined [vR 88, vR 82, vI a2] M r) (hr2 : ∀ {M : PM} {a2 : Int32} {r : PR}, rc 2 M a2 = some r → PC l gn Y_X8_readSingle [vR 88, vR 82, vI a2] M r) {M : PM} {a2 : Int32} {r : PR} (h : F_X8_readChoice_88_82 rc M a2 = some r) : PC l (gn + 1) Y_X8_readChoice [vR 88, vR 82, vI a2] M r := pc_of hl (by decide +kernel) cok_X8_readChoice (Nat.le_of_ble_eq_true rfl) rfl (S_X8_readChoice_88_82 hl hg hr0 hr1 hr2 h) rfl
def G_read : Nat → Nat → PM → Int32 → Option PR
  | 0, _, _, _ => none
  | n + 1, 0, M, a2 => F_X8_readChoice_88_82 (G_read n) M a2
  | n + 1, 1, M, a2 => F_X8_readJoined_88_82 (G_read n) M a2
  | n + 1, 2, M, a2 => F_X8_readSingle_88_82 (G_read n) M a2
  | _ + 1, _, _, _ => none
set_option maxRecDepth 100000 in
theorem pcG_read {l : Launch} (hl : l.stackTraces = false) : ∀ n : Nat, (∀ {M : PM} {a2 : Int32} {r : PR}, G_read n 0 M a2 = some r → PC l (9 + n) Y_X8_readChoice [vR 88, vR 82, vI a2] M r) ∧ (∀ {M : PM} {a2 : Int32} {r : PR}, G_read n 1 M a2 = some r → PC l (9 + n) Y_X8_readJoined [vR 88, vR 82, vI a2] M r) ∧ (∀ {M : PM} {a2 : Int32} {r : PR}, G_read n 2 M a2 = some r → PC l (9 + n) Y_X8_readSingle [vR 88, vR 82, vI a2] M r) := by
  intro n
  induction n with
  | zero => exact ⟨(by intros; rename_i h; exact nomatch (show (none : Option PR) = some _ from h)), (by intros; rename_i h; exact nomatch (show (none : Option PR) = some _ from h)), (by intros; rename_i h; exact nomatch (show (none : Option PR) = some _ from h))⟩
  | succ n ih =>
    obtain ⟨i0, i1, i2⟩ := ih
    exact ⟨(by intros; rename_i h; exact pc_X8_readChoice_88_82 hl (rc := G_read n) (gn := 9 + n) (Nat.le_add_right _ _) (fun h => i0 h) (fun h => i1 h) (fun h => i2 h) h), (by intros; rename_i h; exact pc_X8_readJoined_88_82 hl (rc := G_read n) (gn := 9 + n) (Nat.le_add_right _ _) (fun h => i0 h) (fun h => i1 h) (fun h => i2 h) h), (by intros; rename_i h; exact pc_X8_readSingle_88_82 hl (rc := G_read n) (gn := 9 + n) (Nat.le_add_right _ _) (fun h => i0 h) (fun h => i1 h) (fun h => i2 h) h)⟩
set_option maxRecDepth 100000 in
theorem pcg_read_0 {l : Launch} (hl : l.stackTraces = false) {M : PM} {a2 : Int32} {r : PR} (h : G_read 60 0 M a2 = some r) : PC l 69 Y_X8_readChoice [vR 88, vR 82, vI a2] M r := (pcG_read hl 60).1 h
set_option maxRecDepth 100000 in
theorem pcg_read_1 {l : Launch} (hl : l.stackTraces = false) {M : PM} {a2 : Int32} {r : PR} (h : G_read 60 1 M a2 = some r) : PC l 69 Y_X8_readJoined [vR 88, vR 82, vI a2] M r := (pcG_read hl 60).2.1 h
set_option maxRecDepth 100000 in
theorem pcg_read_2 {l : Launch} (hl : l.stackTraces = false) {M : PM} {a2 : Int32} {r : PR} (h : G_read 60 2 M a2 = some r) : PC l 69 Y_X8_readSingle [vR 88, vR 82, vI a2] M r := (pcG_read hl 60).2.2 h
def F_X7_prepare_82_72 (k2 : PM → Int32 → Option PR) (M : PM) (x1 : Int32) (t1 : Int32) (t2 : Int32) : Option PR := if (t1 ||| t2) &&& 1 = t1 ||| t2 then lt (x1 + 1) fun y236 => k2 (sI M 82 8 (t1 ||| t2)) y236 else none
def F_X7_prepare_82_52 (k2 : PM → Int32 → Option PR) (M : PM) (x1 : Int32) : Option PR := if ixOK x1 100 = true then (if mA M 83 x1.toNatClampNeg = 1 then F_X7_prepare_82_72 k2 M x1 (mI M 82 8) 1 else F_X7_prepare_82_72 k2 M x1 (mI M 82 8) 0) else none
def F_X7_prepare_82_2 : Nat → PM → Int32 → Option PR
  | 0, _, _ => none
  | n + 1, M, x1 => (if mI M 82 7 ≤ x1 then some (.inl none, M) else if ixOK x1 100 = true then (if mA M 83 x1.toNatClampNeg = 2 then if ixOK x1 100 = true then cJ (F_X10_everyOf M (mA M 84 x1.toNatClampNeg)) fun v238 M237 => if ixOK x1 100 = true then if ixOK x1 100 = true then cI (F_X10_commonTurn (sB M237 86 x1.toNatClampNeg v238) (mI (sB M237 86 x1.toNatClampNeg v238) 82 9) (mA (sB M237 86 x1.toNatClampNeg v238) 84 x1.toNatClampNeg)) fun v240 M239 => F_X7_prepare_82_52 (F_X7_prepare_82_2 n) (sI M239 82 9 v240) x1 else none else none else none else F_X7_prepare_82_52 (F_X7_prepare_82_2 n) M x1) else none)
def F_X7_prepare_82 (M : PM)  : Option PR := F_X7_prepare_82_2 FUEL M 0
set_option maxRecDepth 100000 in
theorem S_X7_prepare_82_72 {l : Launch} (hl : l.stackTraces = false) {k2 : PM → Int32 → Option PR} (hk2 : ∀ {M : PM} {x1 : Int32} {r : PR}, k2 M x1 = some r → PW l 2 Y_X7_prepare k_X7_prepare_2 [vR 82, vI x1] [] M r) {M : PM} {x1 : Int32} {t1 : Int32} {t2 : Int32} {r : PR} (h : F_X7_prepare_82_72 k2 M x1 t1 t2 = some r) : PW l 2 Y_X7_prepare k_X7_prepare_72 [vR 82, vI x1] [vI t2, vI t1, vR 82] M r := by
  unfold F_X7_prepare_82_72 at h
  refine p_ior ?_
  refine p_putZ fk_X7_43 gt_82 rfl h (fun h => ?_)
  have h := lt_h h
  refine p_iinc (Nat.le_of_ble_eq_true rfl) rfl (ci_1 _) rfl ?_
  refine p_goto 2 rfl rfl ?_
  exact p_fg (hk2 h) ⟨Or.inr rfl, Or.inr rfl, trivial⟩
set_option maxRecDepth 100000 in
theorem S_X7_prepare_82_52 {l : Launch} (hl : l.stackTraces = false) {k2 : PM → Int32 → Option PR} (hk2 : ∀ {M : PM} {x1 : Int32} {r : PR}, k2 M x1 = some r → PW l 2 Y_X7_prepare k_X7_prepare_2 [vR 82, vI x1] [] M r) {M : PM} {x1 : Int32} {r : PR} (h : F_X7_prepare_82_52 k2 M x1 = some r) : PW l 2 Y_X7_prepare k_X7_prepare_52 [vR 82, vI x1] [] M r := by
  unfold F_X7_prepare_82_52 at h
  refine p_aload_n rfl ?_
  refine p_dup rfl ?_
  refine p_getZ fk_X7_43 gt_82 rfl ?_
  refine p_aload_n rfl ?_
  refine p_getR fk_X7_11 gt_82 rfl rfl ?_
  refine p_iload_n rfl ?_
  refine p_iald gt_83 h (fun h => ?_)
  refine p_iconst cn_1 ?_
  refine p_icmp_ne h 41 rfl rfl (fun _ h => ?_) (fun _ h => ?_)
  · refine p_iconst cn_1 ?_
    refine p_goto 42 rfl rfl ?_
    exact p_fg (S_X7_prepare_82_72 hl hk2 h) ⟨Or.inr rfl, Or.inr rfl, trivial⟩
  · refine p_iconst cn_0 ?_
    exact p_fg (S_X7_prepare_82_72 hl hk2 h) ⟨Or.inr rfl, Or.inr rfl, trivial⟩
set_option maxRecDepth 100000 in
theorem S_X7_prepare_82_2 {l : Launch} (hl : l.stackTraces = false) : ∀ (n : Nat) {M : PM} {x1 : Int32} {r : PR}, F_X7_prepare_82_2  n M x1 = some r → PW l 2 Y_X7_prepare k_X7_prepare_2 [vR 82, vI x1] [] M r := by
  intro n
  induction n with
  | zero => intro M x1 r h; exact nomatch (show (none : Option PR) = some r from h)
  | succ n ih =>
    intro M x1 r h
    rw [F_X7_prepare_82_2] at h
    refine p_iload_n rfl ?_
    refine p_aload_n rfl ?_
    refine p_getI fk_X7_40 gt_82 rfl ?_
    refine p_icmp_ge h 46 rfl rfl (fun _ h => ?_) (fun _ h => ?_)
    · exact p_ret rfl h
    · refine p_aload_n rfl ?_
      refine p_getR fk_X7_11 gt_82 rfl rfl ?_
      refine p_iload_n rfl ?_
      refine p_iald gt_83 h (fun h => ?_)
      refine p_iconst cn_2 ?_
      refine p_icmp_ne h 30 rfl rfl (fun _ h => ?_) (fun _ h => ?_)
      · refine p_aload_n rfl ?_
        refine p_getR fk_X7_21 gt_82 rfl rfl ?_
        refine p_iload_n rfl ?_
        refine p_aload_n rfl ?_
        refine p_getR fk_X7_15 gt_82 rfl rfl ?_
        refine p_iload_n rfl ?_
        refine p_iald gt_84 h (fun h => ?_)
        refine p_cJ (av := [_]) ⟨mok_X10_everyOf, Or.inr ⟨58, rfl, rfl, sta_X10_everyOf, Or.inr lk_X7_58⟩⟩ (Nat.le_of_ble_eq_true rfl) (Nat.le_of_ble_eq_true rfl) rfl (fun _ h => pc_X10_everyOf hl h) h (fun v238 M237 h => ?_)
        refine p_last gt_86 h (fun h => ?_)
        refine p_aload_n rfl ?_
        refine p_aload_n rfl ?_
        refine p_getI fk_X7_28 gt_82 rfl ?_
        refine p_aload_n rfl ?_
        refine p_getR fk_X7_15 gt_82 rfl rfl ?_
        refine p_iload_n rfl ?_
        refine p_iald gt_84 h (fun h => ?_)
        refine p_cI (av := [_, _]) ⟨mok_X10_commonTurn, Or.inr ⟨62, rfl, rfl, sta_X10_commonTurn, Or.inr lk_X7_62⟩⟩ (Nat.le_of_ble_eq_true rfl) (Nat.le_of_ble_eq_true rfl) rfl (fun _ h => pc_X10_commonTurn hl h) h (fun v240 M239 h => ?_)
        refine p_putI fk_X7_28 gt_82 rfl ?_
        exact p_fg (S_X7_prepare_82_52 hl (fun h => ih h) h) ⟨Or.inr rfl, Or.inr rfl, trivial⟩
      · exact p_fg (S_X7_prepare_82_52 hl (fun h => ih h) h) ⟨Or.inr rfl, Or.inr rfl, trivial⟩
set_option maxRecDepth 100000 in
theorem S_X7_prepare_82 {l : Launch} (hl : l.stackTraces = false) {M : PM}  {r : PR} (h : F_X7_prepare_82 M  = some r) : PW l 2 Y_X7_prepare k_X7_prepare [vR 82, jk] [] M r := by
  unfold F_X7_prepare_82 at h
  refine p_iconst cn_0 ?_
  refine p_istore_n (Nat.le_of_ble_eq_true rfl) rfl ?_
  exact p_fg (S_X7_prepare_82_2 hl FUEL h) ⟨Or.inr rfl, Or.inr rfl, trivial⟩
set_option maxRecDepth 100000 in
theorem pc_X7_prepare_82 {l : Launch} (hl : l.stackTraces = false) {M : PM}  {r : PR} (h : F_X7_prepare_82 M  = some r) : PC l 2 Y_X7_prepare [vR 82] M r := pc_of hl (by decide +kernel) cok_X7_prepare (Nat.le_of_ble_eq_true rfl) rfl (S_X7_prepare_82 hl  h) rfl
def F_X8_read_88_82_27 (M : PM)  : Option PR := cV (F_X7_prepare_82 M) fun M241 => (if mI M241 82 9 ≤ 100000 then some (.inl none, M241) else cV (F_X4_blame_1 M241 4 (mI M241 1 2)) fun M242 => some (.inl none, M242))
def F_X8_read_88_82 (M : PM)  : Option PR := cV (F_X7_clear_82 M) fun M243 => cV (G_read 60 0 M243 0) fun M244 => cI (F_X4_isAtEnd_1 M244) fun v246 M245 => (if v246 = 0 then cV (F_X4_blameNext_1 M245) fun M247 => F_X8_read_88_82_27 M247 else F_X8_read_88_82_27 M245)
set_option maxRecDepth 100000 in
theorem S_X8_read_88_82_27 {l : Launch} (hl : l.stackTraces = false) {M : PM}  {r : PR} (h : F_X8_read_88_82_27  M  = some r) : PW l 70 Y_X8_read k_X8_read_27 [vR 88, vR 82] [] M r := by
  unfold F_X8_read_88_82_27 at h
  refine p_aload_n rfl ?_
  refine p_cV (av := [_]) ⟨mok_X7_prepare, Or.inl ⟨37, 82, 7, 0, _, rfl, rfl, rfl, gt_82, rfl, ins_X7_prepare, Or.inr lk_X8_37⟩⟩ (Nat.le_of_ble_eq_true rfl) (Nat.le_of_ble_eq_true rfl) rfl (fun _ h => pc_X7_prepare_82 hl h) h (fun M241 h => ?_)
  refine p_aload_n rfl ?_
  refine p_getI fk_X8_40 gt_82 rfl ?_
  refine p_ldc co_X8_44 ?_
  refine p_icmp_le h 26 rfl rfl (fun _ h => ?_) (fun _ h => ?_)
  · exact p_ret rfl h
  · refine p_aload_n rfl ?_
    refine p_getR fk_X8_9 gt_88 rfl rfl ?_
    refine p_iconst cn_4 ?_
    refine p_aload_n rfl ?_
    refine p_getR fk_X8_9 gt_88 rfl rfl ?_
    refine p_getI fk_X8_45 gt_1 rfl ?_
    refine p_cV (av := [_, _, _]) ⟨mok_X4_blame, Or.inl ⟨48, 1, 4, 0, _, rfl, rfl, rfl, gt_1, rfl, ins_X4_blame, Or.inr lk_X8_48⟩⟩ (Nat.le_of_ble_eq_true rfl) (Nat.le_of_ble_eq_true rfl) rfl (fun _ h => pc_X4_blame_1 hl h) h (fun M242 h => ?_)
    exact p_ret rfl h
set_option maxRecDepth 100000 in
theorem S_X8_read_88_82 {l : Launch} (hl : l.stackTraces = false) {M : PM}  {r : PR} (h : F_X8_read_88_82 M  = some r) : PW l 70 Y_X8_read k_X8_read [vR 88, vR 82] [] M r := by
  unfold F_X8_read_88_82 at h
  refine p_aload_n rfl ?_
  refine p_cV (av := [_]) ⟨mok_X7_clear, Or.inl ⟨19, 82, 7, 0, _, rfl, rfl, rfl, gt_82, rfl, ins_X7_clear, Or.inr lk_X8_19⟩⟩ (Nat.le_of_ble_eq_true rfl) (Nat.le_of_ble_eq_true rfl) rfl (fun _ h => pc_X7_clear_82 hl h) h (fun M243 h => ?_)
  refine p_aload_n rfl ?_
  refine p_aload_n rfl ?_
  refine p_iconst cn_0 ?_
  refine p_cV (av := [_, _, _]) ⟨mok_X8_readChoice, Or.inl ⟨24, 88, 8, 0, _, rfl, rfl, rfl, gt_88, rfl, ins_X8_readChoice, Or.inl lk_X8_24⟩⟩ (Nat.le_of_ble_eq_true rfl) (Nat.le_of_ble_eq_true rfl) rfl (fun _ h => pcg_read_0 hl h) h (fun M244 h => ?_)
  refine p_aload_n rfl ?_
  refine p_getR fk_X8_9 gt_88 rfl rfl ?_
  refine p_cI (av := [_]) ⟨mok_X4_isAtEnd, Or.inl ⟨28, 1, 4, 0, _, rfl, rfl, rfl, gt_1, rfl, ins_X4_isAtEnd, Or.inr lk_X8_28⟩⟩ (Nat.le_of_ble_eq_true rfl) (Nat.le_of_ble_eq_true rfl) rfl (fun _ h => pc_X4_isAtEnd_1 hl h) h (fun v246 M245 h => ?_)
  refine p_if_ne h 13 rfl rfl (fun _ h => ?_) (fun _ h => ?_)
  · refine p_aload_n rfl ?_
    refine p_getR fk_X8_9 gt_88 rfl rfl ?_
    refine p_cV (av := [_]) ⟨mok_X4_blameNext, Or.inl ⟨34, 1, 4, 0, _, rfl, rfl, rfl, gt_1, rfl, ins_X4_blameNext, Or.inr lk_X8_34⟩⟩ (Nat.le_of_ble_eq_true rfl) (Nat.le_of_ble_eq_true rfl) rfl (fun _ h => pc_X4_blameNext_1 hl h) h (fun M247 h => ?_)
    exact p_fg (S_X8_read_88_82_27 hl h) ⟨Or.inr rfl, Or.inr rfl, trivial⟩
  · exact p_fg (S_X8_read_88_82_27 hl h) ⟨Or.inr rfl, Or.inr rfl, trivial⟩
set_option maxRecDepth 100000 in
theorem pc_X8_read_88_82 {l : Launch} (hl : l.stackTraces = false) {M : PM}  {r : PR} (h : F_X8_read_88_82 M  = some r) : PC l 70 Y_X8_read [vR 88, vR 82] M r := pc_of hl (by decide +kernel) cok_X8_read (Nat.le_of_ble_eq_true rfl) rfl (S_X8_read_88_82 hl  h) rfl
def F_X7_copy_76_82 (M : PM)  : Option PR := if (mI (sI M 76 7 (mI M 82 7)) 82 8) &&& 1 = mI (sI M 76 7 (mI M 82 7)) 82 8 then if cpOK 0 0 (mI (sI (sI (sI M 76 7 (mI M 82 7)) 76 8 (mI (sI M 76 7 (mI M 82 7)) 82 8)) 76 9 (mI (sI (sI M 76 7 (mI M 82 7)) 76 8 (mI (sI M 76 7 (mI M 82 7)) 82 8)) 82 9)) 76 7) 100 100 = true then lt (cA (sI (sI (sI M 76 7 (mI M 82 7)) 76 8 (mI (sI M 76 7 (mI M 82 7)) 82 8)) 76 9 (mI (sI (sI M 76 7 (mI M 82 7)) 76 8 (mI (sI M 76 7 (mI M 82 7)) 82 8)) 82 9)) 83 77 (0 : Int32).toNatClampNeg (0 : Int32).toNatClampNeg (mI (sI (sI (sI M 76 7 (mI M 82 7)) 76 8 (mI (sI M 76 7 (mI M 82 7)) 82 8)) 76 9 (mI (sI (sI M 76 7 (mI M 82 7)) 76 8 (mI (sI M 76 7 (mI M 82 7)) 82 8)) 82 9)) 76 7).toNatClampNeg) fun M248 => if cpOK 0 0 (mI M248 76 7) 100 100 = true then if cpOK 0 0 (mI (cA M248 84 78 (0 : Int32).toNatClampNeg (0 : Int32).toNatClampNeg (mI M248 76 7).toNatClampNeg) 76 7) 100 100 = true then lt (cA (cA M248 84 78 (0 : Int32).toNatClampNeg (0 : Int32).toNatClampNeg (mI M248 76 7).toNatClampNeg) 85 79 (0 : Int32).toNatClampNeg (0 : Int32).toNatClampNeg (mI (cA M248 84 78 (0 : Int32).toNatClampNeg (0 : Int32).toNatClampNeg (mI M248 76 7).toNatClampNeg) 76 7).toNatClampNeg) fun M249 => if cpOK 0 0 (mI M249 76 7) 100 100 = true then some (.inl none, cB M249 86 80 (0 : Int32).toNatClampNeg (0 : Int32).toNatClampNeg (mI M249 76 7).toNatClampNeg) else none else none else none else none else none
set_option maxRecDepth 100000 in
theorem S_X7_copy_76_82 {l : Launch} (hl : l.stackTraces = false) {M : PM}  {r : PR} (h : F_X7_copy_76_82 M  = some r) : PW l 1 Y_X7_copy k_X7_copy [vR 76, vR 82] [] M r := by
  unfold F_X7_copy_76_82 at h
  refine p_aload_n rfl ?_
  refine p_aload_n rfl ?_
  refine p_getI fk_X7_40 gt_82 rfl ?_
  refine p_putI fk_X7_40 gt_76 rfl ?_
  refine p_aload_n rfl ?_
  refine p_aload_n rfl ?_
  refine p_getZ fk_X7_43 gt_82 rfl ?_
  refine p_putZ fk_X7_43 gt_76 rfl h (fun h => ?_)
  refine p_aload_n rfl ?_
  refine p_aload_n rfl ?_
  refine p_getI fk_X7_28 gt_82 rfl ?_
  refine p_putI fk_X7_28 gt_76 rfl ?_
  refine p_aload_n rfl ?_
  refine p_getR fk_X7_11 gt_82 rfl rfl ?_
  refine p_iconst cn_0 ?_
  refine p_aload_n rfl ?_
  refine p_getR fk_X7_11 gt_76 rfl rfl ?_
  refine p_iconst cn_0 ?_
  refine p_aload_n rfl ?_
  refine p_getI fk_X7_40 gt_76 rfl ?_
  refine p_copyI cp_X7_52 (Nat.le_of_ble_eq_true rfl) (Nat.le_of_ble_eq_true rfl) gt_83 gt_77 h (fun h => ?_)
  have h := lt_h h
  refine p_aload_n rfl ?_
  refine p_getR fk_X7_15 gt_82 rfl rfl ?_
  refine p_iconst cn_0 ?_
  refine p_aload_n rfl ?_
  refine p_getR fk_X7_15 gt_76 rfl rfl ?_
  refine p_iconst cn_0 ?_
  refine p_aload_n rfl ?_
  refine p_getI fk_X7_40 gt_76 rfl ?_
  refine p_copyI cp_X7_52 (Nat.le_of_ble_eq_true rfl) (Nat.le_of_ble_eq_true rfl) gt_84 gt_78 h (fun h => ?_)
  refine p_aload_n rfl ?_
  refine p_getR fk_X7_18 gt_82 rfl rfl ?_
  refine p_iconst cn_0 ?_
  refine p_aload_n rfl ?_
  refine p_getR fk_X7_18 gt_76 rfl rfl ?_
  refine p_iconst cn_0 ?_
  refine p_aload_n rfl ?_
  refine p_getI fk_X7_40 gt_76 rfl ?_
  refine p_copyI cp_X7_52 (Nat.le_of_ble_eq_true rfl) (Nat.le_of_ble_eq_true rfl) gt_85 gt_79 h (fun h => ?_)
  have h := lt_h h
  refine p_aload_n rfl ?_
  refine p_getR fk_X7_21 gt_82 rfl rfl ?_
  refine p_iconst cn_0 ?_
  refine p_aload_n rfl ?_
  refine p_getR fk_X7_21 gt_76 rfl rfl ?_
  refine p_iconst cn_0 ?_
  refine p_aload_n rfl ?_
  refine p_getI fk_X7_40 gt_76 rfl ?_
  refine p_copyJ cp_X7_52 (Nat.le_of_ble_eq_true rfl) (Nat.le_of_ble_eq_true rfl) gt_86 gt_80 h (fun h => ?_)
  exact p_ret rfl h
set_option maxRecDepth 100000 in
theorem pc_X7_copy_76_82 {l : Launch} (hl : l.stackTraces = false) {M : PM}  {r : PR} (h : F_X7_copy_76_82 M  = some r) : PC l 1 Y_X7_copy [vR 76, vR 82] M r := pc_of hl (by decide +kernel) cok_X7_copy (Nat.le_of_ble_eq_true rfl) rfl (S_X7_copy_76_82 hl  h) rfl
def F_X10_wish_0_28 (M : PM) (x1 : Int32) (t1 : Int32) : Option PR := bV (F_X10_need_0 M t1) fun M250 => cV (F_X4_open_1 M250 x1) fun M251 => cV (F_X8_read_88_82 M251) fun M252 => cI (F_X10_closeText_0 M252) fun v254 M253 => (if v254 = 0 then cV (F_X7_copy_76_82 M253) fun M255 => some (.inl (some (.int 1)), M255) else some (.inl (some (.int (v254 - 10))), M253))
def F_X10_wish_0_27 (M : PM) (x1 : Int32) : Option PR := F_X10_wish_0_28 M x1 0
def F_X10_wish_0 (M : PM) (a1 : Int32) : Option PR := (if a1 < 0 then F_X10_wish_0_27 M a1 else (if 200 < a1 then F_X10_wish_0_27 M a1 else (if mI M 1 1 < a1 then F_X10_wish_0_27 M a1 else F_X10_wish_0_28 M a1 1)))
set_option maxRecDepth 100000 in
theorem S_X10_wish_0_28 {l : Launch} (hl : l.stackTraces = false) {M : PM} {x1 : Int32} {t1 : Int32} {r : PR} (h : F_X10_wish_0_28  M x1 t1 = some r) : PW l 71 Y_X10_wish k_X10_wish_28 [vR 0, vI x1, jk] [vI t1, vR 0] M r := by
  unfold F_X10_wish_0_28 at h
  refine p_bV mok_X10_need rfl gt_0 rfl ins_X10_need lk_X10_101 (Nat.le_of_ble_eq_true rfl) (Nat.le_of_ble_eq_true rfl) rfl (fun _ h => pc_X10_need_0 hl h) h (fun M250 h => ?_)
  refine p_aload_n rfl ?_
  refine p_getR fk_X10_21 gt_0 rfl rfl ?_
  refine p_iload_n rfl ?_
  refine p_cV (av := [_, _]) ⟨mok_X4_open, Or.inl ⟨105, 1, 4, 0, _, rfl, rfl, rfl, gt_1, rfl, ins_X4_open, Or.inr lk_X10_105⟩⟩ (Nat.le_of_ble_eq_true rfl) (Nat.le_of_ble_eq_true rfl) rfl (fun _ h => pc_X4_open_1 hl h) h (fun M251 h => ?_)
  refine p_aload_n rfl ?_
  refine p_getR fk_X10_59 gt_0 rfl rfl ?_
  refine p_aload_n rfl ?_
  refine p_getR fk_X10_51 gt_0 rfl rfl ?_
  refine p_cV (av := [_, _]) ⟨mok_X8_read, Or.inl ⟨135, 88, 8, 0, _, rfl, rfl, rfl, gt_88, rfl, ins_X8_read, Or.inr lk_X10_135⟩⟩ (Nat.le_of_ble_eq_true rfl) (Nat.le_of_ble_eq_true rfl) rfl (fun _ h => pc_X8_read_88_82 hl h) h (fun M252 h => ?_)
  refine p_aload_n rfl ?_
  refine p_cI (av := [_]) ⟨mok_X10_closeText, Or.inl ⟨112, 0, 10, 0, _, rfl, rfl, rfl, gt_0, rfl, ins_X10_closeText, Or.inl lk_X10_112⟩⟩ (Nat.le_of_ble_eq_true rfl) (Nat.le_of_ble_eq_true rfl) rfl (fun _ h => pc_X10_closeText_0 hl h) h (fun v254 M253 h => ?_)
  refine p_istore_n (Nat.le_of_ble_eq_true rfl) rfl ?_
  refine p_iload_n rfl ?_
  refine p_if_eq h 33 rfl rfl (fun _ h => ?_) (fun _ h => ?_)
  · refine p_aload_n rfl ?_
    refine p_getR fk_X10_47 gt_0 rfl rfl ?_
    refine p_aload_n rfl ?_
    refine p_getR fk_X10_51 gt_0 rfl rfl ?_
    refine p_cV (av := [_, _]) ⟨mok_X7_copy, Or.inl ⟨138, 76, 7, 0, _, rfl, rfl, rfl, gt_76, rfl, ins_X7_copy, Or.inr lk_X10_138⟩⟩ (Nat.le_of_ble_eq_true rfl) (Nat.le_of_ble_eq_true rfl) rfl (fun _ h => pc_X7_copy_76_82 hl h) h (fun M255 h => ?_)
    refine p_iconst cn_1 ?_
    exact p_iret rfl h
  · refine p_iload_n rfl ?_
    refine p_bipush cb_10 ?_
    refine p_isub ?_
    exact p_iret rfl h
set_option maxRecDepth 100000 in
theorem S_X10_wish_0_27 {l : Launch} (hl : l.stackTraces = false) {M : PM} {x1 : Int32} {r : PR} (h : F_X10_wish_0_27  M x1 = some r) : PW l 71 Y_X10_wish k_X10_wish_27 [vR 0, vI x1, jk] [vR 0] M r := by
  unfold F_X10_wish_0_27 at h
  refine p_iconst cn_0 ?_
  exact p_fg (S_X10_wish_0_28 hl h) ⟨Or.inr rfl, Or.inr rfl, Or.inl rfl, trivial⟩
set_option maxRecDepth 100000 in
theorem S_X10_wish_0 {l : Launch} (hl : l.stackTraces = false) {M : PM} {a1 : Int32} {r : PR} (h : F_X10_wish_0 M a1 = some r) : PW l 71 Y_X10_wish k_X10_wish [vR 0, vI a1, jk] [] M r := by
  unfold F_X10_wish_0 at h
  refine p_aload_n rfl ?_
  refine p_iload_n rfl ?_
  refine p_if_lt h 13 rfl rfl (fun _ h => ?_) (fun _ h => ?_)
  · exact p_fg (S_X10_wish_0_27 hl h) ⟨Or.inr rfl, Or.inr rfl, Or.inl rfl, trivial⟩
  · refine p_iload_n rfl ?_
    refine p_sipush cs_200 ?_
    refine p_icmp_gt h 13 rfl rfl (fun _ h => ?_) (fun _ h => ?_)
    · exact p_fg (S_X10_wish_0_27 hl h) ⟨Or.inr rfl, Or.inr rfl, Or.inl rfl, trivial⟩
    · refine p_iload_n rfl ?_
      refine p_aload_n rfl ?_
      refine p_getR fk_X10_21 gt_0 rfl rfl ?_
      refine p_getI fk_X10_94 gt_1 rfl ?_
      refine p_icmp_gt h 13 rfl rfl (fun _ h => ?_) (fun _ h => ?_)
      · exact p_fg (S_X10_wish_0_27 hl h) ⟨Or.inr rfl, Or.inr rfl, Or.inl rfl, trivial⟩
      · refine p_iconst cn_1 ?_
        refine p_goto 14 rfl rfl ?_
        exact p_fg (S_X10_wish_0_28 hl h) ⟨Or.inr rfl, Or.inr rfl, Or.inl rfl, trivial⟩
set_option maxRecDepth 100000 in
theorem pc_X10_wish_0 {l : Launch} (hl : l.stackTraces = false) {M : PM} {a1 : Int32} {r : PR} (h : F_X10_wish_0 M a1 = some r) : PC l 71 Y_X10_wish [vR 0, vI a1] M r := pc_of hl (by decide +kernel) cok_X10_wish (Nat.le_of_ble_eq_true rfl) rfl (S_X10_wish_0 hl  h) rfl
def F_X10_fault_0 (M : PM)  : Option PR := some (.inl (some (.int (mI M 0 13))), M)
set_option maxRecDepth 100000 in
theorem S_X10_fault_0 {l : Launch} (hl : l.stackTraces = false) {M : PM}  {r : PR} (h : F_X10_fault_0 M  = some r) : PW l 0 Y_X10_fault k_X10_fault [vR 0] [] M r := by
  unfold F_X10_fault_0 at h
  refine p_aload_n rfl ?_
  refine p_getI fk_X10_90 gt_0 rfl ?_
  exact p_iret rfl h
set_option maxRecDepth 100000 in
theorem pc_X10_fault_0 {l : Launch} (hl : l.stackTraces = false) {M : PM}  {r : PR} (h : F_X10_fault_0 M  = some r) : PC l 0 Y_X10_fault [vR 0] M r := pc_of hl (by decide +kernel) cok_X10_fault (Nat.le_of_ble_eq_true rfl) rfl (S_X10_fault_0 hl  h) rfl
def F_X10_told_0_15 (M : PM) (x1 : Int32) (t1 : Int32) : Option PR := bV (F_X10_need_0 M t1) fun M256 => (if x1 = 0 then some (.inl (some (.int (mI M256 4 4))), M256) else if x1 = 1 then some (.inl (some (.int (mI M256 9 4))), M256) else if x1 = 2 then some (.inl (some (.int (mI M256 3 4))), M256) else if x1 = 3 then some (.inl (some (.int (mI M256 3 5))), M256) else if x1 = 4 then some (.inl (some (.int (mI M256 3 6))), M256) else some (.inl (some (.int (mI M256 3 7))), M256))
def F_X10_told_0_14 (M : PM) (x1 : Int32) : Option PR := F_X10_told_0_15 M x1 0
def F_X10_told_0 (M : PM) (a1 : Int32) : Option PR := (if a1 < 0 then F_X10_told_0_14 M a1 else (if 5 < a1 then F_X10_told_0_14 M a1 else F_X10_told_0_15 M a1 1))
set_option maxRecDepth 100000 in
theorem S_X10_told_0_15 {l : Launch} (hl : l.stackTraces = false) {M : PM} {x1 : Int32} {t1 : Int32} {r : PR} (h : F_X10_told_0_15  M x1 t1 = some r) : PW l 7 Y_X10_told k_X10_told_15 [vR 0, vI x1] [vI t1, vR 0] M r := by
  unfold F_X10_told_0_15 at h
  refine p_bV mok_X10_need rfl gt_0 rfl ins_X10_need lk_X10_101 (Nat.le_of_ble_eq_true rfl) (Nat.le_of_ble_eq_true rfl) rfl (fun _ h => pc_X10_need_0 hl h) h (fun M256 h => ?_)
  refine p_iload_n rfl ?_
  refine p_ts5 h 12 rfl rfl 17 rfl rfl 22 rfl rfl 26 rfl rfl 30 rfl rfl 34 rfl rfl (fun _ h => ?_) (fun _ h => ?_) (fun _ h => ?_) (fun _ h => ?_) (fun _ h => ?_) (fun h => ?_)
  · refine p_aload_n rfl ?_
    refine p_getR fk_X10_27 gt_0 rfl rfl ?_
    refine p_getR fk_X10_128 gt_3 rfl rfl ?_
    refine p_getI fk_X10_132 gt_4 rfl ?_
    exact p_iret rfl h
  · refine p_aload_n rfl ?_
    refine p_getR fk_X10_27 gt_0 rfl rfl ?_
    refine p_getR fk_X10_140 gt_3 rfl rfl ?_
    refine p_getI fk_X10_132 gt_9 rfl ?_
    exact p_iret rfl h
  · refine p_aload_n rfl ?_
    refine p_getR fk_X10_27 gt_0 rfl rfl ?_
    refine p_getI fk_X10_143 gt_3 rfl ?_
    exact p_iret rfl h
  · refine p_aload_n rfl ?_
    refine p_getR fk_X10_27 gt_0 rfl rfl ?_
    refine p_getI fk_X10_146 gt_3 rfl ?_
    exact p_iret rfl h
  · refine p_aload_n rfl ?_
    refine p_getR fk_X10_27 gt_0 rfl rfl ?_
    refine p_getI fk_X10_149 gt_3 rfl ?_
    exact p_iret rfl h
  · refine p_aload_n rfl ?_
    refine p_getR fk_X10_27 gt_0 rfl rfl ?_
    refine p_getI fk_X10_152 gt_3 rfl ?_
    exact p_iret rfl h
set_option maxRecDepth 100000 in
theorem S_X10_told_0_14 {l : Launch} (hl : l.stackTraces = false) {M : PM} {x1 : Int32} {r : PR} (h : F_X10_told_0_14  M x1 = some r) : PW l 7 Y_X10_told k_X10_told_14 [vR 0, vI x1] [vR 0] M r := by
  unfold F_X10_told_0_14 at h
  refine p_iconst cn_0 ?_
  exact p_fg (S_X10_told_0_15 hl h) ⟨Or.inr rfl, Or.inr rfl, trivial⟩
set_option maxRecDepth 100000 in
theorem S_X10_told_0 {l : Launch} (hl : l.stackTraces = false) {M : PM} {a1 : Int32} {r : PR} (h : F_X10_told_0 M a1 = some r) : PW l 7 Y_X10_told k_X10_told [vR 0, vI a1] [] M r := by
  unfold F_X10_told_0 at h
  refine p_aload_n rfl ?_
  refine p_iload_n rfl ?_
  refine p_if_lt h 8 rfl rfl (fun _ h => ?_) (fun _ h => ?_)
  · exact p_fg (S_X10_told_0_14 hl h) ⟨Or.inr rfl, Or.inr rfl, trivial⟩
  · refine p_iload_n rfl ?_
    refine p_iconst cn_5 ?_
    refine p_icmp_gt h 8 rfl rfl (fun _ h => ?_) (fun _ h => ?_)
    · exact p_fg (S_X10_told_0_14 hl h) ⟨Or.inr rfl, Or.inr rfl, trivial⟩
    · refine p_iconst cn_1 ?_
      refine p_goto 9 rfl rfl ?_
      exact p_fg (S_X10_told_0_15 hl h) ⟨Or.inr rfl, Or.inr rfl, trivial⟩
set_option maxRecDepth 100000 in
theorem pc_X10_told_0 {l : Launch} (hl : l.stackTraces = false) {M : PM} {a1 : Int32} {r : PR} (h : F_X10_told_0 M a1 = some r) : PC l 7 Y_X10_told [vR 0, vI a1] M r := pc_of hl (by decide +kernel) cok_X10_told (Nat.le_of_ble_eq_true rfl) rfl (S_X10_told_0 hl  h) rfl
def F_X10_needElement_0 (M : PM) (a1 : Int32) : Option PR := (if a1 = 0 then some (.inr "java/util/NoSuchElementException", sI M 0 15 ((mI M 0 15) + 1)) else some (.inl none, M))
set_option maxRecDepth 100000 in
theorem S_X10_needElement_0 {l : Launch} (hl : l.stackTraces = false) {M : PM} {a1 : Int32} {r : PR} (h : F_X10_needElement_0 M a1 = some r) : PW l 6 Y_X10_needElement k_X10_needElement [vR 0, vI a1] [] M r := by
  unfold F_X10_needElement_0 at h
  refine p_iload_n rfl ?_
  refine p_if_ne h 13 rfl rfl (fun _ h => ?_) (fun _ h => ?_)
  · refine p_aload_n rfl ?_
    refine p_dup rfl ?_
    refine p_getI fk_X10_358 gt_0 rfl ?_
    refine p_iconst cn_1 ?_
    refine p_iadd ?_
    refine p_putI fk_X10_358 gt_0 rfl ?_
    exact p_throw thr_371 (Nat.le_of_ble_eq_true rfl) (Nat.le_of_ble_eq_true rfl) (si := 12) rfl h
  · exact p_ret rfl h
set_option maxRecDepth 100000 in
theorem pc_X10_needElement_0 {l : Launch} (hl : l.stackTraces = false) {M : PM} {a1 : Int32} {r : PR} (h : F_X10_needElement_0 M a1 = some r) : PC l 6 Y_X10_needElement [vR 0, vI a1] M r := pc_of hl (by decide +kernel) cok_X10_needElement (Nat.le_of_ble_eq_true rfl) rfl (S_X10_needElement_0 hl  h) rfl
def F_X10_needLaw_0 (M : PM) (a1 : Int32) : Option PR := (if a1 < 0 then bV (F_X10_needElement_0 M 0) fun M257 => some (.inl none, M257) else (if mI M 4 4 ≤ a1 then bV (F_X10_needElement_0 M 0) fun M258 => some (.inl none, M258) else bV (F_X10_needElement_0 M 1) fun M259 => some (.inl none, M259)))
set_option maxRecDepth 100000 in
theorem S_X10_needLaw_0 {l : Launch} (hl : l.stackTraces = false) {M : PM} {a1 : Int32} {r : PR} (h : F_X10_needLaw_0 M a1 = some r) : PW l 7 Y_X10_needLaw k_X10_needLaw [vR 0, vI a1] [] M r := by
  unfold F_X10_needLaw_0 at h
  refine p_aload_n rfl ?_
  refine p_iload_n rfl ?_
  refine p_if_lt h 11 rfl rfl (fun _ h => ?_) (fun _ h => ?_)
  · refine p_iconst cn_0 ?_
    refine p_bV mok_X10_needElement rfl gt_0 rfl ins_X10_needElement lk_X10_381 (Nat.le_of_ble_eq_true rfl) (Nat.le_of_ble_eq_true rfl) rfl (fun _ h => pc_X10_needElement_0 hl h) h (fun M257 h => ?_)
    exact p_ret rfl h
  · refine p_iload_n rfl ?_
    refine p_aload_n rfl ?_
    refine p_getR fk_X10_27 gt_0 rfl rfl ?_
    refine p_getR fk_X10_128 gt_3 rfl rfl ?_
    refine p_getI fk_X10_132 gt_4 rfl ?_
    refine p_icmp_ge h 11 rfl rfl (fun _ h => ?_) (fun _ h => ?_)
    · refine p_iconst cn_0 ?_
      refine p_bV mok_X10_needElement rfl gt_0 rfl ins_X10_needElement lk_X10_381 (Nat.le_of_ble_eq_true rfl) (Nat.le_of_ble_eq_true rfl) rfl (fun _ h => pc_X10_needElement_0 hl h) h (fun M258 h => ?_)
      exact p_ret rfl h
    · refine p_iconst cn_1 ?_
      refine p_goto 12 rfl rfl ?_
      refine p_bV mok_X10_needElement rfl gt_0 rfl ins_X10_needElement lk_X10_381 (Nat.le_of_ble_eq_true rfl) (Nat.le_of_ble_eq_true rfl) rfl (fun _ h => pc_X10_needElement_0 hl h) h (fun M259 h => ?_)
      exact p_ret rfl h
set_option maxRecDepth 100000 in
theorem pc_X10_needLaw_0 {l : Launch} (hl : l.stackTraces = false) {M : PM} {a1 : Int32} {r : PR} (h : F_X10_needLaw_0 M a1 = some r) : PC l 7 Y_X10_needLaw [vR 0, vI a1] M r := pc_of hl (by decide +kernel) cok_X10_needLaw (Nat.le_of_ble_eq_true rfl) rfl (S_X10_needLaw_0 hl  h) rfl
def F_X10_needEither_0 (M : PM) (a1 : Int32) : Option PR := (if a1 = 0 then bV (F_X10_need_0 M 1) fun M260 => some (.inl none, M260) else (if a1 = 1 then bV (F_X10_need_0 M 1) fun M262 => some (.inl none, M262) else bV (F_X10_need_0 M 0) fun M261 => some (.inl none, M261)))
set_option maxRecDepth 100000 in
theorem S_X10_needEither_0 {l : Launch} (hl : l.stackTraces = false) {M : PM} {a1 : Int32} {r : PR} (h : F_X10_needEither_0 M a1 = some r) : PW l 7 Y_X10_needEither k_X10_needEither [vR 0, vI a1] [] M r := by
  unfold F_X10_needEither_0 at h
  refine p_aload_n rfl ?_
  refine p_iload_n rfl ?_
  refine p_if_eq h 6 rfl rfl (fun _ h => ?_) (fun _ h => ?_)
  · refine p_iconst cn_1 ?_
    refine p_goto 9 rfl rfl ?_
    refine p_bV mok_X10_need rfl gt_0 rfl ins_X10_need lk_X10_101 (Nat.le_of_ble_eq_true rfl) (Nat.le_of_ble_eq_true rfl) rfl (fun _ h => pc_X10_need_0 hl h) h (fun M260 h => ?_)
    exact p_ret rfl h
  · refine p_iload_n rfl ?_
    refine p_iconst cn_1 ?_
    refine p_icmp_ne h 8 rfl rfl (fun _ h => ?_) (fun _ h => ?_)
    · refine p_iconst cn_1 ?_
      refine p_goto 9 rfl rfl ?_
      refine p_bV mok_X10_need rfl gt_0 rfl ins_X10_need lk_X10_101 (Nat.le_of_ble_eq_true rfl) (Nat.le_of_ble_eq_true rfl) rfl (fun _ h => pc_X10_need_0 hl h) h (fun M262 h => ?_)
      exact p_ret rfl h
    · refine p_iconst cn_0 ?_
      refine p_bV mok_X10_need rfl gt_0 rfl ins_X10_need lk_X10_101 (Nat.le_of_ble_eq_true rfl) (Nat.le_of_ble_eq_true rfl) rfl (fun _ h => pc_X10_need_0 hl h) h (fun M261 h => ?_)
      exact p_ret rfl h
set_option maxRecDepth 100000 in
theorem pc_X10_needEither_0 {l : Launch} (hl : l.stackTraces = false) {M : PM} {a1 : Int32} {r : PR} (h : F_X10_needEither_0 M a1 = some r) : PC l 7 Y_X10_needEither [vR 0, vI a1] M r := pc_of hl (by decide +kernel) cok_X10_needEither (Nat.le_of_ble_eq_true rfl) rfl (S_X10_needEither_0 hl  h) rfl
def F_X2_isLaw_4 (M : PM) (a1 : Int32) : Option PR := (if a1 < 0 then (if (0 : Int32) &&& 1 = 0 then some (.inl (some (.int 0)), M) else none) else (if mI M 4 4 ≤ a1 then (if (0 : Int32) &&& 1 = 0 then some (.inl (some (.int 0)), M) else none) else (if (1 : Int32) &&& 1 = 1 then some (.inl (some (.int 1)), M) else none)))
set_option maxRecDepth 100000 in
theorem S_X2_isLaw_4 {l : Launch} (hl : l.stackTraces = false) {M : PM} {a1 : Int32} {r : PR} (h : F_X2_isLaw_4 M a1 = some r) : PW l 0 Y_X2_isLaw k_X2_isLaw [vR 4, vI a1] [] M r := by
  unfold F_X2_isLaw_4 at h
  refine p_iload_n rfl ?_
  refine p_if_lt h 8 rfl rfl (fun _ h => ?_) (fun _ h => ?_)
  · refine p_iconst cn_0 ?_
    exact p_zret rfl h
  · refine p_iload_n rfl ?_
    refine p_aload_n rfl ?_
    refine p_getI fk_X2_31 gt_4 rfl ?_
    refine p_icmp_ge h 8 rfl rfl (fun _ h => ?_) (fun _ h => ?_)
    · refine p_iconst cn_0 ?_
      exact p_zret rfl h
    · refine p_iconst cn_1 ?_
      refine p_goto 9 rfl rfl ?_
      exact p_zret rfl h
set_option maxRecDepth 100000 in
theorem pc_X2_isLaw_4 {l : Launch} (hl : l.stackTraces = false) {M : PM} {a1 : Int32} {r : PR} (h : F_X2_isLaw_4 M a1 = some r) : PC l 0 Y_X2_isLaw [vR 4, vI a1] M r := pc_of hl (by decide +kernel) cok_X2_isLaw (Nat.le_of_ble_eq_true rfl) rfl (S_X2_isLaw_4 hl  h) rfl
def F_X2_dayOf_4 (M : PM) (a1 : Int32) : Option PR := cI (F_X2_isLaw_4 M a1) fun v264 M263 => (if v264 = 0 then some (.inl (some (.int 0)), M263) else if ixOK a1 12 = true then some (.inl (some (.int (mA M263 6 a1.toNatClampNeg))), M263) else none)
set_option maxRecDepth 100000 in
theorem S_X2_dayOf_4 {l : Launch} (hl : l.stackTraces = false) {M : PM} {a1 : Int32} {r : PR} (h : F_X2_dayOf_4 M a1 = some r) : PW l 1 Y_X2_dayOf k_X2_dayOf [vR 4, vI a1] [] M r := by
  unfold F_X2_dayOf_4 at h
  refine p_aload_n rfl ?_
  refine p_iload_n rfl ?_
  refine p_cI (av := [_, _]) ⟨mok_X2_isLaw, Or.inl ⟨50, 4, 2, 0, _, rfl, rfl, rfl, gt_4, rfl, ins_X2_isLaw, Or.inl lk_X2_50⟩⟩ (Nat.le_of_ble_eq_true rfl) (Nat.le_of_ble_eq_true rfl) rfl (fun _ h => pc_X2_isLaw_4 hl h) h (fun v264 M263 h => ?_)
  refine p_if_eq h 9 rfl rfl (fun _ h => ?_) (fun _ h => ?_)
  · refine p_iconst cn_0 ?_
    exact p_iret rfl h
  · refine p_aload_n rfl ?_
    refine p_getR fk_X2_21 gt_4 rfl rfl ?_
    refine p_iload_n rfl ?_
    refine p_iald gt_6 h (fun h => ?_)
    refine p_goto 10 rfl rfl ?_
    exact p_iret rfl h
set_option maxRecDepth 100000 in
theorem pc_X2_dayOf_4 {l : Launch} (hl : l.stackTraces = false) {M : PM} {a1 : Int32} {r : PR} (h : F_X2_dayOf_4 M a1 = some r) : PC l 1 Y_X2_dayOf [vR 4, vI a1] M r := pc_of hl (by decide +kernel) cok_X2_dayOf (Nat.le_of_ble_eq_true rfl) rfl (S_X2_dayOf_4 hl  h) rfl
def F_X2_weekOf_4 (M : PM) (a1 : Int32) : Option PR := cI (F_X2_isLaw_4 M a1) fun v266 M265 => (if v266 = 0 then some (.inl (some (.int 0)), M265) else if ixOK a1 12 = true then some (.inl (some (.int (mA M265 5 a1.toNatClampNeg))), M265) else none)
set_option maxRecDepth 100000 in
theorem S_X2_weekOf_4 {l : Launch} (hl : l.stackTraces = false) {M : PM} {a1 : Int32} {r : PR} (h : F_X2_weekOf_4 M a1 = some r) : PW l 1 Y_X2_weekOf k_X2_weekOf [vR 4, vI a1] [] M r := by
  unfold F_X2_weekOf_4 at h
  refine p_aload_n rfl ?_
  refine p_iload_n rfl ?_
  refine p_cI (av := [_, _]) ⟨mok_X2_isLaw, Or.inl ⟨50, 4, 2, 0, _, rfl, rfl, rfl, gt_4, rfl, ins_X2_isLaw, Or.inl lk_X2_50⟩⟩ (Nat.le_of_ble_eq_true rfl) (Nat.le_of_ble_eq_true rfl) rfl (fun _ h => pc_X2_isLaw_4 hl h) h (fun v266 M265 h => ?_)
  refine p_if_eq h 9 rfl rfl (fun _ h => ?_) (fun _ h => ?_)
  · refine p_iconst cn_0 ?_
    exact p_iret rfl h
  · refine p_aload_n rfl ?_
    refine p_getR fk_X2_15 gt_4 rfl rfl ?_
    refine p_iload_n rfl ?_
    refine p_iald gt_5 h (fun h => ?_)
    refine p_goto 10 rfl rfl ?_
    exact p_iret rfl h
set_option maxRecDepth 100000 in
theorem pc_X2_weekOf_4 {l : Launch} (hl : l.stackTraces = false) {M : PM} {a1 : Int32} {r : PR} (h : F_X2_weekOf_4 M a1 = some r) : PC l 1 Y_X2_weekOf [vR 4, vI a1] M r := pc_of hl (by decide +kernel) cok_X2_weekOf (Nat.le_of_ble_eq_true rfl) rfl (S_X2_weekOf_4 hl  h) rfl
def F_X10_law_0 (M : PM) (a1 : Int32) (a2 : Int32) : Option PR := bV (F_X10_needLaw_0 M a1) fun M267 => bV (F_X10_needEither_0 M267 a2) fun M268 => (if a2 = 0 then cI (F_X2_weekOf_4 M268 a1) fun v272 M271 => some (.inl (some (.int v272)), M271) else cI (F_X2_dayOf_4 M268 a1) fun v270 M269 => some (.inl (some (.int v270)), M269))
set_option maxRecDepth 100000 in
theorem S_X10_law_0 {l : Launch} (hl : l.stackTraces = false) {M : PM} {a1 : Int32} {a2 : Int32} {r : PR} (h : F_X10_law_0 M a1 a2 = some r) : PW l 8 Y_X10_law k_X10_law [vR 0, vI a1, vI a2] [] M r := by
  unfold F_X10_law_0 at h
  refine p_aload_n rfl ?_
  refine p_iload_n rfl ?_
  refine p_bV mok_X10_needLaw rfl gt_0 rfl ins_X10_needLaw lk_X10_155 (Nat.le_of_ble_eq_true rfl) (Nat.le_of_ble_eq_true rfl) rfl (fun _ h => pc_X10_needLaw_0 hl h) h (fun M267 h => ?_)
  refine p_aload_n rfl ?_
  refine p_iload_n rfl ?_
  refine p_bV mok_X10_needEither rfl gt_0 rfl ins_X10_needEither lk_X10_158 (Nat.le_of_ble_eq_true rfl) (Nat.le_of_ble_eq_true rfl) rfl (fun _ h => pc_X10_needEither_0 hl h) h (fun M268 h => ?_)
  refine p_iload_n rfl ?_
  refine p_if_ne h 14 rfl rfl (fun _ h => ?_) (fun _ h => ?_)
  · refine p_aload_n rfl ?_
    refine p_getR fk_X10_27 gt_0 rfl rfl ?_
    refine p_getR fk_X10_128 gt_3 rfl rfl ?_
    refine p_iload_n rfl ?_
    refine p_cI (av := [_, _]) ⟨mok_X2_weekOf, Or.inl ⟨161, 4, 2, 0, _, rfl, rfl, rfl, gt_4, rfl, ins_X2_weekOf, Or.inr lk_X10_161⟩⟩ (Nat.le_of_ble_eq_true rfl) (Nat.le_of_ble_eq_true rfl) rfl (fun _ h => pc_X2_weekOf_4 hl h) h (fun v272 M271 h => ?_)
    refine p_goto 19 rfl rfl ?_
    exact p_iret rfl h
  · refine p_aload_n rfl ?_
    refine p_getR fk_X10_27 gt_0 rfl rfl ?_
    refine p_getR fk_X10_128 gt_3 rfl rfl ?_
    refine p_iload_n rfl ?_
    refine p_cI (av := [_, _]) ⟨mok_X2_dayOf, Or.inl ⟨165, 4, 2, 0, _, rfl, rfl, rfl, gt_4, rfl, ins_X2_dayOf, Or.inr lk_X10_165⟩⟩ (Nat.le_of_ble_eq_true rfl) (Nat.le_of_ble_eq_true rfl) rfl (fun _ h => pc_X2_dayOf_4 hl h) h (fun v270 M269 h => ?_)
    exact p_iret rfl h
set_option maxRecDepth 100000 in
theorem pc_X10_law_0 {l : Launch} (hl : l.stackTraces = false) {M : PM} {a1 : Int32} {a2 : Int32} {r : PR} (h : F_X10_law_0 M a1 a2 = some r) : PC l 8 Y_X10_law [vR 0, vI a1, vI a2] M r := pc_of hl (by decide +kernel) cok_X10_law (Nat.le_of_ble_eq_true rfl) rfl (S_X10_law_0 hl  h) rfl
