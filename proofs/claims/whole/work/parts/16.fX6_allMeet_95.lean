def F_X6_allMeet_95_36 (k2 : PM → Int32 → Int32 → Option PR) (M : PM) (x1 : Int32) (x2 : Int32) : Option PR := lt (x2 + 1) fun y590 => k2 M x1 y590
def F_X6_allMeet_95_2 : Nat → PM → Int32 → Int32 → Option PR
  | 0, _, _, _ => none
  | n + 1, M, x1, x2 => (if 6 ≤ x2 then (if (1 : Int32) &&& 1 = 1 then some (.inl (some (.int 1)), M) else none) else cI (F_X10_isIn M x2 x1) fun v592 M591 => (if v592 = 0 then F_X6_allMeet_95_36 (F_X6_allMeet_95_2 n) M591 x1 x2 else cI (F_X10_all M591 x2) fun v594 M593 => if ixOK x2 6 = true then (if (x1 &&& v594) &&& ((mA M593 98 x2.toNatClampNeg) ^^^ (-1)) = 0 then F_X6_allMeet_95_36 (F_X6_allMeet_95_2 n) M593 x1 x2 else (if (0 : Int32) &&& 1 = 0 then some (.inl (some (.int 0)), M593) else none)) else none))
def F_X6_allMeet_95 (M : PM) (a1 : Int32) : Option PR := F_X6_allMeet_95_2 FUEL M a1 0
set_option maxRecDepth 100000 in
theorem S_X6_allMeet_95_36 {l : Launch} (hl : l.stackTraces = false) {k2 : PM → Int32 → Int32 → Option PR} (hk2 : ∀ {M : PM} {x1 : Int32} {x2 : Int32} {r : PR}, k2 M x1 x2 = some r → PW l 1 Y_X6_allMeet k_X6_allMeet_2 [vR 95, vI x1, vI x2] [] M r) {M : PM} {x1 : Int32} {x2 : Int32} {r : PR} (h : F_X6_allMeet_95_36 k2 M x1 x2 = some r) : PW l 1 Y_X6_allMeet k_X6_allMeet_36 [vR 95, vI x1, vI x2] [] M r := by
  unfold F_X6_allMeet_95_36 at h
  have h := lt_h h
  refine p_iinc (Nat.le_of_ble_eq_true rfl) rfl (ci_1 _) rfl ?_
  refine p_goto 2 rfl rfl ?_
  exact p_fg (hk2 h) ⟨Or.inr rfl, Or.inr rfl, Or.inr rfl, trivial⟩
set_option maxRecDepth 100000 in
theorem S_X6_allMeet_95_2 {l : Launch} (hl : l.stackTraces = false) : ∀ (n : Nat) {M : PM} {x1 : Int32} {x2 : Int32} {r : PR}, F_X6_allMeet_95_2  n M x1 x2 = some r → PW l 1 Y_X6_allMeet k_X6_allMeet_2 [vR 95, vI x1, vI x2] [] M r := by
  intro n
  induction n with
  | zero => intro M x1 x2 r h; exact nomatch (show (none : Option PR) = some r from h)
  | succ n ih =>
    intro M x1 x2 r h
    rw [F_X6_allMeet_95_2] at h
    refine p_iload_n rfl ?_
    refine p_bipush cb_6 ?_
    refine p_icmp_ge h 25 rfl rfl (fun _ h => ?_) (fun _ h => ?_)
    · refine p_iconst cn_1 ?_
      exact p_zret rfl h
    · refine p_iload_n rfl ?_
      refine p_iload_n rfl ?_
      refine p_cI (av := [_, _]) ⟨mok_X10_isIn, Or.inr ⟨67, rfl, rfl, sta_X10_isIn, Or.inr lk_X6_67⟩⟩ (Nat.le_of_ble_eq_true rfl) (Nat.le_of_ble_eq_true rfl) rfl (fun _ h => pc_X10_isIn hl h) h (fun v592 M591 h => ?_)
      refine p_if_eq h 23 rfl rfl (fun _ h => ?_) (fun _ h => ?_)
      · exact p_fg (S_X6_allMeet_95_36 hl (fun h => ih h) h) ⟨Or.inr rfl, Or.inr rfl, Or.inr rfl, trivial⟩
      · refine p_iload_n rfl ?_
        refine p_iload_n rfl ?_
        refine p_cI (av := [_]) ⟨mok_X10_all, Or.inr ⟨70, rfl, rfl, sta_X10_all, Or.inr lk_X6_70⟩⟩ (Nat.le_of_ble_eq_true rfl) (Nat.le_of_ble_eq_true rfl) rfl (fun _ h => pc_X10_all hl h) h (fun v594 M593 h => ?_)
        refine p_iand ?_
        refine p_aload_n rfl ?_
        refine p_getR fk_X6_18 gt_95 rfl rfl ?_
        refine p_iload_n rfl ?_
        refine p_iald gt_98 h (fun h => ?_)
        refine p_iconst cn_m1 ?_
        refine p_ixor ?_
        refine p_iand ?_
        refine p_if_eq h 23 rfl rfl (fun _ h => ?_) (fun _ h => ?_)
        · exact p_fg (S_X6_allMeet_95_36 hl (fun h => ih h) h) ⟨Or.inr rfl, Or.inr rfl, Or.inr rfl, trivial⟩
        · refine p_iconst cn_0 ?_
          exact p_zret rfl h
set_option maxRecDepth 100000 in
theorem S_X6_allMeet_95 {l : Launch} (hl : l.stackTraces = false) {M : PM} {a1 : Int32} {r : PR} (h : F_X6_allMeet_95 M a1 = some r) : PW l 1 Y_X6_allMeet k_X6_allMeet [vR 95, vI a1, jk] [] M r := by
  unfold F_X6_allMeet_95 at h
  refine p_iconst cn_0 ?_
  refine p_istore_n (Nat.le_of_ble_eq_true rfl) rfl ?_
  exact p_fg (S_X6_allMeet_95_2 hl FUEL h) ⟨Or.inr rfl, Or.inr rfl, Or.inr rfl, trivial⟩
set_option maxRecDepth 100000 in
theorem pc_X6_allMeet_95 {l : Launch} (hl : l.stackTraces = false) {M : PM} {a1 : Int32} {r : PR} (h : F_X6_allMeet_95 M a1 = some r) : PC l 1 Y_X6_allMeet [vR 95, vI a1] M r := pc_of hl (by decide +kernel) cok_X6_allMeet (Nat.le_of_ble_eq_true rfl) rfl (S_X6_allMeet_95 hl  h) rfl
def F_X6_meetsTooMany_95_113 (k78 : PM → Int32 → Int32 → Int32 → Option PR) (M : PM) (x2 : Int32) (x3 : Int32) (x4 : Int32) : Option PR := lt (x4 + 1) fun y595 => k78 M x2 x3 y595
def F_X6_meetsTooMany_95_78 : Nat → PM → Int32 → Int32 → Int32 → Option PR
  | 0, _, _, _, _ => none
  | n + 1, M, x2, x3, x4 => (if x3 < x4 then (if (0 : Int32) &&& 1 = 0 then some (.inl (some (.int 0)), M) else none) else (if x4 &&& (x3 ^^^ (-1)) = 0 then cI (F_J6_bitCount_0f7a4 M x4) fun v597 M596 => (if v597 = x2 then cI (F_X6_allMeet_95 M596 x4) fun v599 M598 => (if v599 = 0 then F_X6_meetsTooMany_95_113 (F_X6_meetsTooMany_95_78 n) M598 x2 x3 x4 else (if (1 : Int32) &&& 1 = 1 then some (.inl (some (.int 1)), M598) else none)) else F_X6_meetsTooMany_95_113 (F_X6_meetsTooMany_95_78 n) M596 x2 x3 x4) else F_X6_meetsTooMany_95_113 (F_X6_meetsTooMany_95_78 n) M x2 x3 x4))
def F_X6_meetsTooMany_95_60 (k5 : PM → Int32 → Int32 → Int32 → Int32 → Option PR) (M : PM) (x1 : Int32) (x2 : Int32) (x4 : Int32) (t0 : Int32) (t1 : Int32) : Option PR := lt (t0 ||| t1) fun y600 => lt (x4 + 1) fun y601 => k5 M x1 x2 y600 y601
def F_X6_meetsTooMany_95_5 : Nat → PM → Int32 → Int32 → Int32 → Int32 → Option PR
  | 0, _, _, _, _, _ => none
  | n + 1, M, x1, x2, x3, x4 => (if x1 ≤ x4 then if ixOK x1 6 = true then F_X6_meetsTooMany_95_78 FUEL (sA M 98 x1.toNatClampNeg x3) x2 x3 0 else none else if ixOK x4 6 = true then if ixOK x1 6 = true then cI (F_X10_commonDivisor M (mA M 96 x4.toNatClampNeg) (mA M 96 x1.toNatClampNeg)) fun v603 M602 => if ixOK x4 6 = true then if ixOK x1 6 = true then cI (F_X10_left M602 ((mA M602 97 x4.toNatClampNeg) - (mA M602 97 x1.toNatClampNeg)) v603) fun v605 M604 => (if v605 = 0 then F_X6_meetsTooMany_95_60 (F_X6_meetsTooMany_95_5 n) M604 x1 x2 x4 x3 (1 <<< (x4 &&& 31)) else F_X6_meetsTooMany_95_60 (F_X6_meetsTooMany_95_5 n) M604 x1 x2 x4 x3 0) else none else none else none else none)
def F_X6_meetsTooMany_95 (M : PM) (a1 : Int32) (a2 : Int32) : Option PR := F_X6_meetsTooMany_95_5 FUEL M a1 a2 0 0
set_option maxRecDepth 100000 in
theorem S_X6_meetsTooMany_95_113 {l : Launch} (hl : l.stackTraces = false) {k78 : PM → Int32 → Int32 → Int32 → Option PR} (hk78 : ∀ {M : PM} {x2 : Int32} {x3 : Int32} {x4 : Int32} {r : PR}, k78 M x2 x3 x4 = some r → PW l 2 Y_X6_meetsTooMany k_X6_meetsTooMany_78 [vR 95, jk, vI x2, vI x3, vI x4, jk] [] M r) {M : PM} {x2 : Int32} {x3 : Int32} {x4 : Int32} {r : PR} (h : F_X6_meetsTooMany_95_113 k78 M x2 x3 x4 = some r) : PW l 2 Y_X6_meetsTooMany k_X6_meetsTooMany_113 [vR 95, jk, vI x2, vI x3, vI x4, jk] [] M r := by
  unfold F_X6_meetsTooMany_95_113 at h
  have h := lt_h h
  refine p_iinc (Nat.le_of_ble_eq_true rfl) rfl (ci_1 _) rfl ?_
  refine p_goto 46 rfl rfl ?_
  exact p_fg (hk78 h) ⟨Or.inr rfl, Or.inl rfl, Or.inr rfl, Or.inr rfl, Or.inr rfl, Or.inl rfl, trivial⟩
set_option maxRecDepth 100000 in
theorem S_X6_meetsTooMany_95_78 {l : Launch} (hl : l.stackTraces = false) : ∀ (n : Nat) {M : PM} {x2 : Int32} {x3 : Int32} {x4 : Int32} {r : PR}, F_X6_meetsTooMany_95_78  n M x2 x3 x4 = some r → PW l 2 Y_X6_meetsTooMany k_X6_meetsTooMany_78 [vR 95, jk, vI x2, vI x3, vI x4, jk] [] M r := by
  intro n
  induction n with
  | zero => intro M x2 x3 x4 r h; exact nomatch (show (none : Option PR) = some r from h)
  | succ n ih =>
    intro M x2 x3 x4 r h
    rw [F_X6_meetsTooMany_95_78] at h
    refine p_iload rfl ?_
    refine p_iload_n rfl ?_
    refine p_icmp_gt h 67 rfl rfl (fun _ h => ?_) (fun _ h => ?_)
    · refine p_iconst cn_0 ?_
      exact p_zret rfl h
    · refine p_iload rfl ?_
      refine p_iload_n rfl ?_
      refine p_iconst cn_m1 ?_
      refine p_ixor ?_
      refine p_iand ?_
      refine p_if_ne h 65 rfl rfl (fun _ h => ?_) (fun _ h => ?_)
      · refine p_iload rfl ?_
        refine p_cI (av := [_]) ⟨mok_J6_bitCount_0f7a4, Or.inr ⟨58, rfl, rfl, sta_J6_bitCount_0f7a4, Or.inl lk_X6_58⟩⟩ (Nat.le_of_ble_eq_true rfl) (Nat.le_of_ble_eq_true rfl) rfl (fun _ h => pc_J6_bitCount_0f7a4 hl h) h (fun v597 M596 h => ?_)
        refine p_iload_n rfl ?_
        refine p_icmp_ne h 65 rfl rfl (fun _ h => ?_) (fun _ h => ?_)
        · refine p_aload_n rfl ?_
          refine p_iload rfl ?_
          refine p_cI (av := [_, _]) ⟨mok_X6_allMeet, Or.inl ⟨63, 95, 6, 0, _, rfl, rfl, rfl, gt_95, rfl, ins_X6_allMeet, Or.inl lk_X6_63⟩⟩ (Nat.le_of_ble_eq_true rfl) (Nat.le_of_ble_eq_true rfl) rfl (fun _ h => pc_X6_allMeet_95 hl h) h (fun v599 M598 h => ?_)
          refine p_if_eq h 65 rfl rfl (fun _ h => ?_) (fun _ h => ?_)
          · exact p_fg (S_X6_meetsTooMany_95_113 hl (fun h => ih h) h) ⟨Or.inr rfl, Or.inl rfl, Or.inr rfl, Or.inr rfl, Or.inr rfl, Or.inl rfl, trivial⟩
          · refine p_iconst cn_1 ?_
            exact p_zret rfl h
        · exact p_fg (S_X6_meetsTooMany_95_113 hl (fun h => ih h) h) ⟨Or.inr rfl, Or.inl rfl, Or.inr rfl, Or.inr rfl, Or.inr rfl, Or.inl rfl, trivial⟩
      · exact p_fg (S_X6_meetsTooMany_95_113 hl (fun h => ih h) h) ⟨Or.inr rfl, Or.inl rfl, Or.inr rfl, Or.inr rfl, Or.inr rfl, Or.inl rfl, trivial⟩
set_option maxRecDepth 100000 in
theorem S_X6_meetsTooMany_95_60 {l : Launch} (hl : l.stackTraces = false) {k5 : PM → Int32 → Int32 → Int32 → Int32 → Option PR} (hk5 : ∀ {M : PM} {x1 : Int32} {x2 : Int32} {x3 : Int32} {x4 : Int32} {r : PR}, k5 M x1 x2 x3 x4 = some r → PW l 2 Y_X6_meetsTooMany k_X6_meetsTooMany_5 [vR 95, vI x1, vI x2, vI x3, vI x4, jk] [] M r) {M : PM} {x1 : Int32} {x2 : Int32} {x4 : Int32} {t0 : Int32} {t1 : Int32} {r : PR} (h : F_X6_meetsTooMany_95_60 k5 M x1 x2 x4 t0 t1 = some r) : PW l 2 Y_X6_meetsTooMany k_X6_meetsTooMany_60 [vR 95, vI x1, vI x2, jk, vI x4, jk] [vI t1, vI t0] M r := by
  unfold F_X6_meetsTooMany_95_60 at h
  refine p_ior ?_
  have h := lt_h h
  refine p_istore_n (Nat.le_of_ble_eq_true rfl) rfl ?_
  have h := lt_h h
  refine p_iinc (Nat.le_of_ble_eq_true rfl) rfl (ci_1 _) rfl ?_
  refine p_goto 4 rfl rfl ?_
  exact p_fg (hk5 h) ⟨Or.inr rfl, Or.inr rfl, Or.inr rfl, Or.inr rfl, Or.inr rfl, Or.inl rfl, trivial⟩
set_option maxRecDepth 100000 in
theorem S_X6_meetsTooMany_95_5 {l : Launch} (hl : l.stackTraces = false) : ∀ (n : Nat) {M : PM} {x1 : Int32} {x2 : Int32} {x3 : Int32} {x4 : Int32} {r : PR}, F_X6_meetsTooMany_95_5  n M x1 x2 x3 x4 = some r → PW l 2 Y_X6_meetsTooMany k_X6_meetsTooMany_5 [vR 95, vI x1, vI x2, vI x3, vI x4, jk] [] M r := by
  intro n
  induction n with
  | zero => intro M x1 x2 x3 x4 r h; exact nomatch (show (none : Option PR) = some r from h)
  | succ n ih =>
    intro M x1 x2 x3 x4 r h
    rw [F_X6_meetsTooMany_95_5] at h
    refine p_iload rfl ?_
    refine p_iload_n rfl ?_
    refine p_icmp_ge h 39 rfl rfl (fun _ h => ?_) (fun _ h => ?_)
    · refine p_aload_n rfl ?_
      refine p_getR fk_X6_18 gt_95 rfl rfl ?_
      refine p_iload_n rfl ?_
      refine p_iload_n rfl ?_
      refine p_iast gt_98 h (fun h => ?_)
      refine p_iconst cn_0 ?_
      refine p_istore (Nat.le_of_ble_eq_true rfl) rfl ?_
      exact p_fg (S_X6_meetsTooMany_95_78 hl FUEL h) ⟨Or.inr rfl, Or.inl rfl, Or.inr rfl, Or.inr rfl, Or.inr rfl, Or.inl rfl, trivial⟩
    · refine p_aload_n rfl ?_
      refine p_getR fk_X6_11 gt_95 rfl rfl ?_
      refine p_iload rfl ?_
      refine p_iald gt_96 h (fun h => ?_)
      refine p_aload_n rfl ?_
      refine p_getR fk_X6_11 gt_95 rfl rfl ?_
      refine p_iload_n rfl ?_
      refine p_iald gt_96 h (fun h => ?_)
      refine p_cI (av := [_, _]) ⟨mok_X10_commonDivisor, Or.inr ⟨43, rfl, rfl, sta_X10_commonDivisor, Or.inr lk_X6_43⟩⟩ (Nat.le_of_ble_eq_true rfl) (Nat.le_of_ble_eq_true rfl) rfl (fun _ h => pc_X10_commonDivisor hl h) h (fun v603 M602 h => ?_)
      refine p_istore (Nat.le_of_ble_eq_true rfl) rfl ?_
      refine p_iload_n rfl ?_
      refine p_aload_n rfl ?_
      refine p_getR fk_X6_15 gt_95 rfl rfl ?_
      refine p_iload rfl ?_
      refine p_iald gt_97 h (fun h => ?_)
      refine p_aload_n rfl ?_
      refine p_getR fk_X6_15 gt_95 rfl rfl ?_
      refine p_iload_n rfl ?_
      refine p_iald gt_97 h (fun h => ?_)
      refine p_isub ?_
      refine p_iload rfl ?_
      refine p_cI (av := [_, _]) ⟨mok_X10_left, Or.inr ⟨55, rfl, rfl, sta_X10_left, Or.inr lk_X6_55⟩⟩ (Nat.le_of_ble_eq_true rfl) (Nat.le_of_ble_eq_true rfl) rfl (fun _ h => pc_X10_left hl h) h (fun v605 M604 h => ?_)
      refine p_if_ne h 34 rfl rfl (fun _ h => ?_) (fun _ h => ?_)
      · refine p_iconst cn_1 ?_
        refine p_iload rfl ?_
        refine p_ishl ?_
        refine p_goto 35 rfl rfl ?_
        exact p_fg (S_X6_meetsTooMany_95_60 hl (fun h => ih h) h) ⟨Or.inr rfl, Or.inr rfl, Or.inr rfl, Or.inl rfl, Or.inr rfl, Or.inl rfl, trivial⟩
      · refine p_iconst cn_0 ?_
        exact p_fg (S_X6_meetsTooMany_95_60 hl (fun h => ih h) h) ⟨Or.inr rfl, Or.inr rfl, Or.inr rfl, Or.inl rfl, Or.inr rfl, Or.inl rfl, trivial⟩
set_option maxRecDepth 100000 in
theorem S_X6_meetsTooMany_95 {l : Launch} (hl : l.stackTraces = false) {M : PM} {a1 : Int32} {a2 : Int32} {r : PR} (h : F_X6_meetsTooMany_95 M a1 a2 = some r) : PW l 2 Y_X6_meetsTooMany k_X6_meetsTooMany [vR 95, vI a1, vI a2, jk, jk, jk] [] M r := by
  unfold F_X6_meetsTooMany_95 at h
  refine p_iconst cn_0 ?_
  refine p_istore_n (Nat.le_of_ble_eq_true rfl) rfl ?_
  refine p_iconst cn_0 ?_
  refine p_istore (Nat.le_of_ble_eq_true rfl) rfl ?_
  exact p_fg (S_X6_meetsTooMany_95_5 hl FUEL h) ⟨Or.inr rfl, Or.inr rfl, Or.inr rfl, Or.inr rfl, Or.inr rfl, Or.inl rfl, trivial⟩
set_option maxRecDepth 100000 in
theorem pc_X6_meetsTooMany_95 {l : Launch} (hl : l.stackTraces = false) {M : PM} {a1 : Int32} {a2 : Int32} {r : PR} (h : F_X6_meetsTooMany_95 M a1 a2 = some r) : PC l 2 Y_X6_meetsTooMany [vR 95, vI a1, vI a2] M r := pc_of hl (by decide +kernel) cok_X6_meetsTooMany (Nat.le_of_ble_eq_true rfl) rfl (S_X6_meetsTooMany_95 hl  h) rfl
def F_X6_isSet_95_97 (rc : Nat → PM → Int32 → Int32 → Int32 → Option PR) (k58 : PM → Int32 → Int32 → Int32 → Int32 → Int32 → Option PR) (M : PM) (x1 : Int32) (x2 : Int32) (x4 : Int32) (x5 : Int32) (x6 : Int32) : Option PR := lt (x6 + 1) fun y606 => k58 M x1 x2 x4 x5 y606
def F_X6_isSet_95_58 (rc : Nat → PM → Int32 → Int32 → Int32 → Option PR) : Nat → PM → Int32 → Int32 → Int32 → Int32 → Int32 → Option PR
  | 0, _, _, _, _, _, _ => none
  | n + 1, M, x1, x2, x4, x5, x6 => (if x4 ≤ x6 then (if (0 : Int32) &&& 1 = 0 then some (.inl (some (.int 0)), M) else none) else if ixOK x1 6 = true then cI (F_X6_meetsTooMany_95 (sA M 97 x1.toNatClampNeg x6) x1 x2) fun v608 M607 => (if v608 = 0 then cI (rc 0 M607 (x1 + 1) x2 x5) fun v610 M609 => (if v610 = 0 then F_X6_isSet_95_97 rc (F_X6_isSet_95_58 rc n) M609 x1 x2 x4 x5 x6 else (if (1 : Int32) &&& 1 = 1 then some (.inl (some (.int 1)), M609) else none)) else F_X6_isSet_95_97 rc (F_X6_isSet_95_58 rc n) M607 x1 x2 x4 x5 x6) else none)
def F_X6_isSet_95_49 (rc : Nat → PM → Int32 → Int32 → Int32 → Option PR) (M : PM) (x1 : Int32) (x2 : Int32) (x4 : Int32) (t0 : Int32) : Option PR := cI (F_X6_leastDay_95 M x1) fun v612 M611 => F_X6_isSet_95_58 rc FUEL M611 x1 x2 x4 t0 v612
def F_X6_isSet_95 (rc : Nat → PM → Int32 → Int32 → Int32 → Option PR) (M : PM) (a1 : Int32) (a2 : Int32) (a3 : Int32) : Option PR := (if mI M 95 3 ≤ a1 then (if (1 : Int32) &&& 1 = 1 then some (.inl (some (.int 1)), M) else none) else (if a1 < 6 then if ixOK a1 6 = true then cI (F_X10_commonDivisor M a3 (mA M 96 a1.toNatClampNeg)) fun v614 M613 => (if 1 ≤ v614 then if v614 = 0 then none else if ixOK a1 6 = true then F_X6_isSet_95_49 rc M613 a1 a2 v614 ((a3 / v614) * (mA M613 96 a1.toNatClampNeg)) else none else F_X6_isSet_95_49 rc M613 a1 a2 v614 a3) else none else (if (1 : Int32) &&& 1 = 1 then some (.inl (some (.int 1)), M) else none)))
set_option maxRecDepth 100000 in
theorem S_X6_isSet_95_97 {l : Launch} (hl : l.stackTraces = false) {rc : Nat → PM → Int32 → Int32 → Int32 → Option PR} {gn : Nat} (hg : 3 ≤ gn) (hr0 : ∀ {M : PM} {a1 : Int32} {a2 : Int32} {a3 : Int32} {r : PR}, rc 0 M a1 a2 a3 = some r → PC l gn Y_X6_isSet [vR 95, vI a1, vI a2, vI a3] M r) {k58 : PM → Int32 → Int32 → Int32 → Int32 → Int32 → Option PR} (hk58 : ∀ {M : PM} {x1 : Int32} {x2 : Int32} {x4 : Int32} {x5 : Int32} {x6 : Int32} {r : PR}, k58 M x1 x2 x4 x5 x6 = some r → PW l (gn + 1) Y_X6_isSet k_X6_isSet_58 [vR 95, vI x1, vI x2, jk, vI x4, vI x5, vI x6] [] M r) {M : PM} {x1 : Int32} {x2 : Int32} {x4 : Int32} {x5 : Int32} {x6 : Int32} {r : PR} (h : F_X6_isSet_95_97 rc k58 M x1 x2 x4 x5 x6 = some r) : PW l (gn + 1) Y_X6_isSet k_X6_isSet_97 [vR 95, vI x1, vI x2, jk, vI x4, vI x5, vI x6] [] M r := by
  unfold F_X6_isSet_95_97 at h
  have h := lt_h h
  refine p_iinc (Nat.le_of_ble_eq_true rfl) rfl (ci_1 _) rfl ?_
  refine p_goto 34 rfl rfl ?_
  exact p_fg (hk58 h) ⟨Or.inr rfl, Or.inr rfl, Or.inr rfl, Or.inl rfl, Or.inr rfl, Or.inr rfl, Or.inr rfl, trivial⟩
set_option maxRecDepth 100000 in
theorem S_X6_isSet_95_58 {l : Launch} (hl : l.stackTraces = false) {rc : Nat → PM → Int32 → Int32 → Int32 → Option PR} {gn : Nat} (hg : 3 ≤ gn) (hr0 : ∀ {M : PM} {a1 : Int32} {a2 : Int32} {a3 : Int32} {r : PR}, rc 0 M a1 a2 a3 = some r → PC l gn Y_X6_isSet [vR 95, vI a1, vI a2, vI a3] M r) : ∀ (n : Nat) {M : PM} {x1 : Int32} {x2 : Int32} {x4 : Int32} {x5 : Int32} {x6 : Int32} {r : PR}, F_X6_isSet_95_58 rc n M x1 x2 x4 x5 x6 = some r → PW l (gn + 1) Y_X6_isSet k_X6_isSet_58 [vR 95, vI x1, vI x2, jk, vI x4, vI x5, vI x6] [] M r := by
  intro n
  induction n with
  | zero => intro M x1 x2 x4 x5 x6 r h; exact nomatch (show (none : Option PR) = some r from h)
  | succ n ih =>
    intro M x1 x2 x4 x5 x6 r h
    rw [F_X6_isSet_95_58] at h
    refine p_iload rfl ?_
    refine p_iload rfl ?_
    refine p_icmp_ge h 59 rfl rfl (fun _ h => ?_) (fun _ h => ?_)
    · refine p_iconst cn_0 ?_
      exact p_zret rfl h
    · refine p_aload_n rfl ?_
      refine p_getR fk_X6_15 gt_95 rfl rfl ?_
      refine p_iload_n rfl ?_
      refine p_iload rfl ?_
      refine p_iast gt_97 h (fun h => ?_)
      refine p_aload_n rfl ?_
      refine p_iload_n rfl ?_
      refine p_iload_n rfl ?_
      refine p_cI (av := [_, _, _]) ⟨mok_X6_meetsTooMany, Or.inl ⟨51, 95, 6, 0, _, rfl, rfl, rfl, gt_95, rfl, ins_X6_meetsTooMany, Or.inl lk_X6_51⟩⟩ (by omega) (Nat.le_of_ble_eq_true rfl) rfl (fun _ h => pc_X6_meetsTooMany_95 hl h) h (fun v608 M607 h => ?_)
      refine p_if_ne h 57 rfl rfl (fun _ h => ?_) (fun _ h => ?_)
      · refine p_aload_n rfl ?_
        refine p_iload_n rfl ?_
        refine p_iconst cn_1 ?_
        refine p_iadd ?_
        refine p_iload_n rfl ?_
        refine p_iload rfl ?_
        refine p_cI (av := [_, _, _, _]) ⟨mok_X6_isSet, Or.inl ⟨37, 95, 6, 0, _, rfl, rfl, rfl, gt_95, rfl, ins_X6_isSet, Or.inl lk_X6_37⟩⟩ (Nat.le_refl _) (Nat.le_of_ble_eq_true rfl) rfl (fun _ h => hr0 h) h (fun v610 M609 h => ?_)
        refine p_if_eq h 57 rfl rfl (fun _ h => ?_) (fun _ h => ?_)
        · exact p_fg (S_X6_isSet_95_97 hl hg hr0 (fun h => ih h) h) ⟨Or.inr rfl, Or.inr rfl, Or.inr rfl, Or.inl rfl, Or.inr rfl, Or.inr rfl, Or.inr rfl, trivial⟩
        · refine p_iconst cn_1 ?_
          exact p_zret rfl h
      · exact p_fg (S_X6_isSet_95_97 hl hg hr0 (fun h => ih h) h) ⟨Or.inr rfl, Or.inr rfl, Or.inr rfl, Or.inl rfl, Or.inr rfl, Or.inr rfl, Or.inr rfl, trivial⟩
set_option maxRecDepth 100000 in
theorem S_X6_isSet_95_49 {l : Launch} (hl : l.stackTraces = false) {rc : Nat → PM → Int32 → Int32 → Int32 → Option PR} {gn : Nat} (hg : 3 ≤ gn) (hr0 : ∀ {M : PM} {a1 : Int32} {a2 : Int32} {a3 : Int32} {r : PR}, rc 0 M a1 a2 a3 = some r → PC l gn Y_X6_isSet [vR 95, vI a1, vI a2, vI a3] M r) {M : PM} {x1 : Int32} {x2 : Int32} {x4 : Int32} {t0 : Int32} {r : PR} (h : F_X6_isSet_95_49 rc M x1 x2 x4 t0 = some r) : PW l (gn + 1) Y_X6_isSet k_X6_isSet_49 [vR 95, vI x1, vI x2, jk, vI x4, jk, jk] [vI t0] M r := by
  unfold F_X6_isSet_95_49 at h
  refine p_istore (Nat.le_of_ble_eq_true rfl) rfl ?_
  refine p_aload_n rfl ?_
  refine p_iload_n rfl ?_
  refine p_cI (av := [_, _]) ⟨mok_X6_leastDay, Or.inl ⟨47, 95, 6, 0, _, rfl, rfl, rfl, gt_95, rfl, ins_X6_leastDay, Or.inl lk_X6_47⟩⟩ (by omega) (Nat.le_of_ble_eq_true rfl) rfl (fun _ h => pc_X6_leastDay_95 hl h) h (fun v612 M611 h => ?_)
  refine p_istore (Nat.le_of_ble_eq_true rfl) rfl ?_
  exact p_fg (S_X6_isSet_95_58 hl hg hr0 FUEL h) ⟨Or.inr rfl, Or.inr rfl, Or.inr rfl, Or.inl rfl, Or.inr rfl, Or.inr rfl, Or.inr rfl, trivial⟩
set_option maxRecDepth 100000 in
theorem S_X6_isSet_95 {l : Launch} (hl : l.stackTraces = false) {rc : Nat → PM → Int32 → Int32 → Int32 → Option PR} {gn : Nat} (hg : 3 ≤ gn) (hr0 : ∀ {M : PM} {a1 : Int32} {a2 : Int32} {a3 : Int32} {r : PR}, rc 0 M a1 a2 a3 = some r → PC l gn Y_X6_isSet [vR 95, vI a1, vI a2, vI a3] M r) {M : PM} {a1 : Int32} {a2 : Int32} {a3 : Int32} {r : PR} (h : F_X6_isSet_95 rc M a1 a2 a3 = some r) : PW l (gn + 1) Y_X6_isSet k_X6_isSet [vR 95, vI a1, vI a2, vI a3, jk, jk, jk] [] M r := by
  unfold F_X6_isSet_95 at h
  refine p_iload_n rfl ?_
  refine p_aload_n rfl ?_
  refine p_getI fk_X6_21 gt_95 rfl ?_
  refine p_icmp_ge h 7 rfl rfl (fun _ h => ?_) (fun _ h => ?_)
  · refine p_iconst cn_1 ?_
    exact p_zret rfl h
  · refine p_iload_n rfl ?_
    refine p_bipush cb_6 ?_
    refine p_icmp_lt h 9 rfl rfl (fun _ h => ?_) (fun _ h => ?_)
    · refine p_iload_n rfl ?_
      refine p_aload_n rfl ?_
      refine p_getR fk_X6_11 gt_95 rfl rfl ?_
      refine p_iload_n rfl ?_
      refine p_iald gt_96 h (fun h => ?_)
      refine p_cI (av := [_, _]) ⟨mok_X10_commonDivisor, Or.inr ⟨43, rfl, rfl, sta_X10_commonDivisor, Or.inr lk_X6_43⟩⟩ (by omega) (Nat.le_of_ble_eq_true rfl) rfl (fun _ h => pc_X10_commonDivisor hl h) h (fun v614 M613 h => ?_)
      refine p_istore (Nat.le_of_ble_eq_true rfl) rfl ?_
      refine p_iload rfl ?_
      refine p_iconst cn_1 ?_
      refine p_icmp_ge h 21 rfl rfl (fun _ h => ?_) (fun _ h => ?_)
      · refine p_iload_n rfl ?_
        refine p_iload rfl ?_
        refine p_idiv h (fun h => ?_)
        refine p_aload_n rfl ?_
        refine p_getR fk_X6_11 gt_95 rfl rfl ?_
        refine p_iload_n rfl ?_
        refine p_iald gt_96 h (fun h => ?_)
        refine p_imul ?_
        exact p_fg (S_X6_isSet_95_49 hl hg hr0 h) ⟨Or.inr rfl, Or.inr rfl, Or.inr rfl, Or.inl rfl, Or.inr rfl, Or.inl rfl, Or.inl rfl, trivial⟩
      · refine p_iload_n rfl ?_
        refine p_goto 29 rfl rfl ?_
        exact p_fg (S_X6_isSet_95_49 hl hg hr0 h) ⟨Or.inr rfl, Or.inr rfl, Or.inr rfl, Or.inl rfl, Or.inr rfl, Or.inl rfl, Or.inl rfl, trivial⟩
    · refine p_iconst cn_1 ?_
      exact p_zret rfl h
set_option maxRecDepth 100000 in
theorem pc_X6_isSet_95 {l : Launch} (hl : l.stackTraces = false) {rc : Nat → PM → Int32 → Int32 → Int32 → Option PR} {gn : Nat} (hg : 3 ≤ gn) (hr0 : ∀ {M : PM} {a1 : Int32} {a2 : Int32} {a3 : Int32} {r : PR}, rc 0 M a1 a2 a3 = some r → PC l gn Y_X6_isSet [vR 95, vI a1, vI a2, vI a3] M r) {M : PM} {a1 : Int32} {a2 : Int32} {a3 : Int32} {r : PR} (h : F_X6_isSet_95 rc M a1 a2 a3 = some r) : PC l (gn + 1) Y_X6_isSet [vR 95, vI a1, vI a2, vI a3] M r := pc_of hl (by decide +kernel) cok_X6_isSet (Nat.le_of_ble_eq_true rfl) rfl (S_X6_isSet_95 hl hg hr0 h) rfl
def G_isSet : Nat → Nat → PM → Int32 → Int32 → Int32 → Option PR
  | 0, _, _, _, _, _ => none
  | n + 1, 0, M, a1, a2, a3 => F_X6_isSet_95 (G_isSet n) M a1 a2 a3
  | _ + 1, _, _, _, _, _ => none
set_option maxRecDepth 100000 in
theorem pcG_isSet {l : Launch} (hl : l.stackTraces = false) : ∀ n : Nat, (∀ {M : PM} {a1 : Int32} {a2 : Int32} {a3 : Int32} {r : PR}, G_isSet n 0 M a1 a2 a3 = some r → PC l (3 + n) Y_X6_isSet [vR 95, vI a1, vI a2, vI a3] M r) := by
  intro n
  induction n with
  | zero => exact (by intros; rename_i h; exact nomatch (show (none : Option PR) = some _ from h))
  | succ n ih =>
    have i0 := @ih
    exact (by intros; rename_i h; exact pc_X6_isSet_95 hl (rc := G_isSet n) (gn := 3 + n) (Nat.le_add_right _ _) (fun h => i0 h) h)
set_option maxRecDepth 100000 in
theorem pcg_isSet_0 {l : Launch} (hl : l.stackTraces = false) {M : PM} {a1 : Int32} {a2 : Int32} {a3 : Int32} {r : PR} (h : G_isSet 10 0 M a1 a2 a3 = some r) : PC l 13 Y_X6_isSet [vR 95, vI a1, vI a2, vI a3] M r := (pcG_isSet hl 10) h
def F_X6_firstDays_95_19 : Nat → PM → Int64 → Int32 → Option PR
  | 0, _, _, _ => none
  | n + 1, M, x2, x4 => (if mI M 95 3 ≤ x4 then some (.inl (some (.long x2)), M) else if ixOK x4 6 = true then lt (((100 : Int64) * x2) + ((mA M 97 x4.toNatClampNeg).toInt64)) fun y615 => lt (x4 + 1) fun y616 => F_X6_firstDays_95_19 n M y615 y616 else none)
def F_X6_firstDays_95 (M : PM) (a1 : Int32) : Option PR := cI (G_isSet 10 0 M 0 a1 1) fun v618 M617 => (if v618 = 0 then some (.inl (some (.long (-1 : Int64))), M617) else lt ((0 : Int64)) fun y619 => F_X6_firstDays_95_19 FUEL M617 y619 0)
set_option maxRecDepth 100000 in
theorem S_X6_firstDays_95_19 {l : Launch} (hl : l.stackTraces = false) : ∀ (n : Nat) {M : PM} {x2 : Int64} {x4 : Int32} {r : PR}, F_X6_firstDays_95_19  n M x2 x4 = some r → PW l 14 Y_X6_firstDays k_X6_firstDays_19 [vR 95, jk, vJ x2, jk, vI x4] [] M r := by
  intro n
  induction n with
  | zero => intro M x2 x4 r h; exact nomatch (show (none : Option PR) = some r from h)
  | succ n ih =>
    intro M x2 x4 r h
    rw [F_X6_firstDays_95_19] at h
    refine p_iload rfl ?_
    refine p_aload_n rfl ?_
    refine p_getI fk_X6_21 gt_95 rfl ?_
    refine p_icmp_ge h 28 rfl rfl (fun _ h => ?_) (fun _ h => ?_)
    · refine p_lload_n rfl ?_
      exact p_lret rfl h
    · refine p_ldc2_w co_X6_25 ?_
      refine p_lload_n rfl ?_
      refine p_lmul ?_
      refine p_aload_n rfl ?_
      refine p_getR fk_X6_15 gt_95 rfl rfl ?_
      refine p_iload rfl ?_
      refine p_iald gt_97 h (fun h => ?_)
      refine p_i2l ?_
      refine p_ladd ?_
      have h := lt_h h
      refine p_lstore_n (Nat.le_of_ble_eq_true rfl) rfl ?_
      have h := lt_h h
      refine p_iinc (Nat.le_of_ble_eq_true rfl) rfl (ci_1 _) rfl ?_
      refine p_goto 12 rfl rfl ?_
      exact p_fg (ih h) ⟨Or.inr rfl, Or.inl rfl, Or.inr rfl, Or.inl rfl, Or.inr rfl, trivial⟩
set_option maxRecDepth 100000 in
theorem S_X6_firstDays_95 {l : Launch} (hl : l.stackTraces = false) {M : PM} {a1 : Int32} {r : PR} (h : F_X6_firstDays_95 M a1 = some r) : PW l 14 Y_X6_firstDays k_X6_firstDays [vR 95, vI a1, jk, jk, jk] [] M r := by
  unfold F_X6_firstDays_95 at h
  refine p_aload_n rfl ?_
  refine p_iconst cn_0 ?_
  refine p_iload_n rfl ?_
  refine p_iconst cn_1 ?_
  refine p_cI (av := [_, _, _, _]) ⟨mok_X6_isSet, Or.inl ⟨37, 95, 6, 0, _, rfl, rfl, rfl, gt_95, rfl, ins_X6_isSet, Or.inl lk_X6_37⟩⟩ (Nat.le_of_ble_eq_true rfl) (Nat.le_of_ble_eq_true rfl) rfl (fun _ h => pcg_isSet_0 hl h) h (fun v618 M617 h => ?_)
  refine p_if_ne h 8 rfl rfl (fun _ h => ?_) (fun _ h => ?_)
  · refine p_ldc2_w co_X6_41 ?_
    exact p_lret rfl h
  · refine p_lconst cl_0 ?_
    have h := lt_h h
    refine p_lstore_n (Nat.le_of_ble_eq_true rfl) rfl ?_
    refine p_iconst cn_0 ?_
    refine p_istore (Nat.le_of_ble_eq_true rfl) rfl ?_
    exact p_fg (S_X6_firstDays_95_19 hl FUEL h) ⟨Or.inr rfl, Or.inl rfl, Or.inr rfl, Or.inl rfl, Or.inr rfl, trivial⟩
set_option maxRecDepth 100000 in
theorem pc_X6_firstDays_95 {l : Launch} (hl : l.stackTraces = false) {M : PM} {a1 : Int32} {r : PR} (h : F_X6_firstDays_95 M a1 = some r) : PC l 14 Y_X6_firstDays [vR 95, vI a1] M r := pc_of hl (by decide +kernel) cok_X6_firstDays (Nat.le_of_ble_eq_true rfl) rfl (S_X6_firstDays_95 hl  h) rfl
def F_X10_weeks_0_28 (M : PM) (x3 : Int32) (t1 : Int32) : Option PR := bV (F_X10_need_0 M t1) fun M620 => cJ (F_X6_firstDays_95 M620 x3) fun v622 M621 => some (.inl (some (.long v622)), M621)
def F_X10_weeks_0_27 (M : PM) (x3 : Int32) : Option PR := F_X10_weeks_0_28 M x3 0
def F_X10_weeks_0 (M : PM) (a1 : Int64) (a2 : Int32) : Option PR := cI (F_X6_take_95 M a1) fun v624 M623 => (if v624 = 0 then F_X10_weeks_0_27 M623 a2 else (if a2 < 1 then F_X10_weeks_0_27 M623 a2 else (if 6 < a2 then F_X10_weeks_0_27 M623 a2 else F_X10_weeks_0_28 M623 a2 1)))
set_option maxRecDepth 100000 in
theorem S_X10_weeks_0_28 {l : Launch} (hl : l.stackTraces = false) {M : PM} {x3 : Int32} {t1 : Int32} {r : PR} (h : F_X10_weeks_0_28  M x3 t1 = some r) : PW l 15 Y_X10_weeks k_X10_weeks_28 [vR 0, jk, jk, vI x3] [vI t1, vR 0] M r := by
  unfold F_X10_weeks_0_28 at h
  refine p_bV mok_X10_need rfl gt_0 rfl ins_X10_need lk_X10_101 (Nat.le_of_ble_eq_true rfl) (Nat.le_of_ble_eq_true rfl) rfl (fun _ h => pc_X10_need_0 hl h) h (fun M620 h => ?_)
  refine p_aload_n rfl ?_
  refine p_getR fk_X10_86 gt_0 rfl rfl ?_
  refine p_iload_n rfl ?_
  refine p_cJ (av := [_, _]) ⟨mok_X6_firstDays, Or.inl ⟨261, 95, 6, 0, _, rfl, rfl, rfl, gt_95, rfl, ins_X6_firstDays, Or.inr lk_X10_261⟩⟩ (Nat.le_of_ble_eq_true rfl) (Nat.le_of_ble_eq_true rfl) rfl (fun _ h => pc_X6_firstDays_95 hl h) h (fun v622 M621 h => ?_)
  exact p_lret rfl h
set_option maxRecDepth 100000 in
theorem S_X10_weeks_0_27 {l : Launch} (hl : l.stackTraces = false) {M : PM} {x3 : Int32} {r : PR} (h : F_X10_weeks_0_27  M x3 = some r) : PW l 15 Y_X10_weeks k_X10_weeks_27 [vR 0, jk, jk, vI x3] [vR 0] M r := by
  unfold F_X10_weeks_0_27 at h
  refine p_iconst cn_0 ?_
  exact p_fg (S_X10_weeks_0_28 hl h) ⟨Or.inr rfl, Or.inl rfl, Or.inl rfl, Or.inr rfl, trivial⟩
set_option maxRecDepth 100000 in
theorem S_X10_weeks_0 {l : Launch} (hl : l.stackTraces = false) {M : PM} {a1 : Int64} {a2 : Int32} {r : PR} (h : F_X10_weeks_0 M a1 a2 = some r) : PW l 15 Y_X10_weeks k_X10_weeks [vR 0, vJ a1, jk, vI a2] [] M r := by
  unfold F_X10_weeks_0 at h
  refine p_aload_n rfl ?_
  refine p_aload_n rfl ?_
  refine p_getR fk_X10_86 gt_0 rfl rfl ?_
  refine p_lload_n rfl ?_
  refine p_cI (av := [_, _]) ⟨mok_X6_take, Or.inl ⟨258, 95, 6, 0, _, rfl, rfl, rfl, gt_95, rfl, ins_X6_take, Or.inr lk_X10_258⟩⟩ (Nat.le_of_ble_eq_true rfl) (Nat.le_of_ble_eq_true rfl) rfl (fun _ h => pc_X6_take_95 hl h) h (fun v624 M623 h => ?_)
  refine p_if_eq h 14 rfl rfl (fun _ h => ?_) (fun _ h => ?_)
  · exact p_fg (S_X10_weeks_0_27 hl h) ⟨Or.inr rfl, Or.inl rfl, Or.inl rfl, Or.inr rfl, trivial⟩
  · refine p_iload_n rfl ?_
    refine p_iconst cn_1 ?_
    refine p_icmp_lt h 14 rfl rfl (fun _ h => ?_) (fun _ h => ?_)
    · exact p_fg (S_X10_weeks_0_27 hl h) ⟨Or.inr rfl, Or.inl rfl, Or.inl rfl, Or.inr rfl, trivial⟩
    · refine p_iload_n rfl ?_
      refine p_bipush cb_6 ?_
      refine p_icmp_gt h 14 rfl rfl (fun _ h => ?_) (fun _ h => ?_)
      · exact p_fg (S_X10_weeks_0_27 hl h) ⟨Or.inr rfl, Or.inl rfl, Or.inl rfl, Or.inr rfl, trivial⟩
      · refine p_iconst cn_1 ?_
        refine p_goto 15 rfl rfl ?_
        exact p_fg (S_X10_weeks_0_28 hl h) ⟨Or.inr rfl, Or.inl rfl, Or.inl rfl, Or.inr rfl, trivial⟩
set_option maxRecDepth 100000 in
theorem pc_X10_weeks_0 {l : Launch} (hl : l.stackTraces = false) {M : PM} {a1 : Int64} {a2 : Int32} {r : PR} (h : F_X10_weeks_0 M a1 a2 = some r) : PC l 15 Y_X10_weeks [vR 0, vJ a1, vI a2] M r := pc_of hl (by decide +kernel) cok_X10_weeks (Nat.le_of_ble_eq_true rfl) rfl (S_X10_weeks_0 hl  h) rfl
def F_X3_addSight_16 (M : PM) (a1 : Int32) (a2 : Int32) (a3 : Int32) : Option PR := (if mI M 16 4 < 20 then if ixOK (mI M 16 4) 20 = true then if ixOK (mI (sA M 18 (mI M 16 4).toNatClampNeg a1) 16 4) 20 = true then if ixOK (mI (sA (sA M 18 (mI M 16 4).toNatClampNeg a1) 19 (mI (sA M 18 (mI M 16 4).toNatClampNeg a1) 16 4).toNatClampNeg a2) 16 4) 20 = true then lt (sA (sA (sA M 18 (mI M 16 4).toNatClampNeg a1) 19 (mI (sA M 18 (mI M 16 4).toNatClampNeg a1) 16 4).toNatClampNeg a2) 20 (mI (sA (sA M 18 (mI M 16 4).toNatClampNeg a1) 19 (mI (sA M 18 (mI M 16 4).toNatClampNeg a1) 16 4).toNatClampNeg a2) 16 4).toNatClampNeg (a3 &&& 1)) fun M625 => some (.inl (some (.int (mI (sI M625 16 4 ((mI M625 16 4) + 1)) 16 4))), sI M625 16 4 ((mI M625 16 4) + 1)) else none else none else none else some (.inl (some (.int (-1))), M))
set_option maxRecDepth 100000 in
theorem S_X3_addSight_16 {l : Launch} (hl : l.stackTraces = false) {M : PM} {a1 : Int32} {a2 : Int32} {a3 : Int32} {r : PR} (h : F_X3_addSight_16 M a1 a2 a3 = some r) : PW l 0 Y_X3_addSight k_X3_addSight [vR 16, vI a1, vI a2, vI a3] [] M r := by
  unfold F_X3_addSight_16 at h
  refine p_aload_n rfl ?_
  refine p_getI fk_X3_52 gt_16 rfl ?_
  refine p_bipush cb_20 ?_
  refine p_icmp_lt h 6 rfl rfl (fun _ h => ?_) (fun _ h => ?_)
  · refine p_aload_n rfl ?_
    refine p_getR fk_X3_15 gt_16 rfl rfl ?_
    refine p_aload_n rfl ?_
    refine p_getI fk_X3_52 gt_16 rfl ?_
    refine p_iload_n rfl ?_
    refine p_iast gt_18 h (fun h => ?_)
    refine p_aload_n rfl ?_
    refine p_getR fk_X3_18 gt_16 rfl rfl ?_
    refine p_aload_n rfl ?_
    refine p_getI fk_X3_52 gt_16 rfl ?_
    refine p_iload_n rfl ?_
    refine p_iast gt_19 h (fun h => ?_)
    refine p_aload_n rfl ?_
    refine p_getR fk_X3_21 gt_16 rfl rfl ?_
    refine p_aload_n rfl ?_
    refine p_getI fk_X3_52 gt_16 rfl ?_
    refine p_iload_n rfl ?_
    refine p_zast gt_20 h (fun h => ?_)
    have h := lt_h h
    refine p_aload_n rfl ?_
    refine p_dup rfl ?_
    refine p_getI fk_X3_52 gt_16 rfl ?_
    refine p_iconst cn_1 ?_
    refine p_iadd ?_
    refine p_putI fk_X3_52 gt_16 rfl ?_
    refine p_aload_n rfl ?_
    refine p_getI fk_X3_52 gt_16 rfl ?_
    exact p_iret rfl h
  · refine p_iconst cn_m1 ?_
    exact p_iret rfl h
set_option maxRecDepth 100000 in
theorem pc_X3_addSight_16 {l : Launch} (hl : l.stackTraces = false) {M : PM} {a1 : Int32} {a2 : Int32} {a3 : Int32} {r : PR} (h : F_X3_addSight_16 M a1 a2 a3 = some r) : PC l 0 Y_X3_addSight [vR 16, vI a1, vI a2, vI a3] M r := pc_of hl (by decide +kernel) cok_X3_addSight (Nat.le_of_ble_eq_true rfl) rfl (S_X3_addSight_16 hl  h) rfl
def F_X10_seen_0_21 (M : PM) (x1 : Int32) (x2 : Int32) (x3 : Int32) (t1 : Int32) : Option PR := bV (F_X10_need_0 M t1) fun M626 => cI (F_X3_addSight_16 M626 x1 x2 x3) fun v628 M627 => some (.inl (some (.int v628)), M627)
def F_X10_seen_0_20 (M : PM) (x1 : Int32) (x2 : Int32) (x3 : Int32) : Option PR := F_X10_seen_0_21 M x1 x2 x3 0
def F_X10_seen_0 (M : PM) (a1 : Int32) (a2 : Int32) (a3 : Int32) : Option PR := bV (F_X10_needLaw_0 M a1) fun M629 => (if a2 < 0 then F_X10_seen_0_20 M629 a1 a2 a3 else (if 9 < a2 then F_X10_seen_0_20 M629 a1 a2 a3 else F_X10_seen_0_21 M629 a1 a2 a3 1))
set_option maxRecDepth 100000 in
theorem S_X10_seen_0_21 {l : Launch} (hl : l.stackTraces = false) {M : PM} {x1 : Int32} {x2 : Int32} {x3 : Int32} {t1 : Int32} {r : PR} (h : F_X10_seen_0_21  M x1 x2 x3 t1 = some r) : PW l 8 Y_X10_seen k_X10_seen_21 [vR 0, vI x1, vI x2, vI x3] [vI t1, vR 0] M r := by
  unfold F_X10_seen_0_21 at h
  refine p_bV mok_X10_need rfl gt_0 rfl ins_X10_need lk_X10_101 (Nat.le_of_ble_eq_true rfl) (Nat.le_of_ble_eq_true rfl) rfl (fun _ h => pc_X10_need_0 hl h) h (fun M626 h => ?_)
  refine p_aload_n rfl ?_
  refine p_getR fk_X10_34 gt_0 rfl rfl ?_
  refine p_iload_n rfl ?_
  refine p_iload_n rfl ?_
  refine p_iload_n rfl ?_
  refine p_cI (av := [_, _, _, _]) ⟨mok_X3_addSight, Or.inl ⟨264, 16, 3, 0, _, rfl, rfl, rfl, gt_16, rfl, ins_X3_addSight, Or.inr lk_X10_264⟩⟩ (Nat.le_of_ble_eq_true rfl) (Nat.le_of_ble_eq_true rfl) rfl (fun _ h => pc_X3_addSight_16 hl h) h (fun v628 M627 h => ?_)
  exact p_iret rfl h
set_option maxRecDepth 100000 in
theorem S_X10_seen_0_20 {l : Launch} (hl : l.stackTraces = false) {M : PM} {x1 : Int32} {x2 : Int32} {x3 : Int32} {r : PR} (h : F_X10_seen_0_20  M x1 x2 x3 = some r) : PW l 8 Y_X10_seen k_X10_seen_20 [vR 0, vI x1, vI x2, vI x3] [vR 0] M r := by
  unfold F_X10_seen_0_20 at h
  refine p_iconst cn_0 ?_
  exact p_fg (S_X10_seen_0_21 hl h) ⟨Or.inr rfl, Or.inr rfl, Or.inr rfl, Or.inr rfl, trivial⟩
set_option maxRecDepth 100000 in
theorem S_X10_seen_0 {l : Launch} (hl : l.stackTraces = false) {M : PM} {a1 : Int32} {a2 : Int32} {a3 : Int32} {r : PR} (h : F_X10_seen_0 M a1 a2 a3 = some r) : PW l 8 Y_X10_seen k_X10_seen [vR 0, vI a1, vI a2, vI a3] [] M r := by
  unfold F_X10_seen_0 at h
  refine p_aload_n rfl ?_
  refine p_iload_n rfl ?_
  refine p_bV mok_X10_needLaw rfl gt_0 rfl ins_X10_needLaw lk_X10_155 (Nat.le_of_ble_eq_true rfl) (Nat.le_of_ble_eq_true rfl) rfl (fun _ h => pc_X10_needLaw_0 hl h) h (fun M629 h => ?_)
  refine p_aload_n rfl ?_
  refine p_iload_n rfl ?_
  refine p_if_lt h 11 rfl rfl (fun _ h => ?_) (fun _ h => ?_)
  · exact p_fg (S_X10_seen_0_20 hl h) ⟨Or.inr rfl, Or.inr rfl, Or.inr rfl, Or.inr rfl, trivial⟩
  · refine p_iload_n rfl ?_
    refine p_bipush cb_9 ?_
    refine p_icmp_gt h 11 rfl rfl (fun _ h => ?_) (fun _ h => ?_)
    · exact p_fg (S_X10_seen_0_20 hl h) ⟨Or.inr rfl, Or.inr rfl, Or.inr rfl, Or.inr rfl, trivial⟩
    · refine p_iconst cn_1 ?_
      refine p_goto 12 rfl rfl ?_
      exact p_fg (S_X10_seen_0_21 hl h) ⟨Or.inr rfl, Or.inr rfl, Or.inr rfl, Or.inr rfl, trivial⟩
set_option maxRecDepth 100000 in
theorem pc_X10_seen_0 {l : Launch} (hl : l.stackTraces = false) {M : PM} {a1 : Int32} {a2 : Int32} {a3 : Int32} {r : PR} (h : F_X10_seen_0 M a1 a2 a3 = some r) : PC l 8 Y_X10_seen [vR 0, vI a1, vI a2, vI a3] M r := pc_of hl (by decide +kernel) cok_X10_seen (Nat.le_of_ble_eq_true rfl) rfl (S_X10_seen_0 hl  h) rfl
def F_X5_fittingFrom_93_78 (k7 : PM → Int32 → Int64 → Int32 → Option PR) (M : PM) (x1 : Int32) (x4 : Int32) (t0 : Int64) (t1 : Int64) : Option PR := lt (t0 &&& t1) fun y630 => lt (x4 + 1) fun y631 => k7 M x1 y630 y631
def F_X5_fittingFrom_93_7 : Nat → PM → Int32 → Int64 → Int32 → Option PR
  | 0, _, _, _, _ => none
  | n + 1, M, x1, x2, x4 => (if mI M 16 4 ≤ x4 then some (.inl (some (.long x2)), M) else if ixOK x4 20 = true then if ixOK x4 20 = true then cJ (F_X2_heldFrom_4 M (mA M 18 x4.toNatClampNeg) (x1 - (mA M 19 x4.toNatClampNeg))) fun v633 M632 => if ixOK x4 20 = true then (if mA M632 20 x4.toNatClampNeg = 0 then F_X5_fittingFrom_93_78 (F_X5_fittingFrom_93_7 n) M632 x1 x4 x2 (v633 ^^^ (-1 : Int64)) else F_X5_fittingFrom_93_78 (F_X5_fittingFrom_93_7 n) M632 x1 x4 x2 v633) else none else none else none)
def F_X5_fittingFrom_93 (M : PM) (a1 : Int32) : Option PR := lt ((-1 : Int64)) fun y634 => F_X5_fittingFrom_93_7 FUEL M a1 y634 0
set_option maxRecDepth 100000 in
theorem S_X5_fittingFrom_93_78 {l : Launch} (hl : l.stackTraces = false) {k7 : PM → Int32 → Int64 → Int32 → Option PR} (hk7 : ∀ {M : PM} {x1 : Int32} {x2 : Int64} {x4 : Int32} {r : PR}, k7 M x1 x2 x4 = some r → PW l 3 Y_X5_fittingFrom k_X5_fittingFrom_7 [vR 93, vI x1, vJ x2, jk, vI x4, jk, jk] [] M r) {M : PM} {x1 : Int32} {x4 : Int32} {t0 : Int64} {t1 : Int64} {r : PR} (h : F_X5_fittingFrom_93_78 k7 M x1 x4 t0 t1 = some r) : PW l 3 Y_X5_fittingFrom k_X5_fittingFrom_78 [vR 93, vI x1, jk, jk, vI x4, jk, jk] [vJ t1, vJ t0] M r := by
  unfold F_X5_fittingFrom_93_78 at h
  refine p_land ?_
  have h := lt_h h
  refine p_lstore_n (Nat.le_of_ble_eq_true rfl) rfl ?_
  have h := lt_h h
  refine p_iinc (Nat.le_of_ble_eq_true rfl) rfl (ci_1 _) rfl ?_
  refine p_goto 4 rfl rfl ?_
  exact p_fg (hk7 h) ⟨Or.inr rfl, Or.inr rfl, Or.inr rfl, Or.inl rfl, Or.inr rfl, Or.inl rfl, Or.inl rfl, trivial⟩
set_option maxRecDepth 100000 in
theorem S_X5_fittingFrom_93_7 {l : Launch} (hl : l.stackTraces = false) : ∀ (n : Nat) {M : PM} {x1 : Int32} {x2 : Int64} {x4 : Int32} {r : PR}, F_X5_fittingFrom_93_7  n M x1 x2 x4 = some r → PW l 3 Y_X5_fittingFrom k_X5_fittingFrom_7 [vR 93, vI x1, vJ x2, jk, vI x4, jk, jk] [] M r := by
  intro n
  induction n with
  | zero => intro M x1 x2 x4 r h; exact nomatch (show (none : Option PR) = some r from h)
  | succ n ih =>
    intro M x1 x2 x4 r h
    rw [F_X5_fittingFrom_93_7] at h
    refine p_iload rfl ?_
    refine p_aload_n rfl ?_
    refine p_getR fk_X5_19 gt_93 rfl rfl ?_
    refine p_getI fk_X5_51 gt_16 rfl ?_
    refine p_icmp_ge h 42 rfl rfl (fun _ h => ?_) (fun _ h => ?_)
    · refine p_lload_n rfl ?_
      exact p_lret rfl h
    · refine p_aload_n rfl ?_
      refine p_getR fk_X5_15 gt_93 rfl rfl ?_
      refine p_getR fk_X5_56 gt_3 rfl rfl ?_
      refine p_aload_n rfl ?_
      refine p_getR fk_X5_19 gt_93 rfl rfl ?_
      refine p_getR fk_X5_60 gt_16 rfl rfl ?_
      refine p_iload rfl ?_
      refine p_iald gt_18 h (fun h => ?_)
      refine p_iload_n rfl ?_
      refine p_aload_n rfl ?_
      refine p_getR fk_X5_19 gt_93 rfl rfl ?_
      refine p_getR fk_X5_63 gt_16 rfl rfl ?_
      refine p_iload rfl ?_
      refine p_iald gt_19 h (fun h => ?_)
      refine p_isub ?_
      refine p_cJ (av := [_, _, _]) ⟨mok_X2_heldFrom, Or.inl ⟨66, 4, 2, 0, _, rfl, rfl, rfl, gt_4, rfl, ins_X2_heldFrom, Or.inr lk_X5_66⟩⟩ (Nat.le_of_ble_eq_true rfl) (Nat.le_of_ble_eq_true rfl) rfl (fun _ h => pc_X2_heldFrom_4 hl h) h (fun v633 M632 h => ?_)
      refine p_lstore (Nat.le_of_ble_eq_true rfl) rfl ?_
      refine p_lload_n rfl ?_
      refine p_aload_n rfl ?_
      refine p_getR fk_X5_19 gt_93 rfl rfl ?_
      refine p_getR fk_X5_72 gt_16 rfl rfl ?_
      refine p_iload rfl ?_
      refine p_zald gt_20 h (fun h => ?_)
      refine p_if_eq h 35 rfl rfl (fun _ h => ?_) (fun _ h => ?_)
      · refine p_lload rfl ?_
        refine p_ldc2_w co_X5_49 ?_
        refine p_lxor ?_
        exact p_fg (S_X5_fittingFrom_93_78 hl (fun h => ih h) h) ⟨Or.inr rfl, Or.inr rfl, Or.inl rfl, Or.inl rfl, Or.inr rfl, Or.inl rfl, Or.inl rfl, trivial⟩
      · refine p_lload rfl ?_
        refine p_goto 38 rfl rfl ?_
        exact p_fg (S_X5_fittingFrom_93_78 hl (fun h => ih h) h) ⟨Or.inr rfl, Or.inr rfl, Or.inl rfl, Or.inl rfl, Or.inr rfl, Or.inl rfl, Or.inl rfl, trivial⟩
set_option maxRecDepth 100000 in
theorem S_X5_fittingFrom_93 {l : Launch} (hl : l.stackTraces = false) {M : PM} {a1 : Int32} {r : PR} (h : F_X5_fittingFrom_93 M a1 = some r) : PW l 3 Y_X5_fittingFrom k_X5_fittingFrom [vR 93, vI a1, jk, jk, jk, jk, jk] [] M r := by
  unfold F_X5_fittingFrom_93 at h
  refine p_ldc2_w co_X5_49 ?_
  have h := lt_h h
  refine p_lstore_n (Nat.le_of_ble_eq_true rfl) rfl ?_
  refine p_iconst cn_0 ?_
  refine p_istore (Nat.le_of_ble_eq_true rfl) rfl ?_
  exact p_fg (S_X5_fittingFrom_93_7 hl FUEL h) ⟨Or.inr rfl, Or.inr rfl, Or.inr rfl, Or.inl rfl, Or.inr rfl, Or.inl rfl, Or.inl rfl, trivial⟩
set_option maxRecDepth 100000 in
theorem pc_X5_fittingFrom_93 {l : Launch} (hl : l.stackTraces = false) {M : PM} {a1 : Int32} {r : PR} (h : F_X5_fittingFrom_93 M a1 = some r) : PC l 3 Y_X5_fittingFrom [vR 93, vI a1] M r := pc_of hl (by decide +kernel) cok_X5_fittingFrom (Nat.le_of_ble_eq_true rfl) rfl (S_X5_fittingFrom_93 hl  h) rfl
def F_X10_nthLowest_5 : Nat → PM → Int32 → Int64 → Int32 → Option PR
  | 0, _, _, _, _ => none
  | n + 1, M, x2, x3, x5 => (if x2 ≤ x5 then cI (F_X10_lowest M x3) fun v636 M635 => some (.inl (some (.int v636)), M635) else lt (x3 &&& (x3 - (1 : Int64))) fun y637 => lt (x5 + 1) fun y638 => F_X10_nthLowest_5 n M x2 y637 y638)
def F_X10_nthLowest (M : PM) (a0 : Int64) (a1 : Int32) : Option PR := F_X10_nthLowest_5 FUEL M a1 a0 1
set_option maxRecDepth 100000 in
theorem S_X10_nthLowest_5 {l : Launch} (hl : l.stackTraces = false) : ∀ (n : Nat) {M : PM} {x2 : Int32} {x3 : Int64} {x5 : Int32} {r : PR}, F_X10_nthLowest_5  n M x2 x3 x5 = some r → PW l 2 Y_X10_nthLowest k_X10_nthLowest_5 [jk, jk, vI x2, vJ x3, jk, vI x5] [] M r := by
  intro n
  induction n with
  | zero => intro M x2 x3 x5 r h; exact nomatch (show (none : Option PR) = some r from h)
  | succ n ih =>
    intro M x2 x3 x5 r h
    rw [F_X10_nthLowest_5] at h
    refine p_iload rfl ?_
    refine p_iload_n rfl ?_
    refine p_icmp_ge h 15 rfl rfl (fun _ h => ?_) (fun _ h => ?_)
    · refine p_lload_n rfl ?_
      refine p_cI (av := [_]) ⟨mok_X10_lowest, Or.inr ⟨418, rfl, rfl, sta_X10_lowest, Or.inl lk_X10_418⟩⟩ (Nat.le_of_ble_eq_true rfl) (Nat.le_of_ble_eq_true rfl) rfl (fun _ h => pc_X10_lowest hl h) h (fun v636 M635 h => ?_)
      exact p_iret rfl h
    · refine p_lload_n rfl ?_
      refine p_lload_n rfl ?_
      refine p_lconst cl_1 ?_
      refine p_lsub ?_
      refine p_land ?_
      have h := lt_h h
      refine p_lstore_n (Nat.le_of_ble_eq_true rfl) rfl ?_
      have h := lt_h h
      refine p_iinc (Nat.le_of_ble_eq_true rfl) rfl (ci_1 _) rfl ?_
      refine p_goto 4 rfl rfl ?_
      exact p_fg (ih h) ⟨Or.inl rfl, Or.inl rfl, Or.inr rfl, Or.inr rfl, Or.inl rfl, Or.inr rfl, trivial⟩
set_option maxRecDepth 100000 in
theorem S_X10_nthLowest {l : Launch} (hl : l.stackTraces = false) {M : PM} {a0 : Int64} {a1 : Int32} {r : PR} (h : F_X10_nthLowest M a0 a1 = some r) : PW l 2 Y_X10_nthLowest k_X10_nthLowest [vJ a0, jk, vI a1, jk, jk, jk] [] M r := by
  unfold F_X10_nthLowest at h
  refine p_lload_n rfl ?_
  refine p_lstore_n (Nat.le_of_ble_eq_true rfl) rfl ?_
  refine p_iconst cn_1 ?_
  refine p_istore (Nat.le_of_ble_eq_true rfl) rfl ?_
  exact p_fg (S_X10_nthLowest_5 hl FUEL h) ⟨Or.inl rfl, Or.inl rfl, Or.inr rfl, Or.inr rfl, Or.inl rfl, Or.inr rfl, trivial⟩
set_option maxRecDepth 100000 in
theorem pc_X10_nthLowest {l : Launch} (hl : l.stackTraces = false) {M : PM} {a0 : Int64} {a1 : Int32} {r : PR} (h : F_X10_nthLowest M a0 a1 = some r) : PC l 2 Y_X10_nthLowest [vJ a0, vI a1] M r := pc_of hl (by decide +kernel) cok_X10_nthLowest (Nat.le_of_ble_eq_true rfl) rfl (S_X10_nthLowest hl  h) rfl
def F_X5_note_93_57 : Nat → PM → Int32 → Int64 → Int32 → Option PR
  | 0, _, _, _, _ => none
  | n + 1, M, x1, x2, x5 => (if mI M 4 4 ≤ x5 then some (.inl none, M) else (if 12 ≤ x5 then some (.inl none, M) else if ixOK x5 12 = true then cJ (F_X2_heldFrom_4 M x5 x1) fun v640 M639 => cI (F_J13_bitCount_95d88 M639 (x2 &&& v640)) fun v642 M641 => if ixOK x5 12 = true then lt (x5 + 1) fun y643 => F_X5_note_93_57 n (sA M641 94 x5.toNatClampNeg ((mA M 94 x5.toNatClampNeg) + v642)) x1 x2 y643 else none else none))
def F_X5_note_93_39 (M : PM) (x1 : Int32) (x2 : Int64) (x4 : Int32) (t1 : Int32) : Option PR := cI (F_X10_nthLowest (sI M 93 4 t1) x2 x4) fun v645 M644 => F_X5_note_93_57 FUEL (sI M644 93 5 (x1 + v645)) x1 x2 0
def F_X5_note_93 (M : PM) (a1 : Int32) (a2 : Int64) : Option PR := cI (F_J13_bitCount_95d88 M a2) fun v647 M646 => (if mI (sI M646 93 3 ((mI M646 93 3) + v647)) 93 4 = (-1) then cI (F_X10_lowest (sI M646 93 3 ((mI M646 93 3) + v647)) a2) fun v649 M648 => F_X5_note_93_39 M648 a1 a2 v647 (a1 + v649) else F_X5_note_93_39 (sI M646 93 3 ((mI M646 93 3) + v647)) a1 a2 v647 (mI (sI M646 93 3 ((mI M646 93 3) + v647)) 93 4))
set_option maxRecDepth 100000 in
theorem S_X5_note_93_57 {l : Launch} (hl : l.stackTraces = false) : ∀ (n : Nat) {M : PM} {x1 : Int32} {x2 : Int64} {x5 : Int32} {r : PR}, F_X5_note_93_57  n M x1 x2 x5 = some r → PW l 3 Y_X5_note k_X5_note_57 [vR 93, vI x1, vJ x2, jk, jk, vI x5] [] M r := by
  intro n
  induction n with
  | zero => intro M x1 x2 x5 r h; exact nomatch (show (none : Option PR) = some r from h)
  | succ n ih =>
    intro M x1 x2 x5 r h
    rw [F_X5_note_93_57] at h
    refine p_iload rfl ?_
    refine p_aload_n rfl ?_
    refine p_getR fk_X5_15 gt_93 rfl rfl ?_
    refine p_getR fk_X5_56 gt_3 rfl rfl ?_
    refine p_getI fk_X5_89 gt_4 rfl ?_
    refine p_icmp_ge h 60 rfl rfl (fun _ h => ?_) (fun _ h => ?_)
    · exact p_ret rfl h
    · refine p_iload rfl ?_
      refine p_aload_n rfl ?_
      refine p_getR fk_X5_9 gt_93 rfl rfl ?_
      refine p_alen gt_94 (by simp) al_12 ?_
      refine p_icmp_ge h 60 rfl rfl (fun _ h => ?_) (fun _ h => ?_)
      · exact p_ret rfl h
      · refine p_aload_n rfl ?_
        refine p_getR fk_X5_9 gt_93 rfl rfl ?_
        refine p_iload rfl ?_
        refine p_dup2 rfl rfl ?_
        refine p_iald gt_94 h (fun h => ?_)
        refine p_lload_n rfl ?_
        refine p_aload_n rfl ?_
        refine p_getR fk_X5_15 gt_93 rfl rfl ?_
        refine p_getR fk_X5_56 gt_3 rfl rfl ?_
        refine p_iload rfl ?_
        refine p_iload_n rfl ?_
        refine p_cJ (av := [_, _, _]) ⟨mok_X2_heldFrom, Or.inl ⟨66, 4, 2, 0, _, rfl, rfl, rfl, gt_4, rfl, ins_X2_heldFrom, Or.inr lk_X5_66⟩⟩ (Nat.le_of_ble_eq_true rfl) (Nat.le_of_ble_eq_true rfl) rfl (fun _ h => pc_X2_heldFrom_4 hl h) h (fun v640 M639 h => ?_)
        refine p_land ?_
        refine p_cI (av := [_]) ⟨mok_J13_bitCount_95d88, Or.inr ⟨76, rfl, rfl, sta_J13_bitCount_95d88, Or.inl lk_X5_76⟩⟩ (Nat.le_of_ble_eq_true rfl) (Nat.le_of_ble_eq_true rfl) rfl (fun _ h => pc_J13_bitCount_95d88 hl h) h (fun v642 M641 h => ?_)
        refine p_iadd ?_
        refine p_iast gt_94 h (fun h => ?_)
        have h := lt_h h
        refine p_iinc (Nat.le_of_ble_eq_true rfl) rfl (ci_1 _) rfl ?_
        refine p_goto 31 rfl rfl ?_
        exact p_fg (ih h) ⟨Or.inr rfl, Or.inr rfl, Or.inr rfl, Or.inl rfl, Or.inl rfl, Or.inr rfl, trivial⟩
set_option maxRecDepth 100000 in
theorem S_X5_note_93_39 {l : Launch} (hl : l.stackTraces = false) {M : PM} {x1 : Int32} {x2 : Int64} {x4 : Int32} {t1 : Int32} {r : PR} (h : F_X5_note_93_39  M x1 x2 x4 t1 = some r) : PW l 3 Y_X5_note k_X5_note_39 [vR 93, vI x1, vJ x2, jk, vI x4, jk] [vI t1, vR 93] M r := by
  unfold F_X5_note_93_39 at h
  refine p_putI fk_X5_27 gt_93 rfl ?_
  refine p_aload_n rfl ?_
  refine p_iload_n rfl ?_
  refine p_lload_n rfl ?_
  refine p_iload rfl ?_
  refine p_cI (av := [_, _]) ⟨mok_X10_nthLowest, Or.inr ⟨85, rfl, rfl, sta_X10_nthLowest, Or.inr lk_X5_85⟩⟩ (Nat.le_of_ble_eq_true rfl) (Nat.le_of_ble_eq_true rfl) rfl (fun _ h => pc_X10_nthLowest hl h) h (fun v645 M644 h => ?_)
  refine p_iadd ?_
  refine p_putI fk_X5_30 gt_93 rfl ?_
  refine p_iconst cn_0 ?_
  refine p_istore (Nat.le_of_ble_eq_true rfl) rfl ?_
  exact p_fg (S_X5_note_93_57 hl FUEL h) ⟨Or.inr rfl, Or.inr rfl, Or.inr rfl, Or.inl rfl, Or.inl rfl, Or.inr rfl, trivial⟩
set_option maxRecDepth 100000 in
theorem S_X5_note_93 {l : Launch} (hl : l.stackTraces = false) {M : PM} {a1 : Int32} {a2 : Int64} {r : PR} (h : F_X5_note_93 M a1 a2 = some r) : PW l 3 Y_X5_note k_X5_note [vR 93, vI a1, vJ a2, jk, jk, jk] [] M r := by
  unfold F_X5_note_93 at h
  refine p_lload_n rfl ?_
  refine p_cI (av := [_]) ⟨mok_J13_bitCount_95d88, Or.inr ⟨76, rfl, rfl, sta_J13_bitCount_95d88, Or.inl lk_X5_76⟩⟩ (Nat.le_of_ble_eq_true rfl) (Nat.le_of_ble_eq_true rfl) rfl (fun _ h => pc_J13_bitCount_95d88 hl h) h (fun v647 M646 h => ?_)
  refine p_istore (Nat.le_of_ble_eq_true rfl) rfl ?_
  refine p_aload_n rfl ?_
  refine p_dup rfl ?_
  refine p_getI fk_X5_23 gt_93 rfl ?_
  refine p_iload rfl ?_
  refine p_iadd ?_
  refine p_putI fk_X5_23 gt_93 rfl ?_
  refine p_aload_n rfl ?_
  refine p_aload_n rfl ?_
  refine p_getI fk_X5_27 gt_93 rfl ?_
  refine p_iconst cn_m1 ?_
  refine p_icmp_ne h 19 rfl rfl (fun _ h => ?_) (fun _ h => ?_)
  · refine p_iload_n rfl ?_
    refine p_lload_n rfl ?_
    refine p_cI (av := [_]) ⟨mok_X10_lowest, Or.inr ⟨82, rfl, rfl, sta_X10_lowest, Or.inr lk_X5_82⟩⟩ (Nat.le_of_ble_eq_true rfl) (Nat.le_of_ble_eq_true rfl) rfl (fun _ h => pc_X10_lowest hl h) h (fun v649 M648 h => ?_)
    refine p_iadd ?_
    refine p_goto 21 rfl rfl ?_
    exact p_fg (S_X5_note_93_39 hl h) ⟨Or.inr rfl, Or.inr rfl, Or.inr rfl, Or.inl rfl, Or.inr rfl, Or.inl rfl, trivial⟩
  · refine p_aload_n rfl ?_
    refine p_getI fk_X5_27 gt_93 rfl ?_
    exact p_fg (S_X5_note_93_39 hl h) ⟨Or.inr rfl, Or.inr rfl, Or.inr rfl, Or.inl rfl, Or.inr rfl, Or.inl rfl, trivial⟩
set_option maxRecDepth 100000 in
theorem pc_X5_note_93 {l : Launch} (hl : l.stackTraces = false) {M : PM} {a1 : Int32} {a2 : Int64} {r : PR} (h : F_X5_note_93 M a1 a2 = some r) : PC l 3 Y_X5_note [vR 93, vI a1, vJ a2] M r := pc_of hl (by decide +kernel) cok_X5_note (Nat.le_of_ble_eq_true rfl) rfl (S_X5_note_93 hl  h) rfl
def F_X5_survey_93_83 (k41 : PM → Int32 → Option PR) (M : PM) (x1 : Int32) : Option PR := lt (x1 + 64) fun y650 => k41 M y650
def F_X5_survey_93_41 : Nat → PM → Int32 → Option PR
  | 0, _, _ => none
  | n + 1, M, x1 => (if mI M 3 6 ≤ x1 then some (.inl none, M) else cJ (F_X5_fittingFrom_93 M x1) fun v652 M651 => cJ (F_X10_low M651 ((mI M651 3 6) - x1)) fun v654 M653 => lt (v652 &&& v654) fun y655 => (if lg_cmp y655 (0 : Int64) = 0 then F_X5_survey_93_83 (F_X5_survey_93_41 n) M653 x1 else cV (F_X5_note_93 M653 x1 y655) fun M656 => F_X5_survey_93_83 (F_X5_survey_93_41 n) M656 x1))
def F_X5_survey_93_17 : Nat → PM → Int32 → Option PR
  | 0, _, _ => none
  | n + 1, M, x1 => (if 12 ≤ x1 then F_X5_survey_93_41 FUEL M 0 else if ixOK x1 12 = true then lt (x1 + 1) fun y657 => F_X5_survey_93_17 n (sA M 94 x1.toNatClampNeg 0) y657 else none)
def F_X5_survey_93 (M : PM)  : Option PR := F_X5_survey_93_17 FUEL (sI (sI (sI M 93 3 0) 93 4 (-1)) 93 5 (-1)) 0
set_option maxRecDepth 100000 in
theorem S_X5_survey_93_83 {l : Launch} (hl : l.stackTraces = false) {k41 : PM → Int32 → Option PR} (hk41 : ∀ {M : PM} {x1 : Int32} {r : PR}, k41 M x1 = some r → PW l 4 Y_X5_survey k_X5_survey_41 [vR 93, vI x1, jk, jk] [] M r) {M : PM} {x1 : Int32} {r : PR} (h : F_X5_survey_93_83 k41 M x1 = some r) : PW l 4 Y_X5_survey k_X5_survey_83 [vR 93, vI x1, jk, jk] [] M r := by
  unfold F_X5_survey_93_83 at h
  have h := lt_h h
  refine p_iinc (Nat.le_of_ble_eq_true rfl) rfl (ci_64 _) rfl ?_
  refine p_goto 25 rfl rfl ?_
  exact p_fg (hk41 h) ⟨Or.inr rfl, Or.inr rfl, Or.inl rfl, Or.inl rfl, trivial⟩
set_option maxRecDepth 100000 in
theorem S_X5_survey_93_41 {l : Launch} (hl : l.stackTraces = false) : ∀ (n : Nat) {M : PM} {x1 : Int32} {r : PR}, F_X5_survey_93_41  n M x1 = some r → PW l 4 Y_X5_survey k_X5_survey_41 [vR 93, vI x1, jk, jk] [] M r := by
  intro n
  induction n with
  | zero => intro M x1 r h; exact nomatch (show (none : Option PR) = some r from h)
  | succ n ih =>
    intro M x1 r h
    rw [F_X5_survey_93_41] at h
    refine p_iload_n rfl ?_
    refine p_aload_n rfl ?_
    refine p_getR fk_X5_15 gt_93 rfl rfl ?_
    refine p_getI fk_X5_33 gt_3 rfl ?_
    refine p_icmp_ge h 51 rfl rfl (fun _ h => ?_) (fun _ h => ?_)
    · exact p_ret rfl h
    · refine p_aload_n rfl ?_
      refine p_iload_n rfl ?_
      refine p_cJ (av := [_, _]) ⟨mok_X5_fittingFrom, Or.inl ⟨38, 93, 5, 0, _, rfl, rfl, rfl, gt_93, rfl, ins_X5_fittingFrom, Or.inl lk_X5_38⟩⟩ (Nat.le_of_ble_eq_true rfl) (Nat.le_of_ble_eq_true rfl) rfl (fun _ h => pc_X5_fittingFrom_93 hl h) h (fun v652 M651 h => ?_)
      refine p_aload_n rfl ?_
      refine p_getR fk_X5_15 gt_93 rfl rfl ?_
      refine p_getI fk_X5_33 gt_3 rfl ?_
      refine p_iload_n rfl ?_
      refine p_isub ?_
      refine p_cJ (av := [_]) ⟨mok_X10_low, Or.inr ⟨42, rfl, rfl, sta_X10_low, Or.inr lk_X5_42⟩⟩ (Nat.le_of_ble_eq_true rfl) (Nat.le_of_ble_eq_true rfl) rfl (fun _ h => pc_X10_low hl h) h (fun v654 M653 h => ?_)
      refine p_land ?_
      have h := lt_h h
      refine p_lstore_n (Nat.le_of_ble_eq_true rfl) rfl ?_
      refine p_lload_n rfl ?_
      refine p_lconst cl_0 ?_
      refine p_lcmp ?_
      refine p_if_eq h 49 rfl rfl (fun _ h => ?_) (fun _ h => ?_)
      · exact p_fg (S_X5_survey_93_83 hl (fun h => ih h) h) ⟨Or.inr rfl, Or.inr rfl, Or.inl rfl, Or.inl rfl, trivial⟩
      · refine p_aload_n rfl ?_
        refine p_iload_n rfl ?_
        refine p_lload_n rfl ?_
        refine p_cV (av := [_, _, _]) ⟨mok_X5_note, Or.inl ⟨45, 93, 5, 0, _, rfl, rfl, rfl, gt_93, rfl, ins_X5_note, Or.inl lk_X5_45⟩⟩ (Nat.le_of_ble_eq_true rfl) (Nat.le_of_ble_eq_true rfl) rfl (fun _ h => pc_X5_note_93 hl h) h (fun M656 h => ?_)
        exact p_fg (S_X5_survey_93_83 hl (fun h => ih h) h) ⟨Or.inr rfl, Or.inr rfl, Or.inl rfl, Or.inl rfl, trivial⟩
set_option maxRecDepth 100000 in
theorem S_X5_survey_93_17 {l : Launch} (hl : l.stackTraces = false) : ∀ (n : Nat) {M : PM} {x1 : Int32} {r : PR}, F_X5_survey_93_17  n M x1 = some r → PW l 4 Y_X5_survey k_X5_survey_17 [vR 93, vI x1, jk, jk] [] M r := by
  intro n
  induction n with
  | zero => intro M x1 r h; exact nomatch (show (none : Option PR) = some r from h)
  | succ n ih =>
    intro M x1 r h
    rw [F_X5_survey_93_17] at h
    refine p_iload_n rfl ?_
    refine p_aload_n rfl ?_
    refine p_getR fk_X5_9 gt_93 rfl rfl ?_
    refine p_alen gt_94 (by simp) al_12 ?_
    refine p_icmp_ge h 23 rfl rfl (fun _ h => ?_) (fun _ h => ?_)
    · refine p_iconst cn_0 ?_
      refine p_istore_n (Nat.le_of_ble_eq_true rfl) rfl ?_
      exact p_fg (S_X5_survey_93_41 hl FUEL h) ⟨Or.inr rfl, Or.inr rfl, Or.inl rfl, Or.inl rfl, trivial⟩
    · refine p_aload_n rfl ?_
      refine p_getR fk_X5_9 gt_93 rfl rfl ?_
      refine p_iload_n rfl ?_
      refine p_iconst cn_0 ?_
      refine p_iast gt_94 h (fun h => ?_)
      have h := lt_h h
      refine p_iinc (Nat.le_of_ble_eq_true rfl) rfl (ci_1 _) rfl ?_
      refine p_goto 11 rfl rfl ?_
      exact p_fg (ih h) ⟨Or.inr rfl, Or.inr rfl, Or.inl rfl, Or.inl rfl, trivial⟩
set_option maxRecDepth 100000 in
theorem S_X5_survey_93 {l : Launch} (hl : l.stackTraces = false) {M : PM}  {r : PR} (h : F_X5_survey_93 M  = some r) : PW l 4 Y_X5_survey k_X5_survey [vR 93, jk, jk, jk] [] M r := by
  unfold F_X5_survey_93 at h
  refine p_aload_n rfl ?_
  refine p_iconst cn_0 ?_
  refine p_putI fk_X5_23 gt_93 rfl ?_
  refine p_aload_n rfl ?_
  refine p_iconst cn_m1 ?_
  refine p_putI fk_X5_27 gt_93 rfl ?_
  refine p_aload_n rfl ?_
  refine p_iconst cn_m1 ?_
  refine p_putI fk_X5_30 gt_93 rfl ?_
  refine p_iconst cn_0 ?_
  refine p_istore_n (Nat.le_of_ble_eq_true rfl) rfl ?_
  exact p_fg (S_X5_survey_93_17 hl FUEL h) ⟨Or.inr rfl, Or.inr rfl, Or.inl rfl, Or.inl rfl, trivial⟩
set_option maxRecDepth 100000 in
theorem pc_X5_survey_93 {l : Launch} (hl : l.stackTraces = false) {M : PM}  {r : PR} (h : F_X5_survey_93 M  = some r) : PC l 4 Y_X5_survey [vR 93] M r := pc_of hl (by decide +kernel) cok_X5_survey (Nat.le_of_ble_eq_true rfl) rfl (S_X5_survey_93 hl  h) rfl
def F_X10_fits_0_15 (M : PM) (x1 : Int32) (t1 : Int32) : Option PR := bV (F_X10_need_0 M t1) fun M658 => cV (F_X5_survey_93 M658) fun M659 => (if x1 = 0 then some (.inl (some (.int (mI M659 93 3))), M659) else if x1 = 1 then some (.inl (some (.int (mI M659 93 4))), M659) else some (.inl (some (.int (mI M659 93 5))), M659))
def F_X10_fits_0_14 (M : PM) (x1 : Int32) : Option PR := F_X10_fits_0_15 M x1 0
def F_X10_fits_0 (M : PM) (a1 : Int32) : Option PR := (if a1 < 0 then F_X10_fits_0_14 M a1 else (if 2 < a1 then F_X10_fits_0_14 M a1 else F_X10_fits_0_15 M a1 1))
set_option maxRecDepth 100000 in
theorem S_X10_fits_0_15 {l : Launch} (hl : l.stackTraces = false) {M : PM} {x1 : Int32} {t1 : Int32} {r : PR} (h : F_X10_fits_0_15  M x1 t1 = some r) : PW l 7 Y_X10_fits k_X10_fits_15 [vR 0, vI x1] [vI t1, vR 0] M r := by
  unfold F_X10_fits_0_15 at h
  refine p_bV mok_X10_need rfl gt_0 rfl ins_X10_need lk_X10_101 (Nat.le_of_ble_eq_true rfl) (Nat.le_of_ble_eq_true rfl) rfl (fun _ h => pc_X10_need_0 hl h) h (fun M658 h => ?_)
  refine p_aload_n rfl ?_
  refine p_getR fk_X10_79 gt_0 rfl rfl ?_
  refine p_cV (av := [_]) ⟨mok_X5_survey, Or.inl ⟨268, 93, 5, 0, _, rfl, rfl, rfl, gt_93, rfl, ins_X5_survey, Or.inr lk_X10_268⟩⟩ (Nat.le_of_ble_eq_true rfl) (Nat.le_of_ble_eq_true rfl) rfl (fun _ h => pc_X5_survey_93 hl h) h (fun M659 h => ?_)
  refine p_iload_n rfl ?_
  refine p_lsw2 h 15 rfl rfl 19 rfl rfl 23 rfl rfl (fun _ h => ?_) (fun _ h => ?_) (fun h => ?_)
  · refine p_aload_n rfl ?_
    refine p_getR fk_X10_79 gt_0 rfl rfl ?_
    refine p_getI fk_X10_271 gt_93 rfl ?_
    exact p_iret rfl h
  · refine p_aload_n rfl ?_
    refine p_getR fk_X10_79 gt_0 rfl rfl ?_
    refine p_getI fk_X10_274 gt_93 rfl ?_
    exact p_iret rfl h
  · refine p_aload_n rfl ?_
    refine p_getR fk_X10_79 gt_0 rfl rfl ?_
    refine p_getI fk_X10_277 gt_93 rfl ?_
    exact p_iret rfl h
set_option maxRecDepth 100000 in
theorem S_X10_fits_0_14 {l : Launch} (hl : l.stackTraces = false) {M : PM} {x1 : Int32} {r : PR} (h : F_X10_fits_0_14  M x1 = some r) : PW l 7 Y_X10_fits k_X10_fits_14 [vR 0, vI x1] [vR 0] M r := by
  unfold F_X10_fits_0_14 at h
  refine p_iconst cn_0 ?_
  exact p_fg (S_X10_fits_0_15 hl h) ⟨Or.inr rfl, Or.inr rfl, trivial⟩
set_option maxRecDepth 100000 in
theorem S_X10_fits_0 {l : Launch} (hl : l.stackTraces = false) {M : PM} {a1 : Int32} {r : PR} (h : F_X10_fits_0 M a1 = some r) : PW l 7 Y_X10_fits k_X10_fits [vR 0, vI a1] [] M r := by
  unfold F_X10_fits_0 at h
  refine p_aload_n rfl ?_
  refine p_iload_n rfl ?_
  refine p_if_lt h 8 rfl rfl (fun _ h => ?_) (fun _ h => ?_)
  · exact p_fg (S_X10_fits_0_14 hl h) ⟨Or.inr rfl, Or.inr rfl, trivial⟩
  · refine p_iload_n rfl ?_
    refine p_iconst cn_2 ?_
    refine p_icmp_gt h 8 rfl rfl (fun _ h => ?_) (fun _ h => ?_)
    · exact p_fg (S_X10_fits_0_14 hl h) ⟨Or.inr rfl, Or.inr rfl, trivial⟩
    · refine p_iconst cn_1 ?_
      refine p_goto 9 rfl rfl ?_
      exact p_fg (S_X10_fits_0_15 hl h) ⟨Or.inr rfl, Or.inr rfl, trivial⟩
set_option maxRecDepth 100000 in
theorem pc_X10_fits_0 {l : Launch} (hl : l.stackTraces = false) {M : PM} {a1 : Int32} {r : PR} (h : F_X10_fits_0 M a1 = some r) : PC l 7 Y_X10_fits [vR 0, vI a1] M r := pc_of hl (by decide +kernel) cok_X10_fits (Nat.le_of_ble_eq_true rfl) rfl (S_X10_fits_0 hl  h) rfl
def F_X5_leftAtWorst_93 (M : PM) (a1 : Int32) : Option PR := (if a1 < 0 then some (.inl (some (.int (mI M 93 3))), M) else (if a1 < 12 then if ixOK a1 12 = true then if ixOK a1 12 = true then cI (F_J9_max_7cf53 M (mA M 94 a1.toNatClampNeg) ((mI M 93 3) - (mA M 94 a1.toNatClampNeg))) fun v661 M660 => some (.inl (some (.int v661)), M660) else none else none else some (.inl (some (.int (mI M 93 3))), M)))
set_option maxRecDepth 100000 in
theorem S_X5_leftAtWorst_93 {l : Launch} (hl : l.stackTraces = false) {M : PM} {a1 : Int32} {r : PR} (h : F_X5_leftAtWorst_93 M a1 = some r) : PW l 1 Y_X5_leftAtWorst k_X5_leftAtWorst [vR 93, vI a1] [] M r := by
  unfold F_X5_leftAtWorst_93 at h
  refine p_iload_n rfl ?_
  refine p_if_lt h 7 rfl rfl (fun _ h => ?_) (fun _ h => ?_)
  · refine p_aload_n rfl ?_
    refine p_getI fk_X5_23 gt_93 rfl ?_
    refine p_goto 22 rfl rfl ?_
    exact p_iret rfl h
  · refine p_iload_n rfl ?_
    refine p_aload_n rfl ?_
    refine p_getR fk_X5_9 gt_93 rfl rfl ?_
    refine p_alen gt_94 (by simp) al_12 ?_
    refine p_icmp_lt h 10 rfl rfl (fun _ h => ?_) (fun _ h => ?_)
    · refine p_aload_n rfl ?_
      refine p_getR fk_X5_9 gt_93 rfl rfl ?_
      refine p_iload_n rfl ?_
      refine p_iald gt_94 h (fun h => ?_)
      refine p_aload_n rfl ?_
      refine p_getI fk_X5_23 gt_93 rfl ?_
      refine p_aload_n rfl ?_
      refine p_getR fk_X5_9 gt_93 rfl rfl ?_
      refine p_iload_n rfl ?_
      refine p_iald gt_94 h (fun h => ?_)
      refine p_isub ?_
      refine p_cI (av := [_, _]) ⟨mok_J9_max_7cf53, Or.inr ⟨92, rfl, rfl, sta_J9_max_7cf53, Or.inl lk_X5_92⟩⟩ (Nat.le_of_ble_eq_true rfl) (Nat.le_of_ble_eq_true rfl) rfl (fun _ h => pc_J9_max_7cf53 hl h) h (fun v661 M660 h => ?_)
      exact p_iret rfl h
    · refine p_aload_n rfl ?_
      refine p_getI fk_X5_23 gt_93 rfl ?_
      refine p_goto 22 rfl rfl ?_
      exact p_iret rfl h
set_option maxRecDepth 100000 in
theorem pc_X5_leftAtWorst_93 {l : Launch} (hl : l.stackTraces = false) {M : PM} {a1 : Int32} {r : PR} (h : F_X5_leftAtWorst_93 M a1 = some r) : PC l 1 Y_X5_leftAtWorst [vR 93, vI a1] M r := pc_of hl (by decide +kernel) cok_X5_leftAtWorst (Nat.le_of_ble_eq_true rfl) rfl (S_X5_leftAtWorst_93 hl  h) rfl
def F_X5_tellingLaw_93_38 (k4 : PM → Int32 → Int32 → Option PR) (M : PM) (x1 : Int32) (x2 : Int32) : Option PR := lt (x2 + 1) fun y662 => k4 M x1 y662
def F_X5_tellingLaw_93_36 (k4 : PM → Int32 → Int32 → Option PR) (M : PM) (x2 : Int32) : Option PR := F_X5_tellingLaw_93_38 k4 M x2 x2
def F_X5_tellingLaw_93_4 : Nat → PM → Int32 → Int32 → Option PR
  | 0, _, _, _ => none
  | n + 1, M, x1, x2 => (if mI M 4 4 ≤ x2 then some (.inl (some (.int x1)), M) else (if x1 = (-1) then F_X5_tellingLaw_93_36 (F_X5_tellingLaw_93_4 n) M x2 else cI (F_X5_leftAtWorst_93 M x2) fun v664 M663 => cI (F_X5_leftAtWorst_93 M663 x1) fun v666 M665 => (if v666 ≤ v664 then F_X5_tellingLaw_93_38 (F_X5_tellingLaw_93_4 n) M665 x1 x2 else F_X5_tellingLaw_93_36 (F_X5_tellingLaw_93_4 n) M665 x2)))
def F_X5_tellingLaw_93 (M : PM)  : Option PR := F_X5_tellingLaw_93_4 FUEL M (-1) 0
set_option maxRecDepth 100000 in
theorem S_X5_tellingLaw_93_38 {l : Launch} (hl : l.stackTraces = false) {k4 : PM → Int32 → Int32 → Option PR} (hk4 : ∀ {M : PM} {x1 : Int32} {x2 : Int32} {r : PR}, k4 M x1 x2 = some r → PW l 2 Y_X5_tellingLaw k_X5_tellingLaw_4 [vR 93, vI x1, vI x2] [] M r) {M : PM} {x1 : Int32} {x2 : Int32} {r : PR} (h : F_X5_tellingLaw_93_38 k4 M x1 x2 = some r) : PW l 2 Y_X5_tellingLaw k_X5_tellingLaw_38 [vR 93, vI x1, vI x2] [] M r := by
  unfold F_X5_tellingLaw_93_38 at h
  have h := lt_h h
  refine p_iinc (Nat.le_of_ble_eq_true rfl) rfl (ci_1 _) rfl ?_
  refine p_goto 4 rfl rfl ?_
  exact p_fg (hk4 h) ⟨Or.inr rfl, Or.inr rfl, Or.inr rfl, trivial⟩
set_option maxRecDepth 100000 in
theorem S_X5_tellingLaw_93_36 {l : Launch} (hl : l.stackTraces = false) {k4 : PM → Int32 → Int32 → Option PR} (hk4 : ∀ {M : PM} {x1 : Int32} {x2 : Int32} {r : PR}, k4 M x1 x2 = some r → PW l 2 Y_X5_tellingLaw k_X5_tellingLaw_4 [vR 93, vI x1, vI x2] [] M r) {M : PM} {x2 : Int32} {r : PR} (h : F_X5_tellingLaw_93_36 k4 M x2 = some r) : PW l 2 Y_X5_tellingLaw k_X5_tellingLaw_36 [vR 93, jk, vI x2] [] M r := by
  unfold F_X5_tellingLaw_93_36 at h
  refine p_iload_n rfl ?_
  refine p_istore_n (Nat.le_of_ble_eq_true rfl) rfl ?_
  exact p_fg (S_X5_tellingLaw_93_38 hl hk4 h) ⟨Or.inr rfl, Or.inr rfl, Or.inr rfl, trivial⟩
set_option maxRecDepth 100000 in
theorem S_X5_tellingLaw_93_4 {l : Launch} (hl : l.stackTraces = false) : ∀ (n : Nat) {M : PM} {x1 : Int32} {x2 : Int32} {r : PR}, F_X5_tellingLaw_93_4  n M x1 x2 = some r → PW l 2 Y_X5_tellingLaw k_X5_tellingLaw_4 [vR 93, vI x1, vI x2] [] M r := by
  intro n
  induction n with
  | zero => intro M x1 x2 r h; exact nomatch (show (none : Option PR) = some r from h)
  | succ n ih =>
    intro M x1 x2 r h
    rw [F_X5_tellingLaw_93_4] at h
    refine p_iload_n rfl ?_
    refine p_aload_n rfl ?_
    refine p_getR fk_X5_15 gt_93 rfl rfl ?_
    refine p_getR fk_X5_56 gt_3 rfl rfl ?_
    refine p_getI fk_X5_89 gt_4 rfl ?_
    refine p_icmp_ge h 24 rfl rfl (fun _ h => ?_) (fun _ h => ?_)
    · refine p_iload_n rfl ?_
      exact p_iret rfl h
    · refine p_iload_n rfl ?_
      refine p_iconst cn_m1 ?_
      refine p_icmp_eq h 20 rfl rfl (fun _ h => ?_) (fun _ h => ?_)
      · exact p_fg (S_X5_tellingLaw_93_36 hl (fun h => ih h) h) ⟨Or.inr rfl, Or.inl rfl, Or.inr rfl, trivial⟩
      · refine p_aload_n rfl ?_
        refine p_iload_n rfl ?_
        refine p_cI (av := [_, _]) ⟨mok_X5_leftAtWorst, Or.inl ⟨98, 93, 5, 0, _, rfl, rfl, rfl, gt_93, rfl, ins_X5_leftAtWorst, Or.inl lk_X5_98⟩⟩ (Nat.le_of_ble_eq_true rfl) (Nat.le_of_ble_eq_true rfl) rfl (fun _ h => pc_X5_leftAtWorst_93 hl h) h (fun v664 M663 h => ?_)
        refine p_aload_n rfl ?_
        refine p_iload_n rfl ?_
        refine p_cI (av := [_, _]) ⟨mok_X5_leftAtWorst, Or.inl ⟨98, 93, 5, 0, _, rfl, rfl, rfl, gt_93, rfl, ins_X5_leftAtWorst, Or.inl lk_X5_98⟩⟩ (Nat.le_of_ble_eq_true rfl) (Nat.le_of_ble_eq_true rfl) rfl (fun _ h => pc_X5_leftAtWorst_93 hl h) h (fun v666 M665 h => ?_)
        refine p_icmp_ge h 22 rfl rfl (fun _ h => ?_) (fun _ h => ?_)
        · exact p_fg (S_X5_tellingLaw_93_38 hl (fun h => ih h) h) ⟨Or.inr rfl, Or.inr rfl, Or.inr rfl, trivial⟩
        · exact p_fg (S_X5_tellingLaw_93_36 hl (fun h => ih h) h) ⟨Or.inr rfl, Or.inl rfl, Or.inr rfl, trivial⟩
set_option maxRecDepth 100000 in
theorem S_X5_tellingLaw_93 {l : Launch} (hl : l.stackTraces = false) {M : PM}  {r : PR} (h : F_X5_tellingLaw_93 M  = some r) : PW l 2 Y_X5_tellingLaw k_X5_tellingLaw [vR 93, jk, jk] [] M r := by
  unfold F_X5_tellingLaw_93 at h
  refine p_iconst cn_m1 ?_
  refine p_istore_n (Nat.le_of_ble_eq_true rfl) rfl ?_
  refine p_iconst cn_0 ?_
  refine p_istore_n (Nat.le_of_ble_eq_true rfl) rfl ?_
  exact p_fg (S_X5_tellingLaw_93_4 hl FUEL h) ⟨Or.inr rfl, Or.inr rfl, Or.inr rfl, trivial⟩
set_option maxRecDepth 100000 in
theorem pc_X5_tellingLaw_93 {l : Launch} (hl : l.stackTraces = false) {M : PM}  {r : PR} (h : F_X5_tellingLaw_93 M  = some r) : PC l 2 Y_X5_tellingLaw [vR 93] M r := pc_of hl (by decide +kernel) cok_X5_tellingLaw (Nat.le_of_ble_eq_true rfl) rfl (S_X5_tellingLaw_93 hl  h) rfl
def F_X10_look_0 (M : PM) (a1 : Int32) : Option PR := bV (F_X10_needEither_0 M a1) fun M667 => cV (F_X5_survey_93 M667) fun M668 => cI (F_X5_tellingLaw_93 M668) fun v670 M669 => (if a1 = 0 then some (.inl (some (.int v670)), M669) else cI (F_X5_leftAtWorst_93 M669 v670) fun v672 M671 => some (.inl (some (.int v672)), M671))
set_option maxRecDepth 100000 in
theorem S_X10_look_0 {l : Launch} (hl : l.stackTraces = false) {M : PM} {a1 : Int32} {r : PR} (h : F_X10_look_0 M a1 = some r) : PW l 8 Y_X10_look k_X10_look [vR 0, vI a1, jk] [] M r := by
  unfold F_X10_look_0 at h
  refine p_aload_n rfl ?_
  refine p_iload_n rfl ?_
  refine p_bV mok_X10_needEither rfl gt_0 rfl ins_X10_needEither lk_X10_158 (Nat.le_of_ble_eq_true rfl) (Nat.le_of_ble_eq_true rfl) rfl (fun _ h => pc_X10_needEither_0 hl h) h (fun M667 h => ?_)
  refine p_aload_n rfl ?_
  refine p_getR fk_X10_79 gt_0 rfl rfl ?_
  refine p_cV (av := [_]) ⟨mok_X5_survey, Or.inl ⟨268, 93, 5, 0, _, rfl, rfl, rfl, gt_93, rfl, ins_X5_survey, Or.inr lk_X10_268⟩⟩ (Nat.le_of_ble_eq_true rfl) (Nat.le_of_ble_eq_true rfl) rfl (fun _ h => pc_X5_survey_93 hl h) h (fun M668 h => ?_)
  refine p_aload_n rfl ?_
  refine p_getR fk_X10_79 gt_0 rfl rfl ?_
  refine p_cI (av := [_]) ⟨mok_X5_tellingLaw, Or.inl ⟨280, 93, 5, 0, _, rfl, rfl, rfl, gt_93, rfl, ins_X5_tellingLaw, Or.inr lk_X10_280⟩⟩ (Nat.le_of_ble_eq_true rfl) (Nat.le_of_ble_eq_true rfl) rfl (fun _ h => pc_X5_tellingLaw_93 hl h) h (fun v670 M669 h => ?_)
  refine p_istore_n (Nat.le_of_ble_eq_true rfl) rfl ?_
  refine p_iload_n rfl ?_
  refine p_if_ne h 14 rfl rfl (fun _ h => ?_) (fun _ h => ?_)
  · refine p_iload_n rfl ?_
    refine p_goto 18 rfl rfl ?_
    exact p_iret rfl h
  · refine p_aload_n rfl ?_
    refine p_getR fk_X10_79 gt_0 rfl rfl ?_
    refine p_iload_n rfl ?_
    refine p_cI (av := [_, _]) ⟨mok_X5_leftAtWorst, Or.inl ⟨283, 93, 5, 0, _, rfl, rfl, rfl, gt_93, rfl, ins_X5_leftAtWorst, Or.inr lk_X10_283⟩⟩ (Nat.le_of_ble_eq_true rfl) (Nat.le_of_ble_eq_true rfl) rfl (fun _ h => pc_X5_leftAtWorst_93 hl h) h (fun v672 M671 h => ?_)
    exact p_iret rfl h
set_option maxRecDepth 100000 in
theorem pc_X10_look_0 {l : Launch} (hl : l.stackTraces = false) {M : PM} {a1 : Int32} {r : PR} (h : F_X10_look_0 M a1 = some r) : PC l 8 Y_X10_look [vR 0, vI a1] M r := pc_of hl (by decide +kernel) cok_X10_look (Nat.le_of_ble_eq_true rfl) rfl (S_X10_look_0 hl  h) rfl
def F_X3_addDeed_16 (M : PM) (a1 : Int32) (a2 : Int32) (a3 : Int32) (a4 : Int32) : Option PR := (if mI M 16 9 < 20 then if ixOK (mI M 16 9) 20 = true then if ixOK (mI (sA M 21 (mI M 16 9).toNatClampNeg a1) 16 9) 20 = true then if ixOK (mI (sA (sA M 21 (mI M 16 9).toNatClampNeg a1) 22 (mI (sA M 21 (mI M 16 9).toNatClampNeg a1) 16 9).toNatClampNeg a2) 16 9) 20 = true then lt (sA (sA (sA M 21 (mI M 16 9).toNatClampNeg a1) 22 (mI (sA M 21 (mI M 16 9).toNatClampNeg a1) 16 9).toNatClampNeg a2) 23 (mI (sA (sA M 21 (mI M 16 9).toNatClampNeg a1) 22 (mI (sA M 21 (mI M 16 9).toNatClampNeg a1) 16 9).toNatClampNeg a2) 16 9).toNatClampNeg a3) fun M673 => if ixOK (mI M673 16 9) 20 = true then some (.inl (some (.int (mI (sI (sA M673 24 (mI M673 16 9).toNatClampNeg (a4 &&& 1)) 16 9 ((mI (sA M673 24 (mI M673 16 9).toNatClampNeg (a4 &&& 1)) 16 9) + 1)) 16 9))), sI (sA M673 24 (mI M673 16 9).toNatClampNeg (a4 &&& 1)) 16 9 ((mI (sA M673 24 (mI M673 16 9).toNatClampNeg (a4 &&& 1)) 16 9) + 1)) else none else none else none else none else some (.inl (some (.int (-1))), M))
set_option maxRecDepth 100000 in
theorem S_X3_addDeed_16 {l : Launch} (hl : l.stackTraces = false) {M : PM} {a1 : Int32} {a2 : Int32} {a3 : Int32} {a4 : Int32} {r : PR} (h : F_X3_addDeed_16 M a1 a2 a3 a4 = some r) : PW l 0 Y_X3_addDeed k_X3_addDeed [vR 16, vI a1, vI a2, vI a3, vI a4] [] M r := by
  unfold F_X3_addDeed_16 at h
  refine p_aload_n rfl ?_
  refine p_getI fk_X3_56 gt_16 rfl ?_
  refine p_bipush cb_20 ?_
  refine p_icmp_lt h 6 rfl rfl (fun _ h => ?_) (fun _ h => ?_)
  · refine p_aload_n rfl ?_
    refine p_getR fk_X3_25 gt_16 rfl rfl ?_
    refine p_aload_n rfl ?_
    refine p_getI fk_X3_56 gt_16 rfl ?_
    refine p_iload_n rfl ?_
    refine p_iast gt_21 h (fun h => ?_)
    refine p_aload_n rfl ?_
    refine p_getR fk_X3_28 gt_16 rfl rfl ?_
    refine p_aload_n rfl ?_
    refine p_getI fk_X3_56 gt_16 rfl ?_
    refine p_iload_n rfl ?_
    refine p_iast gt_22 h (fun h => ?_)
    refine p_aload_n rfl ?_
    refine p_getR fk_X3_31 gt_16 rfl rfl ?_
    refine p_aload_n rfl ?_
    refine p_getI fk_X3_56 gt_16 rfl ?_
    refine p_iload_n rfl ?_
    refine p_iast gt_23 h (fun h => ?_)
    have h := lt_h h
    refine p_aload_n rfl ?_
    refine p_getR fk_X3_34 gt_16 rfl rfl ?_
    refine p_aload_n rfl ?_
    refine p_getI fk_X3_56 gt_16 rfl ?_
    refine p_iload rfl ?_
    refine p_zast gt_24 h (fun h => ?_)
    refine p_aload_n rfl ?_
    refine p_dup rfl ?_
    refine p_getI fk_X3_56 gt_16 rfl ?_
    refine p_iconst cn_1 ?_
    refine p_iadd ?_
    refine p_putI fk_X3_56 gt_16 rfl ?_
    refine p_aload_n rfl ?_
    refine p_getI fk_X3_56 gt_16 rfl ?_
    exact p_iret rfl h
  · refine p_iconst cn_m1 ?_
    exact p_iret rfl h
set_option maxRecDepth 100000 in
theorem pc_X3_addDeed_16 {l : Launch} (hl : l.stackTraces = false) {M : PM} {a1 : Int32} {a2 : Int32} {a3 : Int32} {a4 : Int32} {r : PR} (h : F_X3_addDeed_16 M a1 a2 a3 a4 = some r) : PC l 0 Y_X3_addDeed [vR 16, vI a1, vI a2, vI a3, vI a4] M r := pc_of hl (by decide +kernel) cok_X3_addDeed (Nat.le_of_ble_eq_true rfl) rfl (S_X3_addDeed_16 hl  h) rfl
def F_X10_did_0 (M : PM) (a1 : Int32) (a2 : Int32) (a3 : Int32) (a4 : Int32) : Option PR := bV (F_X10_needDay_0 M a3) fun M674 => bV (F_X10_needHouse_0 M674 a1) fun M675 => bV (F_X10_needLaw_0 M675 a2) fun M676 => cI (F_X0_turnsOn_3 M676 a3) fun v678 M677 => cI (F_X3_addDeed_16 M677 a1 a2 v678 a4) fun v680 M679 => some (.inl (some (.int v680)), M679)
set_option maxRecDepth 100000 in
theorem S_X10_did_0 {l : Launch} (hl : l.stackTraces = false) {M : PM} {a1 : Int32} {a2 : Int32} {a3 : Int32} {a4 : Int32} {r : PR} (h : F_X10_did_0 M a1 a2 a3 a4 = some r) : PW l 8 Y_X10_did k_X10_did [vR 0, vI a1, vI a2, vI a3, vI a4] [] M r := by
  unfold F_X10_did_0 at h
  refine p_aload_n rfl ?_
  refine p_iload_n rfl ?_
  refine p_bV mok_X10_needDay rfl gt_0 rfl ins_X10_needDay lk_X10_182 (Nat.le_of_ble_eq_true rfl) (Nat.le_of_ble_eq_true rfl) rfl (fun _ h => pc_X10_needDay_0 hl h) h (fun M674 h => ?_)
  refine p_aload_n rfl ?_
  refine p_iload_n rfl ?_
  refine p_bV mok_X10_needHouse rfl gt_0 rfl ins_X10_needHouse lk_X10_168 (Nat.le_of_ble_eq_true rfl) (Nat.le_of_ble_eq_true rfl) rfl (fun _ h => pc_X10_needHouse_0 hl h) h (fun M675 h => ?_)
  refine p_aload_n rfl ?_
  refine p_iload_n rfl ?_
  refine p_bV mok_X10_needLaw rfl gt_0 rfl ins_X10_needLaw lk_X10_155 (Nat.le_of_ble_eq_true rfl) (Nat.le_of_ble_eq_true rfl) rfl (fun _ h => pc_X10_needLaw_0 hl h) h (fun M676 h => ?_)
  refine p_aload_n rfl ?_
  refine p_getR fk_X10_34 gt_0 rfl rfl ?_
  refine p_iload_n rfl ?_
  refine p_iload_n rfl ?_
  refine p_aload_n rfl ?_
  refine p_getR fk_X10_27 gt_0 rfl rfl ?_
  refine p_iload_n rfl ?_
  refine p_cI (av := [_, _]) ⟨mok_X0_turnsOn, Or.inl ⟨185, 3, 0, 0, _, rfl, rfl, rfl, gt_3, rfl, ins_X0_turnsOn, Or.inr lk_X10_185⟩⟩ (Nat.le_of_ble_eq_true rfl) (Nat.le_of_ble_eq_true rfl) rfl (fun _ h => pc_X0_turnsOn_3 hl h) h (fun v678 M677 h => ?_)
  refine p_iload rfl ?_
  refine p_cI (av := [_, _, _, _, _]) ⟨mok_X3_addDeed, Or.inl ⟨286, 16, 3, 0, _, rfl, rfl, rfl, gt_16, rfl, ins_X3_addDeed, Or.inr lk_X10_286⟩⟩ (Nat.le_of_ble_eq_true rfl) (Nat.le_of_ble_eq_true rfl) rfl (fun _ h => pc_X3_addDeed_16 hl h) h (fun v680 M679 h => ?_)
  exact p_iret rfl h
set_option maxRecDepth 100000 in
theorem pc_X10_did_0 {l : Launch} (hl : l.stackTraces = false) {M : PM} {a1 : Int32} {a2 : Int32} {a3 : Int32} {a4 : Int32} {r : PR} (h : F_X10_did_0 M a1 a2 a3 a4 = some r) : PC l 8 Y_X10_did [vR 0, vI a1, vI a2, vI a3, vI a4] M r := pc_of hl (by decide +kernel) cok_X10_did (Nat.le_of_ble_eq_true rfl) rfl (S_X10_did_0 hl  h) rfl
def F_X10_explains_0_103 (k3 : PM → Int32 → Int32 → Int32 → Int32 → Option PR) (M : PM) (x1 : Int32) (x2 : Int32) (x3 : Int32) (x4 : Int32) : Option PR := lt (x4 + 1) fun y681 => k3 M x1 x2 x3 y681
def F_X10_explains_0_61 (k3 : PM → Int32 → Int32 → Int32 → Int32 → Option PR) (M : PM) (x1 : Int32) (x2 : Int32) (x3 : Int32) (x4 : Int32) (x5 : Int32) (t0 : Int32) : Option PR := if ixOK x4 20 = true then cI (F_X2_isHeld_4 M x5 ((mA M 23 x4.toNatClampNeg) + t0)) fun v683 M682 => if ixOK x4 20 = true then (if v683 = mA M682 24 x4.toNatClampNeg then F_X10_explains_0_103 k3 M682 x1 x2 x3 x4 else (if (0 : Int32) &&& 1 = 0 then some (.inl (some (.int 0)), M682) else none)) else none else none
def F_X10_explains_0_3 : Nat → PM → Int32 → Int32 → Int32 → Int32 → Option PR
  | 0, _, _, _, _, _ => none
  | n + 1, M, x1, x2, x3, x4 => (if mI M 16 9 ≤ x4 then (if (1 : Int32) &&& 1 = 1 then some (.inl (some (.int 1)), M) else none) else if ixOK x4 20 = true then (if mA M 21 x4.toNatClampNeg = x1 then if ixOK x4 20 = true then lt (mA M 22 x4.toNatClampNeg) fun y684 => (if y684 = x2 then F_X10_explains_0_61 (F_X10_explains_0_3 n) M x1 x2 x3 x4 y684 x3 else cI (F_X3_aheadOf_16 M x1 y684) fun v686 M685 => F_X10_explains_0_61 (F_X10_explains_0_3 n) M685 x1 x2 x3 x4 y684 v686) else none else F_X10_explains_0_103 (F_X10_explains_0_3 n) M x1 x2 x3 x4) else none)
def F_X10_explains_0 (M : PM) (a1 : Int32) (a2 : Int32) (a3 : Int32) : Option PR := F_X10_explains_0_3 FUEL M a1 a2 a3 0
set_option maxRecDepth 100000 in
theorem S_X10_explains_0_103 {l : Launch} (hl : l.stackTraces = false) {k3 : PM → Int32 → Int32 → Int32 → Int32 → Option PR} (hk3 : ∀ {M : PM} {x1 : Int32} {x2 : Int32} {x3 : Int32} {x4 : Int32} {r : PR}, k3 M x1 x2 x3 x4 = some r → PW l 2 Y_X10_explains k_X10_explains_3 [vR 0, vI x1, vI x2, vI x3, vI x4, jk, jk] [] M r) {M : PM} {x1 : Int32} {x2 : Int32} {x3 : Int32} {x4 : Int32} {r : PR} (h : F_X10_explains_0_103 k3 M x1 x2 x3 x4 = some r) : PW l 2 Y_X10_explains k_X10_explains_103 [vR 0, vI x1, vI x2, vI x3, vI x4, jk, jk] [] M r := by
  unfold F_X10_explains_0_103 at h
  have h := lt_h h
  refine p_iinc (Nat.le_of_ble_eq_true rfl) rfl (ci_1 _) rfl ?_
  refine p_goto 2 rfl rfl ?_
  exact p_fg (hk3 h) ⟨Or.inr rfl, Or.inr rfl, Or.inr rfl, Or.inr rfl, Or.inr rfl, Or.inl rfl, Or.inl rfl, trivial⟩
set_option maxRecDepth 100000 in
theorem S_X10_explains_0_61 {l : Launch} (hl : l.stackTraces = false) {k3 : PM → Int32 → Int32 → Int32 → Int32 → Option PR} (hk3 : ∀ {M : PM} {x1 : Int32} {x2 : Int32} {x3 : Int32} {x4 : Int32} {r : PR}, k3 M x1 x2 x3 x4 = some r → PW l 2 Y_X10_explains k_X10_explains_3 [vR 0, vI x1, vI x2, vI x3, vI x4, jk, jk] [] M r) {M : PM} {x1 : Int32} {x2 : Int32} {x3 : Int32} {x4 : Int32} {x5 : Int32} {t0 : Int32} {r : PR} (h : F_X10_explains_0_61 k3 M x1 x2 x3 x4 x5 t0 = some r) : PW l 2 Y_X10_explains k_X10_explains_61 [vR 0, vI x1, vI x2, vI x3, vI x4, vI x5, jk] [vI t0] M r := by
  unfold F_X10_explains_0_61 at h
  refine p_istore (Nat.le_of_ble_eq_true rfl) rfl ?_
  refine p_aload_n rfl ?_
  refine p_getR fk_X10_27 gt_0 rfl rfl ?_
  refine p_getR fk_X10_128 gt_3 rfl rfl ?_
  refine p_iload rfl ?_
  refine p_aload_n rfl ?_
  refine p_getR fk_X10_34 gt_0 rfl rfl ?_
  refine p_getR fk_X10_398 gt_16 rfl rfl ?_
  refine p_iload rfl ?_
  refine p_iald gt_23 h (fun h => ?_)
  refine p_iload rfl ?_
  refine p_iadd ?_
  refine p_cI (av := [_, _, _]) ⟨mok_X2_isHeld, Or.inl ⟨388, 4, 2, 0, _, rfl, rfl, rfl, gt_4, rfl, ins_X2_isHeld, Or.inr lk_X10_388⟩⟩ (Nat.le_of_ble_eq_true rfl) (Nat.le_of_ble_eq_true rfl) rfl (fun _ h => pc_X2_isHeld_4 hl h) h (fun v683 M682 h => ?_)
  refine p_aload_n rfl ?_
  refine p_getR fk_X10_34 gt_0 rfl rfl ?_
  refine p_getR fk_X10_401 gt_16 rfl rfl ?_
  refine p_iload rfl ?_
  refine p_zald gt_24 h (fun h => ?_)
  refine p_icmp_eq h 51 rfl rfl (fun _ h => ?_) (fun _ h => ?_)
  · exact p_fg (S_X10_explains_0_103 hl hk3 h) ⟨Or.inr rfl, Or.inr rfl, Or.inr rfl, Or.inr rfl, Or.inr rfl, Or.inl rfl, Or.inl rfl, trivial⟩
  · refine p_iconst cn_0 ?_
    exact p_zret rfl h
set_option maxRecDepth 100000 in
theorem S_X10_explains_0_3 {l : Launch} (hl : l.stackTraces = false) : ∀ (n : Nat) {M : PM} {x1 : Int32} {x2 : Int32} {x3 : Int32} {x4 : Int32} {r : PR}, F_X10_explains_0_3  n M x1 x2 x3 x4 = some r → PW l 2 Y_X10_explains k_X10_explains_3 [vR 0, vI x1, vI x2, vI x3, vI x4, jk, jk] [] M r := by
  intro n
  induction n with
  | zero => intro M x1 x2 x3 x4 r h; exact nomatch (show (none : Option PR) = some r from h)
  | succ n ih =>
    intro M x1 x2 x3 x4 r h
    rw [F_X10_explains_0_3] at h
    refine p_iload rfl ?_
    refine p_aload_n rfl ?_
    refine p_getR fk_X10_34 gt_0 rfl rfl ?_
    refine p_getI fk_X10_304 gt_16 rfl ?_
    refine p_icmp_ge h 53 rfl rfl (fun _ h => ?_) (fun _ h => ?_)
    · refine p_iconst cn_1 ?_
      exact p_zret rfl h
    · refine p_aload_n rfl ?_
      refine p_getR fk_X10_34 gt_0 rfl rfl ?_
      refine p_getR fk_X10_391 gt_16 rfl rfl ?_
      refine p_iload rfl ?_
      refine p_iald gt_21 h (fun h => ?_)
      refine p_iload_n rfl ?_
      refine p_icmp_ne h 51 rfl rfl (fun _ h => ?_) (fun _ h => ?_)
      · refine p_aload_n rfl ?_
        refine p_getR fk_X10_34 gt_0 rfl rfl ?_
        refine p_getR fk_X10_395 gt_16 rfl rfl ?_
        refine p_iload rfl ?_
        refine p_iald gt_22 h (fun h => ?_)
        have h := lt_h h
        refine p_istore (Nat.le_of_ble_eq_true rfl) rfl ?_
        refine p_iload rfl ?_
        refine p_iload_n rfl ?_
        refine p_icmp_ne h 25 rfl rfl (fun _ h => ?_) (fun _ h => ?_)
        · refine p_iload_n rfl ?_
          refine p_goto 30 rfl rfl ?_
          exact p_fg (S_X10_explains_0_61 hl (fun h => ih h) h) ⟨Or.inr rfl, Or.inr rfl, Or.inr rfl, Or.inr rfl, Or.inr rfl, Or.inr rfl, Or.inl rfl, trivial⟩
        · refine p_aload_n rfl ?_
          refine p_getR fk_X10_34 gt_0 rfl rfl ?_
          refine p_iload_n rfl ?_
          refine p_iload rfl ?_
          refine p_cI (av := [_, _, _]) ⟨mok_X3_aheadOf, Or.inl ⟨171, 16, 3, 0, _, rfl, rfl, rfl, gt_16, rfl, ins_X3_aheadOf, Or.inr lk_X10_171⟩⟩ (Nat.le_of_ble_eq_true rfl) (Nat.le_of_ble_eq_true rfl) rfl (fun _ h => pc_X3_aheadOf_16 hl h) h (fun v686 M685 h => ?_)
          exact p_fg (S_X10_explains_0_61 hl (fun h => ih h) h) ⟨Or.inr rfl, Or.inr rfl, Or.inr rfl, Or.inr rfl, Or.inr rfl, Or.inr rfl, Or.inl rfl, trivial⟩
      · exact p_fg (S_X10_explains_0_103 hl (fun h => ih h) h) ⟨Or.inr rfl, Or.inr rfl, Or.inr rfl, Or.inr rfl, Or.inr rfl, Or.inl rfl, Or.inl rfl, trivial⟩
set_option maxRecDepth 100000 in
theorem S_X10_explains_0 {l : Launch} (hl : l.stackTraces = false) {M : PM} {a1 : Int32} {a2 : Int32} {a3 : Int32} {r : PR} (h : F_X10_explains_0 M a1 a2 a3 = some r) : PW l 2 Y_X10_explains k_X10_explains [vR 0, vI a1, vI a2, vI a3, jk, jk, jk] [] M r := by
  unfold F_X10_explains_0 at h
  refine p_iconst cn_0 ?_
  refine p_istore (Nat.le_of_ble_eq_true rfl) rfl ?_
  exact p_fg (S_X10_explains_0_3 hl FUEL h) ⟨Or.inr rfl, Or.inr rfl, Or.inr rfl, Or.inr rfl, Or.inr rfl, Or.inl rfl, Or.inl rfl, trivial⟩
set_option maxRecDepth 100000 in
theorem pc_X10_explains_0 {l : Launch} (hl : l.stackTraces = false) {M : PM} {a1 : Int32} {a2 : Int32} {a3 : Int32} {r : PR} (h : F_X10_explains_0 M a1 a2 a3 = some r) : PC l 2 Y_X10_explains [vR 0, vI a1, vI a2, vI a3] M r := pc_of hl (by decide +kernel) cok_X10_explains (Nat.le_of_ble_eq_true rfl) rfl (S_X10_explains_0 hl  h) rfl
def F_X10_slipped_0_158 (k37 : PM → Int32 → Int32 → Int32 → Int32 → Int32 → Int32 → Int32 → Option PR) (k69 : PM → Int32 → Int32 → Int32 → Int32 → Int32 → Int32 → Int32 → Int32 → Int32 → Option PR) (M : PM) (x1 : Int32) (x2 : Int32) (x3 : Int32) (x4 : Int32) (x5 : Int32) (x6 : Int32) (x7 : Int32) (x8 : Int32) (x9 : Int32) : Option PR := lt (x9 + 1) fun y687 => k69 M x1 x2 x3 x4 x5 x6 x7 x8 y687
def F_X10_slipped_0_147 (k37 : PM → Int32 → Int32 → Int32 → Int32 → Int32 → Int32 → Int32 → Option PR) (k69 : PM → Int32 → Int32 → Int32 → Int32 → Int32 → Int32 → Int32 → Int32 → Int32 → Option PR) (M : PM) (x1 : Int32) (x2 : Int32) (x3 : Int32) (x4 : Int32) (x6 : Int32) (x7 : Int32) (x8 : Int32) (x9 : Int32) (x10 : Int32) (t0 : Int32) : Option PR := cI (F_J9_max_7cf53 M x6 x10) fun v689 M688 => F_X10_slipped_0_158 k37 k69 M688 x1 x2 x3 x4 t0 v689 x7 x8 x9
def F_X10_slipped_0_110 (k37 : PM → Int32 → Int32 → Int32 → Int32 → Int32 → Int32 → Int32 → Option PR) (k69 : PM → Int32 → Int32 → Int32 → Int32 → Int32 → Int32 → Int32 → Int32 → Int32 → Option PR) (M : PM) (x1 : Int32) (x2 : Int32) (x3 : Int32) (x5 : Int32) (x6 : Int32) (x7 : Int32) (x8 : Int32) (x9 : Int32) (t0 : Int32) : Option PR := cI (F_J9_min_7cf53 M x9 (x8 - x9)) fun v691 M690 => lt (24 - v691) fun y692 => (if y692 ≤ x6 then F_X10_slipped_0_147 k37 k69 M690 x1 x2 x3 t0 x6 x7 x8 x9 y692 x5 else F_X10_slipped_0_147 k37 k69 M690 x1 x2 x3 t0 x6 x7 x8 x9 y692 ((100 * x7) + x9))
def F_X10_slipped_0_69 (k37 : PM → Int32 → Int32 → Int32 → Int32 → Int32 → Int32 → Int32 → Option PR) : Nat → PM → Int32 → Int32 → Int32 → Int32 → Int32 → Int32 → Int32 → Int32 → Int32 → Option PR
  | 0, _, _, _, _, _, _, _, _, _, _ => none
  | n + 1, M, x1, x2, x3, x4, x5, x6, x7, x8, x9 => (if x8 ≤ x9 then lt (x7 + 1) fun y693 => k37 M x1 x2 x3 x4 x5 x6 y693 else cI (F_X10_explains_0 M x1 x7 x9) fun v695 M694 => (if v695 = 0 then F_X10_slipped_0_158 k37 (F_X10_slipped_0_69 k37 n) M694 x1 x2 x3 x4 x5 x6 x7 x8 x9 else lt (x3 + 1) fun y696 => (if x4 = (-1) then F_X10_slipped_0_110 k37 (F_X10_slipped_0_69 k37 n) M694 x1 x2 y696 x5 x6 x7 x8 x9 ((100 * x7) + x9) else F_X10_slipped_0_110 k37 (F_X10_slipped_0_69 k37 n) M694 x1 x2 y696 x5 x6 x7 x8 x9 x4)))
def F_X10_slipped_0_37 : Nat → PM → Int32 → Int32 → Int32 → Int32 → Int32 → Int32 → Int32 → Option PR
  | 0, _, _, _, _, _, _, _, _ => none
  | n + 1, M, x1, x2, x3, x4, x5, x6, x7 => (if mI M 4 4 ≤ x7 then (if x2 = 0 then some (.inl (some (.int x3)), M) else (if x2 = 1 then some (.inl (some (.int x4)), M) else some (.inl (some (.int x5)), M))) else cI (F_X2_weekOf_4 M x7) fun v698 M697 => F_X10_slipped_0_69 (F_X10_slipped_0_37 n) FUEL M697 x1 x2 x3 x4 x5 x6 x7 v698 0)
def F_X10_slipped_0_20 (M : PM) (x1 : Int32) (x2 : Int32) (t1 : Int32) : Option PR := bV (F_X10_need_0 M t1) fun M699 => F_X10_slipped_0_37 FUEL M699 x1 x2 0 (-1) (-1) 0 0
def F_X10_slipped_0_19 (M : PM) (x1 : Int32) (x2 : Int32) : Option PR := F_X10_slipped_0_20 M x1 x2 0
def F_X10_slipped_0 (M : PM) (a1 : Int32) (a2 : Int32) : Option PR := bV (F_X10_needHouse_0 M a1) fun M700 => (if a2 < 0 then F_X10_slipped_0_19 M700 a1 a2 else (if 2 < a2 then F_X10_slipped_0_19 M700 a1 a2 else F_X10_slipped_0_20 M700 a1 a2 1))
set_option maxRecDepth 100000 in
theorem S_X10_slipped_0_158 {l : Launch} (hl : l.stackTraces = false) {k37 : PM → Int32 → Int32 → Int32 → Int32 → Int32 → Int32 → Int32 → Option PR} {k69 : PM → Int32 → Int32 → Int32 → Int32 → Int32 → Int32 → Int32 → Int32 → Int32 → Option PR} (hk37 : ∀ {M : PM} {x1 : Int32} {x2 : Int32} {x3 : Int32} {x4 : Int32} {x5 : Int32} {x6 : Int32} {x7 : Int32} {r : PR}, k37 M x1 x2 x3 x4 x5 x6 x7 = some r → PW l 8 Y_X10_slipped k_X10_slipped_37 [vR 0, vI x1, vI x2, vI x3, vI x4, vI x5, vI x6, vI x7, jk, jk, jk] [] M r) (hk69 : ∀ {M : PM} {x1 : Int32} {x2 : Int32} {x3 : Int32} {x4 : Int32} {x5 : Int32} {x6 : Int32} {x7 : Int32} {x8 : Int32} {x9 : Int32} {r : PR}, k69 M x1 x2 x3 x4 x5 x6 x7 x8 x9 = some r → PW l 8 Y_X10_slipped k_X10_slipped_69 [vR 0, vI x1, vI x2, vI x3, vI x4, vI x5, vI x6, vI x7, vI x8, vI x9, jk] [] M r) {M : PM} {x1 : Int32} {x2 : Int32} {x3 : Int32} {x4 : Int32} {x5 : Int32} {x6 : Int32} {x7 : Int32} {x8 : Int32} {x9 : Int32} {r : PR} (h : F_X10_slipped_0_158 k37 k69 M x1 x2 x3 x4 x5 x6 x7 x8 x9 = some r) : PW l 8 Y_X10_slipped k_X10_slipped_158 [vR 0, vI x1, vI x2, vI x3, vI x4, vI x5, vI x6, vI x7, vI x8, vI x9, jk] [] M r := by
  unfold F_X10_slipped_0_158 at h
  have h := lt_h h
  refine p_iinc (Nat.le_of_ble_eq_true rfl) rfl (ci_1 _) rfl ?_
  refine p_goto 37 rfl rfl ?_
  exact p_fg (hk69 h) ⟨Or.inr rfl, Or.inr rfl, Or.inr rfl, Or.inr rfl, Or.inr rfl, Or.inr rfl, Or.inr rfl, Or.inr rfl, Or.inr rfl, Or.inr rfl, Or.inl rfl, trivial⟩
set_option maxRecDepth 100000 in
theorem S_X10_slipped_0_147 {l : Launch} (hl : l.stackTraces = false) {k37 : PM → Int32 → Int32 → Int32 → Int32 → Int32 → Int32 → Int32 → Option PR} {k69 : PM → Int32 → Int32 → Int32 → Int32 → Int32 → Int32 → Int32 → Int32 → Int32 → Option PR} (hk37 : ∀ {M : PM} {x1 : Int32} {x2 : Int32} {x3 : Int32} {x4 : Int32} {x5 : Int32} {x6 : Int32} {x7 : Int32} {r : PR}, k37 M x1 x2 x3 x4 x5 x6 x7 = some r → PW l 8 Y_X10_slipped k_X10_slipped_37 [vR 0, vI x1, vI x2, vI x3, vI x4, vI x5, vI x6, vI x7, jk, jk, jk] [] M r) (hk69 : ∀ {M : PM} {x1 : Int32} {x2 : Int32} {x3 : Int32} {x4 : Int32} {x5 : Int32} {x6 : Int32} {x7 : Int32} {x8 : Int32} {x9 : Int32} {r : PR}, k69 M x1 x2 x3 x4 x5 x6 x7 x8 x9 = some r → PW l 8 Y_X10_slipped k_X10_slipped_69 [vR 0, vI x1, vI x2, vI x3, vI x4, vI x5, vI x6, vI x7, vI x8, vI x9, jk] [] M r) {M : PM} {x1 : Int32} {x2 : Int32} {x3 : Int32} {x4 : Int32} {x6 : Int32} {x7 : Int32} {x8 : Int32} {x9 : Int32} {x10 : Int32} {t0 : Int32} {r : PR} (h : F_X10_slipped_0_147 k37 k69 M x1 x2 x3 x4 x6 x7 x8 x9 x10 t0 = some r) : PW l 8 Y_X10_slipped k_X10_slipped_147 [vR 0, vI x1, vI x2, vI x3, vI x4, jk, vI x6, vI x7, vI x8, vI x9, vI x10] [vI t0] M r := by
  unfold F_X10_slipped_0_147 at h
  refine p_istore (Nat.le_of_ble_eq_true rfl) rfl ?_
  refine p_iload rfl ?_
  refine p_iload rfl ?_
  refine p_cI (av := [_, _]) ⟨mok_J9_max_7cf53, Or.inr ⟨298, rfl, rfl, sta_J9_max_7cf53, Or.inl lk_X10_298⟩⟩ (Nat.le_of_ble_eq_true rfl) (Nat.le_of_ble_eq_true rfl) rfl (fun _ h => pc_J9_max_7cf53 hl h) h (fun v689 M688 h => ?_)
  refine p_istore (Nat.le_of_ble_eq_true rfl) rfl ?_
  exact p_fg (S_X10_slipped_0_158 hl hk37 hk69 h) ⟨Or.inr rfl, Or.inr rfl, Or.inr rfl, Or.inr rfl, Or.inr rfl, Or.inr rfl, Or.inr rfl, Or.inr rfl, Or.inr rfl, Or.inr rfl, Or.inl rfl, trivial⟩
set_option maxRecDepth 100000 in
theorem S_X10_slipped_0_110 {l : Launch} (hl : l.stackTraces = false) {k37 : PM → Int32 → Int32 → Int32 → Int32 → Int32 → Int32 → Int32 → Option PR} {k69 : PM → Int32 → Int32 → Int32 → Int32 → Int32 → Int32 → Int32 → Int32 → Int32 → Option PR} (hk37 : ∀ {M : PM} {x1 : Int32} {x2 : Int32} {x3 : Int32} {x4 : Int32} {x5 : Int32} {x6 : Int32} {x7 : Int32} {r : PR}, k37 M x1 x2 x3 x4 x5 x6 x7 = some r → PW l 8 Y_X10_slipped k_X10_slipped_37 [vR 0, vI x1, vI x2, vI x3, vI x4, vI x5, vI x6, vI x7, jk, jk, jk] [] M r) (hk69 : ∀ {M : PM} {x1 : Int32} {x2 : Int32} {x3 : Int32} {x4 : Int32} {x5 : Int32} {x6 : Int32} {x7 : Int32} {x8 : Int32} {x9 : Int32} {r : PR}, k69 M x1 x2 x3 x4 x5 x6 x7 x8 x9 = some r → PW l 8 Y_X10_slipped k_X10_slipped_69 [vR 0, vI x1, vI x2, vI x3, vI x4, vI x5, vI x6, vI x7, vI x8, vI x9, jk] [] M r) {M : PM} {x1 : Int32} {x2 : Int32} {x3 : Int32} {x5 : Int32} {x6 : Int32} {x7 : Int32} {x8 : Int32} {x9 : Int32} {t0 : Int32} {r : PR} (h : F_X10_slipped_0_110 k37 k69 M x1 x2 x3 x5 x6 x7 x8 x9 t0 = some r) : PW l 8 Y_X10_slipped k_X10_slipped_110 [vR 0, vI x1, vI x2, vI x3, jk, vI x5, vI x6, vI x7, vI x8, vI x9, jk] [vI t0] M r := by
  unfold F_X10_slipped_0_110 at h
  refine p_istore (Nat.le_of_ble_eq_true rfl) rfl ?_
  refine p_bipush cb_24 ?_
  refine p_iload rfl ?_
  refine p_iload rfl ?_
  refine p_iload rfl ?_
  refine p_isub ?_
  refine p_cI (av := [_, _]) ⟨mok_J9_min_7cf53, Or.inr ⟨293, rfl, rfl, sta_J9_min_7cf53, Or.inl lk_X10_293⟩⟩ (Nat.le_of_ble_eq_true rfl) (Nat.le_of_ble_eq_true rfl) rfl (fun _ h => pc_J9_min_7cf53 hl h) h (fun v691 M690 h => ?_)
  refine p_isub ?_
  have h := lt_h h
  refine p_istore (Nat.le_of_ble_eq_true rfl) rfl ?_
  refine p_iload rfl ?_
  refine p_iload rfl ?_
  refine p_icmp_le h 75 rfl rfl (fun _ h => ?_) (fun _ h => ?_)
  · refine p_iload rfl ?_
    exact p_fg (S_X10_slipped_0_147 hl hk37 hk69 h) ⟨Or.inr rfl, Or.inr rfl, Or.inr rfl, Or.inr rfl, Or.inr rfl, Or.inl rfl, Or.inr rfl, Or.inr rfl, Or.inr rfl, Or.inr rfl, Or.inr rfl, trivial⟩
  · refine p_bipush cb_100 ?_
    refine p_iload rfl ?_
    refine p_imul ?_
    refine p_iload rfl ?_
    refine p_iadd ?_
    refine p_goto 76 rfl rfl ?_
    exact p_fg (S_X10_slipped_0_147 hl hk37 hk69 h) ⟨Or.inr rfl, Or.inr rfl, Or.inr rfl, Or.inr rfl, Or.inr rfl, Or.inl rfl, Or.inr rfl, Or.inr rfl, Or.inr rfl, Or.inr rfl, Or.inr rfl, trivial⟩
set_option maxRecDepth 100000 in
theorem S_X10_slipped_0_69 {l : Launch} (hl : l.stackTraces = false) {k37 : PM → Int32 → Int32 → Int32 → Int32 → Int32 → Int32 → Int32 → Option PR} (hk37 : ∀ {M : PM} {x1 : Int32} {x2 : Int32} {x3 : Int32} {x4 : Int32} {x5 : Int32} {x6 : Int32} {x7 : Int32} {r : PR}, k37 M x1 x2 x3 x4 x5 x6 x7 = some r → PW l 8 Y_X10_slipped k_X10_slipped_37 [vR 0, vI x1, vI x2, vI x3, vI x4, vI x5, vI x6, vI x7, jk, jk, jk] [] M r) : ∀ (n : Nat) {M : PM} {x1 : Int32} {x2 : Int32} {x3 : Int32} {x4 : Int32} {x5 : Int32} {x6 : Int32} {x7 : Int32} {x8 : Int32} {x9 : Int32} {r : PR}, F_X10_slipped_0_69 k37 n M x1 x2 x3 x4 x5 x6 x7 x8 x9 = some r → PW l 8 Y_X10_slipped k_X10_slipped_69 [vR 0, vI x1, vI x2, vI x3, vI x4, vI x5, vI x6, vI x7, vI x8, vI x9, jk] [] M r := by
  intro n
  induction n with
  | zero => intro M x1 x2 x3 x4 x5 x6 x7 x8 x9 r h; exact nomatch (show (none : Option PR) = some r from h)
  | succ n ih =>
    intro M x1 x2 x3 x4 x5 x6 x7 x8 x9 r h
    rw [F_X10_slipped_0_69] at h
    refine p_iload rfl ?_
    refine p_iload rfl ?_
    refine p_icmp_ge h 83 rfl rfl (fun _ h => ?_) (fun _ h => ?_)
    · have h := lt_h h
      refine p_iinc (Nat.le_of_ble_eq_true rfl) rfl (ci_1 _) rfl ?_
      refine p_goto 23 rfl rfl ?_
      exact p_fg (hk37 h) ⟨Or.inr rfl, Or.inr rfl, Or.inr rfl, Or.inr rfl, Or.inr rfl, Or.inr rfl, Or.inr rfl, Or.inr rfl, Or.inl rfl, Or.inl rfl, Or.inl rfl, trivial⟩
    · refine p_aload_n rfl ?_
      refine p_iload_n rfl ?_
      refine p_iload rfl ?_
      refine p_iload rfl ?_
      refine p_cI (av := [_, _, _, _]) ⟨mok_X10_explains, Or.inl ⟨290, 0, 10, 0, _, rfl, rfl, rfl, gt_0, rfl, ins_X10_explains, Or.inl lk_X10_290⟩⟩ (Nat.le_of_ble_eq_true rfl) (Nat.le_of_ble_eq_true rfl) rfl (fun _ h => pc_X10_explains_0 hl h) h (fun v695 M694 h => ?_)
      refine p_if_eq h 81 rfl rfl (fun _ h => ?_) (fun _ h => ?_)
      · exact p_fg (S_X10_slipped_0_158 hl hk37 (fun h => ih h) h) ⟨Or.inr rfl, Or.inr rfl, Or.inr rfl, Or.inr rfl, Or.inr rfl, Or.inr rfl, Or.inr rfl, Or.inr rfl, Or.inr rfl, Or.inr rfl, Or.inl rfl, trivial⟩
      · have h := lt_h h
        refine p_iinc (Nat.le_of_ble_eq_true rfl) rfl (ci_1 _) rfl ?_
        refine p_iload rfl ?_
        refine p_iconst cn_m1 ?_
        refine p_icmp_ne h 56 rfl rfl (fun _ h => ?_) (fun _ h => ?_)
        · refine p_bipush cb_100 ?_
          refine p_iload rfl ?_
          refine p_imul ?_
          refine p_iload rfl ?_
          refine p_iadd ?_
          refine p_goto 57 rfl rfl ?_
          exact p_fg (S_X10_slipped_0_110 hl hk37 (fun h => ih h) h) ⟨Or.inr rfl, Or.inr rfl, Or.inr rfl, Or.inr rfl, Or.inl rfl, Or.inr rfl, Or.inr rfl, Or.inr rfl, Or.inr rfl, Or.inr rfl, Or.inl rfl, trivial⟩
        · refine p_iload rfl ?_
          exact p_fg (S_X10_slipped_0_110 hl hk37 (fun h => ih h) h) ⟨Or.inr rfl, Or.inr rfl, Or.inr rfl, Or.inr rfl, Or.inl rfl, Or.inr rfl, Or.inr rfl, Or.inr rfl, Or.inr rfl, Or.inr rfl, Or.inl rfl, trivial⟩
set_option maxRecDepth 100000 in
theorem S_X10_slipped_0_37 {l : Launch} (hl : l.stackTraces = false) : ∀ (n : Nat) {M : PM} {x1 : Int32} {x2 : Int32} {x3 : Int32} {x4 : Int32} {x5 : Int32} {x6 : Int32} {x7 : Int32} {r : PR}, F_X10_slipped_0_37  n M x1 x2 x3 x4 x5 x6 x7 = some r → PW l 8 Y_X10_slipped k_X10_slipped_37 [vR 0, vI x1, vI x2, vI x3, vI x4, vI x5, vI x6, vI x7, jk, jk, jk] [] M r := by
  intro n
  induction n with
  | zero => intro M x1 x2 x3 x4 x5 x6 x7 r h; exact nomatch (show (none : Option PR) = some r from h)
  | succ n ih =>
    intro M x1 x2 x3 x4 x5 x6 x7 r h
    rw [F_X10_slipped_0_37] at h
    refine p_iload rfl ?_
    refine p_aload_n rfl ?_
    refine p_getR fk_X10_27 gt_0 rfl rfl ?_
    refine p_getR fk_X10_128 gt_3 rfl rfl ?_
    refine p_getI fk_X10_132 gt_4 rfl ?_
    refine p_icmp_ge h 85 rfl rfl (fun _ h => ?_) (fun _ h => ?_)
    · refine p_iload_n rfl ?_
      refine p_if_ne h 89 rfl rfl (fun _ h => ?_) (fun _ h => ?_)
      · refine p_iload_n rfl ?_
        refine p_goto 95 rfl rfl ?_
        exact p_iret rfl h
      · refine p_iload_n rfl ?_
        refine p_iconst cn_1 ?_
        refine p_icmp_ne h 94 rfl rfl (fun _ h => ?_) (fun _ h => ?_)
        · refine p_iload rfl ?_
          refine p_goto 95 rfl rfl ?_
          exact p_iret rfl h
        · refine p_iload rfl ?_
          exact p_iret rfl h
    · refine p_aload_n rfl ?_
      refine p_getR fk_X10_27 gt_0 rfl rfl ?_
      refine p_getR fk_X10_128 gt_3 rfl rfl ?_
      refine p_iload rfl ?_
      refine p_cI (av := [_, _]) ⟨mok_X2_weekOf, Or.inl ⟨161, 4, 2, 0, _, rfl, rfl, rfl, gt_4, rfl, ins_X2_weekOf, Or.inr lk_X10_161⟩⟩ (Nat.le_of_ble_eq_true rfl) (Nat.le_of_ble_eq_true rfl) rfl (fun _ h => pc_X2_weekOf_4 hl h) h (fun v698 M697 h => ?_)
      refine p_istore (Nat.le_of_ble_eq_true rfl) rfl ?_
      refine p_iconst cn_0 ?_
      refine p_istore (Nat.le_of_ble_eq_true rfl) rfl ?_
      exact p_fg (S_X10_slipped_0_69 hl (fun h => ih h) FUEL h) ⟨Or.inr rfl, Or.inr rfl, Or.inr rfl, Or.inr rfl, Or.inr rfl, Or.inr rfl, Or.inr rfl, Or.inr rfl, Or.inr rfl, Or.inr rfl, Or.inl rfl, trivial⟩
set_option maxRecDepth 100000 in
theorem S_X10_slipped_0_20 {l : Launch} (hl : l.stackTraces = false) {M : PM} {x1 : Int32} {x2 : Int32} {t1 : Int32} {r : PR} (h : F_X10_slipped_0_20  M x1 x2 t1 = some r) : PW l 8 Y_X10_slipped k_X10_slipped_20 [vR 0, vI x1, vI x2, jk, jk, jk, jk, jk, jk, jk, jk] [vI t1, vR 0] M r := by
  unfold F_X10_slipped_0_20 at h
  refine p_bV mok_X10_need rfl gt_0 rfl ins_X10_need lk_X10_101 (Nat.le_of_ble_eq_true rfl) (Nat.le_of_ble_eq_true rfl) rfl (fun _ h => pc_X10_need_0 hl h) h (fun M699 h => ?_)
  refine p_iconst cn_0 ?_
  refine p_istore_n (Nat.le_of_ble_eq_true rfl) rfl ?_
  refine p_iconst cn_m1 ?_
  refine p_istore (Nat.le_of_ble_eq_true rfl) rfl ?_
  refine p_iconst cn_m1 ?_
  refine p_istore (Nat.le_of_ble_eq_true rfl) rfl ?_
  refine p_iconst cn_0 ?_
  refine p_istore (Nat.le_of_ble_eq_true rfl) rfl ?_
  refine p_iconst cn_0 ?_
  refine p_istore (Nat.le_of_ble_eq_true rfl) rfl ?_
  exact p_fg (S_X10_slipped_0_37 hl FUEL h) ⟨Or.inr rfl, Or.inr rfl, Or.inr rfl, Or.inr rfl, Or.inr rfl, Or.inr rfl, Or.inr rfl, Or.inr rfl, Or.inl rfl, Or.inl rfl, Or.inl rfl, trivial⟩
set_option maxRecDepth 100000 in
theorem S_X10_slipped_0_19 {l : Launch} (hl : l.stackTraces = false) {M : PM} {x1 : Int32} {x2 : Int32} {r : PR} (h : F_X10_slipped_0_19  M x1 x2 = some r) : PW l 8 Y_X10_slipped k_X10_slipped_19 [vR 0, vI x1, vI x2, jk, jk, jk, jk, jk, jk, jk, jk] [vR 0] M r := by
  unfold F_X10_slipped_0_19 at h
  refine p_iconst cn_0 ?_
  exact p_fg (S_X10_slipped_0_20 hl h) ⟨Or.inr rfl, Or.inr rfl, Or.inr rfl, Or.inl rfl, Or.inl rfl, Or.inl rfl, Or.inl rfl, Or.inl rfl, Or.inl rfl, Or.inl rfl, Or.inl rfl, trivial⟩
set_option maxRecDepth 100000 in
theorem S_X10_slipped_0 {l : Launch} (hl : l.stackTraces = false) {M : PM} {a1 : Int32} {a2 : Int32} {r : PR} (h : F_X10_slipped_0 M a1 a2 = some r) : PW l 8 Y_X10_slipped k_X10_slipped [vR 0, vI a1, vI a2, jk, jk, jk, jk, jk, jk, jk, jk] [] M r := by
  unfold F_X10_slipped_0 at h
  refine p_aload_n rfl ?_
  refine p_iload_n rfl ?_
  refine p_bV mok_X10_needHouse rfl gt_0 rfl ins_X10_needHouse lk_X10_168 (Nat.le_of_ble_eq_true rfl) (Nat.le_of_ble_eq_true rfl) rfl (fun _ h => pc_X10_needHouse_0 hl h) h (fun M700 h => ?_)
  refine p_aload_n rfl ?_
  refine p_iload_n rfl ?_
  refine p_if_lt h 11 rfl rfl (fun _ h => ?_) (fun _ h => ?_)
  · exact p_fg (S_X10_slipped_0_19 hl h) ⟨Or.inr rfl, Or.inr rfl, Or.inr rfl, Or.inl rfl, Or.inl rfl, Or.inl rfl, Or.inl rfl, Or.inl rfl, Or.inl rfl, Or.inl rfl, Or.inl rfl, trivial⟩
  · refine p_iload_n rfl ?_
    refine p_iconst cn_2 ?_
    refine p_icmp_gt h 11 rfl rfl (fun _ h => ?_) (fun _ h => ?_)
    · exact p_fg (S_X10_slipped_0_19 hl h) ⟨Or.inr rfl, Or.inr rfl, Or.inr rfl, Or.inl rfl, Or.inl rfl, Or.inl rfl, Or.inl rfl, Or.inl rfl, Or.inl rfl, Or.inl rfl, Or.inl rfl, trivial⟩
    · refine p_iconst cn_1 ?_
      refine p_goto 12 rfl rfl ?_
      exact p_fg (S_X10_slipped_0_20 hl h) ⟨Or.inr rfl, Or.inr rfl, Or.inr rfl, Or.inl rfl, Or.inl rfl, Or.inl rfl, Or.inl rfl, Or.inl rfl, Or.inl rfl, Or.inl rfl, Or.inl rfl, trivial⟩
set_option maxRecDepth 100000 in
theorem pc_X10_slipped_0 {l : Launch} (hl : l.stackTraces = false) {M : PM} {a1 : Int32} {a2 : Int32} {r : PR} (h : F_X10_slipped_0 M a1 a2 = some r) : PC l 8 Y_X10_slipped [vR 0, vI a1, vI a2] M r := pc_of hl (by decide +kernel) cok_X10_slipped (Nat.le_of_ble_eq_true rfl) rfl (S_X10_slipped_0 hl  h) rfl
def F_X10_forget_0 (M : PM)  : Option PR := lt ((mI M 16 4) + (mI M 16 9)) fun y701 => some (.inl (some (.int y701)), sI (sI M 16 4 0) 16 9 0)
set_option maxRecDepth 100000 in
theorem S_X10_forget_0 {l : Launch} (hl : l.stackTraces = false) {M : PM}  {r : PR} (h : F_X10_forget_0 M  = some r) : PW l 0 Y_X10_forget k_X10_forget [vR 0, jk] [] M r := by
  unfold F_X10_forget_0 at h
  refine p_aload_n rfl ?_
  refine p_getR fk_X10_34 gt_0 rfl rfl ?_
  refine p_getI fk_X10_301 gt_16 rfl ?_
  refine p_aload_n rfl ?_
  refine p_getR fk_X10_34 gt_0 rfl rfl ?_
  refine p_getI fk_X10_304 gt_16 rfl ?_
  refine p_iadd ?_
  have h := lt_h h
  refine p_istore_n (Nat.le_of_ble_eq_true rfl) rfl ?_
  refine p_aload_n rfl ?_
  refine p_getR fk_X10_34 gt_0 rfl rfl ?_
  refine p_iconst cn_0 ?_
  refine p_putI fk_X10_301 gt_16 rfl ?_
  refine p_aload_n rfl ?_
  refine p_getR fk_X10_34 gt_0 rfl rfl ?_
  refine p_iconst cn_0 ?_
  refine p_putI fk_X10_304 gt_16 rfl ?_
  refine p_iload_n rfl ?_
  exact p_iret rfl h
set_option maxRecDepth 100000 in
theorem pc_X10_forget_0 {l : Launch} (hl : l.stackTraces = false) {M : PM}  {r : PR} (h : F_X10_forget_0 M  = some r) : PC l 0 Y_X10_forget [vR 0] M r := pc_of hl (by decide +kernel) cok_X10_forget (Nat.le_of_ble_eq_true rfl) rfl (S_X10_forget_0 hl  h) rfl
def F_X3_areAlike_16_2 : Nat → PM → Int32 → Int32 → Int32 → Option PR
  | 0, _, _, _, _ => none
  | n + 1, M, x1, x2, x3 => (if 12 ≤ x3 then (if (1 : Int32) &&& 1 = 1 then some (.inl (some (.int 1)), M) else none) else cI (F_X3_aheadOf_16 M x1 x3) fun v703 M702 => cI (F_X3_aheadOf_16 M702 x2 x3) fun v705 M704 => (if v703 = v705 then lt (x3 + 1) fun y706 => F_X3_areAlike_16_2 n M704 x1 x2 y706 else (if (0 : Int32) &&& 1 = 0 then some (.inl (some (.int 0)), M704) else none)))
def F_X3_areAlike_16 (M : PM) (a1 : Int32) (a2 : Int32) : Option PR := F_X3_areAlike_16_2 FUEL M a1 a2 0
set_option maxRecDepth 100000 in
theorem S_X3_areAlike_16_2 {l : Launch} (hl : l.stackTraces = false) : ∀ (n : Nat) {M : PM} {x1 : Int32} {x2 : Int32} {x3 : Int32} {r : PR}, F_X3_areAlike_16_2  n M x1 x2 x3 = some r → PW l 2 Y_X3_areAlike k_X3_areAlike_2 [vR 16, vI x1, vI x2, vI x3] [] M r := by
  intro n
  induction n with
  | zero => intro M x1 x2 x3 r h; exact nomatch (show (none : Option PR) = some r from h)
  | succ n ih =>
    intro M x1 x2 x3 r h
    rw [F_X3_areAlike_16_2] at h
    refine p_iload_n rfl ?_
    refine p_bipush cb_12 ?_
    refine p_icmp_ge h 18 rfl rfl (fun _ h => ?_) (fun _ h => ?_)
    · refine p_iconst cn_1 ?_
      exact p_zret rfl h
    · refine p_aload_n rfl ?_
      refine p_iload_n rfl ?_
      refine p_iload_n rfl ?_
      refine p_cI (av := [_, _, _]) ⟨mok_X3_aheadOf, Or.inl ⟨66, 16, 3, 0, _, rfl, rfl, rfl, gt_16, rfl, ins_X3_aheadOf, Or.inl lk_X3_66⟩⟩ (Nat.le_of_ble_eq_true rfl) (Nat.le_of_ble_eq_true rfl) rfl (fun _ h => pc_X3_aheadOf_16 hl h) h (fun v703 M702 h => ?_)
      refine p_aload_n rfl ?_
      refine p_iload_n rfl ?_
      refine p_iload_n rfl ?_
      refine p_cI (av := [_, _, _]) ⟨mok_X3_aheadOf, Or.inl ⟨66, 16, 3, 0, _, rfl, rfl, rfl, gt_16, rfl, ins_X3_aheadOf, Or.inl lk_X3_66⟩⟩ (Nat.le_of_ble_eq_true rfl) (Nat.le_of_ble_eq_true rfl) rfl (fun _ h => pc_X3_aheadOf_16 hl h) h (fun v705 M704 h => ?_)
      refine p_icmp_eq h 16 rfl rfl (fun _ h => ?_) (fun _ h => ?_)
      · have h := lt_h h
        refine p_iinc (Nat.le_of_ble_eq_true rfl) rfl (ci_1 _) rfl ?_
        refine p_goto 2 rfl rfl ?_
        exact p_fg (ih h) ⟨Or.inr rfl, Or.inr rfl, Or.inr rfl, Or.inr rfl, trivial⟩
      · refine p_iconst cn_0 ?_
        exact p_zret rfl h
set_option maxRecDepth 100000 in
theorem S_X3_areAlike_16 {l : Launch} (hl : l.stackTraces = false) {M : PM} {a1 : Int32} {a2 : Int32} {r : PR} (h : F_X3_areAlike_16 M a1 a2 = some r) : PW l 2 Y_X3_areAlike k_X3_areAlike [vR 16, vI a1, vI a2, jk] [] M r := by
  unfold F_X3_areAlike_16 at h
  refine p_iconst cn_0 ?_
  refine p_istore_n (Nat.le_of_ble_eq_true rfl) rfl ?_
  exact p_fg (S_X3_areAlike_16_2 hl FUEL h) ⟨Or.inr rfl, Or.inr rfl, Or.inr rfl, Or.inr rfl, trivial⟩
set_option maxRecDepth 100000 in
theorem pc_X3_areAlike_16 {l : Launch} (hl : l.stackTraces = false) {M : PM} {a1 : Int32} {a2 : Int32} {r : PR} (h : F_X3_areAlike_16 M a1 a2 = some r) : PC l 2 Y_X3_areAlike [vR 16, vI a1, vI a2] M r := pc_of hl (by decide +kernel) cok_X3_areAlike (Nat.le_of_ble_eq_true rfl) rfl (S_X3_areAlike_16 hl  h) rfl
def F_X10_housesAlike_0_35 (k4 : PM → Int32 → Int32 → Int32 → Option PR) (M : PM) (x1 : Int32) (x3 : Int32) (t0 : Int32) (t1 : Int32) : Option PR := lt (t0 ||| t1) fun y707 => lt (x3 + 1) fun y708 => k4 M x1 y707 y708
def F_X10_housesAlike_0_4 : Nat → PM → Int32 → Int32 → Int32 → Option PR
  | 0, _, _, _, _ => none
  | n + 1, M, x1, x2, x3 => (if mI M 3 4 ≤ x3 then some (.inl (some (.int x2)), M) else cI (F_X3_areAlike_16 M x3 x1) fun v710 M709 => (if v710 = 0 then F_X10_housesAlike_0_35 (F_X10_housesAlike_0_4 n) M709 x1 x3 x2 0 else F_X10_housesAlike_0_35 (F_X10_housesAlike_0_4 n) M709 x1 x3 x2 (1 <<< (x3 &&& 31))))
def F_X10_housesAlike_0 (M : PM) (a1 : Int32) : Option PR := F_X10_housesAlike_0_4 FUEL M a1 0 0
set_option maxRecDepth 100000 in
theorem S_X10_housesAlike_0_35 {l : Launch} (hl : l.stackTraces = false) {k4 : PM → Int32 → Int32 → Int32 → Option PR} (hk4 : ∀ {M : PM} {x1 : Int32} {x2 : Int32} {x3 : Int32} {r : PR}, k4 M x1 x2 x3 = some r → PW l 3 Y_X10_housesAlike k_X10_housesAlike_4 [vR 0, vI x1, vI x2, vI x3] [] M r) {M : PM} {x1 : Int32} {x3 : Int32} {t0 : Int32} {t1 : Int32} {r : PR} (h : F_X10_housesAlike_0_35 k4 M x1 x3 t0 t1 = some r) : PW l 3 Y_X10_housesAlike k_X10_housesAlike_35 [vR 0, vI x1, jk, vI x3] [vI t1, vI t0] M r := by
  unfold F_X10_housesAlike_0_35 at h
  refine p_ior ?_
  have h := lt_h h
  refine p_istore_n (Nat.le_of_ble_eq_true rfl) rfl ?_
  have h := lt_h h
  refine p_iinc (Nat.le_of_ble_eq_true rfl) rfl (ci_1 _) rfl ?_
  refine p_goto 4 rfl rfl ?_
  exact p_fg (hk4 h) ⟨Or.inr rfl, Or.inr rfl, Or.inr rfl, Or.inr rfl, trivial⟩
set_option maxRecDepth 100000 in
theorem S_X10_housesAlike_0_4 {l : Launch} (hl : l.stackTraces = false) : ∀ (n : Nat) {M : PM} {x1 : Int32} {x2 : Int32} {x3 : Int32} {r : PR}, F_X10_housesAlike_0_4  n M x1 x2 x3 = some r → PW l 3 Y_X10_housesAlike k_X10_housesAlike_4 [vR 0, vI x1, vI x2, vI x3] [] M r := by
  intro n
  induction n with
  | zero => intro M x1 x2 x3 r h; exact nomatch (show (none : Option PR) = some r from h)
  | succ n ih =>
    intro M x1 x2 x3 r h
    rw [F_X10_housesAlike_0_4] at h
    refine p_iload_n rfl ?_
    refine p_aload_n rfl ?_
    refine p_getR fk_X10_27 gt_0 rfl rfl ?_
    refine p_getI fk_X10_143 gt_3 rfl ?_
    refine p_icmp_ge h 25 rfl rfl (fun _ h => ?_) (fun _ h => ?_)
    · refine p_iload_n rfl ?_
      exact p_iret rfl h
    · refine p_iload_n rfl ?_
      refine p_aload_n rfl ?_
      refine p_getR fk_X10_34 gt_0 rfl rfl ?_
      refine p_iload_n rfl ?_
      refine p_iload_n rfl ?_
      refine p_cI (av := [_, _, _]) ⟨mok_X3_areAlike, Or.inl ⟨405, 16, 3, 0, _, rfl, rfl, rfl, gt_16, rfl, ins_X3_areAlike, Or.inr lk_X10_405⟩⟩ (Nat.le_of_ble_eq_true rfl) (Nat.le_of_ble_eq_true rfl) rfl (fun _ h => pc_X3_areAlike_16 hl h) h (fun v710 M709 h => ?_)
      refine p_if_eq h 20 rfl rfl (fun _ h => ?_) (fun _ h => ?_)
      · refine p_iconst cn_0 ?_
        exact p_fg (S_X10_housesAlike_0_35 hl (fun h => ih h) h) ⟨Or.inr rfl, Or.inr rfl, Or.inl rfl, Or.inr rfl, trivial⟩
      · refine p_iconst cn_1 ?_
        refine p_iload_n rfl ?_
        refine p_ishl ?_
        refine p_goto 21 rfl rfl ?_
        exact p_fg (S_X10_housesAlike_0_35 hl (fun h => ih h) h) ⟨Or.inr rfl, Or.inr rfl, Or.inl rfl, Or.inr rfl, trivial⟩
set_option maxRecDepth 100000 in
theorem S_X10_housesAlike_0 {l : Launch} (hl : l.stackTraces = false) {M : PM} {a1 : Int32} {r : PR} (h : F_X10_housesAlike_0 M a1 = some r) : PW l 3 Y_X10_housesAlike k_X10_housesAlike [vR 0, vI a1, jk, jk] [] M r := by
  unfold F_X10_housesAlike_0 at h
  refine p_iconst cn_0 ?_
  refine p_istore_n (Nat.le_of_ble_eq_true rfl) rfl ?_
  refine p_iconst cn_0 ?_
  refine p_istore_n (Nat.le_of_ble_eq_true rfl) rfl ?_
  exact p_fg (S_X10_housesAlike_0_4 hl FUEL h) ⟨Or.inr rfl, Or.inr rfl, Or.inr rfl, Or.inr rfl, trivial⟩
set_option maxRecDepth 100000 in
theorem pc_X10_housesAlike_0 {l : Launch} (hl : l.stackTraces = false) {M : PM} {a1 : Int32} {r : PR} (h : F_X10_housesAlike_0 M a1 = some r) : PC l 3 Y_X10_housesAlike [vR 0, vI a1] M r := pc_of hl (by decide +kernel) cok_X10_housesAlike (Nat.le_of_ble_eq_true rfl) rfl (S_X10_housesAlike_0 hl  h) rfl
def F_X10_right_0_42 (k9 : PM → Int32 → Int32 → Int32 → Option PR) (M : PM) (x1 : Int32) (x2 : Int32) (x3 : Int32) : Option PR := lt (x3 + 1) fun y711 => k9 M x1 x2 y711
def F_X10_right_0_9 : Nat → PM → Int32 → Int32 → Int32 → Option PR
  | 0, _, _, _, _ => none
  | n + 1, M, x1, x2, x3 => (if mI M 3 4 ≤ x3 then (if x1 = 0 then cI (F_J6_bitCount_0f7a4 M x2) fun v713 M712 => some (.inl (some (.int ((mI M 3 4) - v713))), M712) else some (.inl (some (.int x2)), M)) else cI (F_X10_housesAlike_0 M x3) fun v715 M714 => cI (F_J6_bitCount_0f7a4 M714 v715) fun v717 M716 => cI (F_J6_bitCount_0f7a4 M716 x2) fun v719 M718 => (if v717 ≤ v719 then F_X10_right_0_42 (F_X10_right_0_9 n) M718 x1 x2 x3 else F_X10_right_0_42 (F_X10_right_0_9 n) M718 x1 v715 x3))
def F_X10_right_0 (M : PM) (a1 : Int32) : Option PR := bV (F_X10_needEither_0 M a1) fun M720 => F_X10_right_0_9 FUEL M720 a1 0 0
set_option maxRecDepth 100000 in
theorem S_X10_right_0_42 {l : Launch} (hl : l.stackTraces = false) {k9 : PM → Int32 → Int32 → Int32 → Option PR} (hk9 : ∀ {M : PM} {x1 : Int32} {x2 : Int32} {x3 : Int32} {r : PR}, k9 M x1 x2 x3 = some r → PW l 8 Y_X10_right k_X10_right_9 [vR 0, vI x1, vI x2, vI x3, jk] [] M r) {M : PM} {x1 : Int32} {x2 : Int32} {x3 : Int32} {r : PR} (h : F_X10_right_0_42 k9 M x1 x2 x3 = some r) : PW l 8 Y_X10_right k_X10_right_42 [vR 0, vI x1, vI x2, vI x3, jk] [] M r := by
  unfold F_X10_right_0_42 at h
  have h := lt_h h
  refine p_iinc (Nat.le_of_ble_eq_true rfl) rfl (ci_1 _) rfl ?_
  refine p_goto 7 rfl rfl ?_
  exact p_fg (hk9 h) ⟨Or.inr rfl, Or.inr rfl, Or.inr rfl, Or.inr rfl, Or.inl rfl, trivial⟩
set_option maxRecDepth 100000 in
theorem S_X10_right_0_9 {l : Launch} (hl : l.stackTraces = false) : ∀ (n : Nat) {M : PM} {x1 : Int32} {x2 : Int32} {x3 : Int32} {r : PR}, F_X10_right_0_9  n M x1 x2 x3 = some r → PW l 8 Y_X10_right k_X10_right_9 [vR 0, vI x1, vI x2, vI x3, jk] [] M r := by
  intro n
  induction n with
  | zero => intro M x1 x2 x3 r h; exact nomatch (show (none : Option PR) = some r from h)
  | succ n ih =>
    intro M x1 x2 x3 r h
    rw [F_X10_right_0_9] at h
    refine p_iload_n rfl ?_
    refine p_aload_n rfl ?_
    refine p_getR fk_X10_27 gt_0 rfl rfl ?_
    refine p_getI fk_X10_143 gt_3 rfl ?_
    refine p_icmp_ge h 25 rfl rfl (fun _ h => ?_) (fun _ h => ?_)
    · refine p_iload_n rfl ?_
      refine p_if_ne h 34 rfl rfl (fun _ h => ?_) (fun _ h => ?_)
      · refine p_aload_n rfl ?_
        refine p_getR fk_X10_27 gt_0 rfl rfl ?_
        refine p_getI fk_X10_143 gt_3 rfl ?_
        refine p_iload_n rfl ?_
        refine p_cI (av := [_]) ⟨mok_J6_bitCount_0f7a4, Or.inr ⟨217, rfl, rfl, sta_J6_bitCount_0f7a4, Or.inl lk_X10_217⟩⟩ (Nat.le_of_ble_eq_true rfl) (Nat.le_of_ble_eq_true rfl) rfl (fun _ h => pc_J6_bitCount_0f7a4 hl h) h (fun v713 M712 h => ?_)
        refine p_isub ?_
        refine p_goto 35 rfl rfl ?_
        exact p_iret rfl h
      · refine p_iload_n rfl ?_
        exact p_iret rfl h
    · refine p_aload_n rfl ?_
      refine p_iload_n rfl ?_
      refine p_cI (av := [_, _]) ⟨mok_X10_housesAlike, Or.inl ⟨307, 0, 10, 0, _, rfl, rfl, rfl, gt_0, rfl, ins_X10_housesAlike, Or.inl lk_X10_307⟩⟩ (Nat.le_of_ble_eq_true rfl) (Nat.le_of_ble_eq_true rfl) rfl (fun _ h => pc_X10_housesAlike_0 hl h) h (fun v715 M714 h => ?_)
      refine p_istore (Nat.le_of_ble_eq_true rfl) rfl ?_
      refine p_iload rfl ?_
      refine p_cI (av := [_]) ⟨mok_J6_bitCount_0f7a4, Or.inr ⟨217, rfl, rfl, sta_J6_bitCount_0f7a4, Or.inl lk_X10_217⟩⟩ (Nat.le_of_ble_eq_true rfl) (Nat.le_of_ble_eq_true rfl) rfl (fun _ h => pc_J6_bitCount_0f7a4 hl h) h (fun v717 M716 h => ?_)
      refine p_iload_n rfl ?_
      refine p_cI (av := [_]) ⟨mok_J6_bitCount_0f7a4, Or.inr ⟨217, rfl, rfl, sta_J6_bitCount_0f7a4, Or.inl lk_X10_217⟩⟩ (Nat.le_of_ble_eq_true rfl) (Nat.le_of_ble_eq_true rfl) rfl (fun _ h => pc_J6_bitCount_0f7a4 hl h) h (fun v719 M718 h => ?_)
      refine p_icmp_le h 23 rfl rfl (fun _ h => ?_) (fun _ h => ?_)
      · exact p_fg (S_X10_right_0_42 hl (fun h => ih h) h) ⟨Or.inr rfl, Or.inr rfl, Or.inr rfl, Or.inr rfl, Or.inl rfl, trivial⟩
      · refine p_iload rfl ?_
        refine p_istore_n (Nat.le_of_ble_eq_true rfl) rfl ?_
        exact p_fg (S_X10_right_0_42 hl (fun h => ih h) h) ⟨Or.inr rfl, Or.inr rfl, Or.inr rfl, Or.inr rfl, Or.inl rfl, trivial⟩
set_option maxRecDepth 100000 in
theorem S_X10_right_0 {l : Launch} (hl : l.stackTraces = false) {M : PM} {a1 : Int32} {r : PR} (h : F_X10_right_0 M a1 = some r) : PW l 8 Y_X10_right k_X10_right [vR 0, vI a1, jk, jk, jk] [] M r := by
  unfold F_X10_right_0 at h
  refine p_aload_n rfl ?_
  refine p_iload_n rfl ?_
  refine p_bV mok_X10_needEither rfl gt_0 rfl ins_X10_needEither lk_X10_158 (Nat.le_of_ble_eq_true rfl) (Nat.le_of_ble_eq_true rfl) rfl (fun _ h => pc_X10_needEither_0 hl h) h (fun M720 h => ?_)
  refine p_iconst cn_0 ?_
  refine p_istore_n (Nat.le_of_ble_eq_true rfl) rfl ?_
  refine p_iconst cn_0 ?_
  refine p_istore_n (Nat.le_of_ble_eq_true rfl) rfl ?_
  exact p_fg (S_X10_right_0_9 hl FUEL h) ⟨Or.inr rfl, Or.inr rfl, Or.inr rfl, Or.inr rfl, Or.inl rfl, trivial⟩
set_option maxRecDepth 100000 in
theorem pc_X10_right_0 {l : Launch} (hl : l.stackTraces = false) {M : PM} {a1 : Int32} {r : PR} (h : F_X10_right_0 M a1 = some r) : PC l 8 Y_X10_right [vR 0, vI a1] M r := pc_of hl (by decide +kernel) cok_X10_right (Nat.le_of_ble_eq_true rfl) rfl (S_X10_right_0 hl  h) rfl
def F_X3_addWork_16 (M : PM) (a1 : Int32) (a2 : Int32) : Option PR := (if mI M 16 12 < 8 then if ixOK (mI M 16 12) 8 = true then if ixOK (mI (sA M 25 (mI M 16 12).toNatClampNeg a1) 16 12) 8 = true then lt (sI (sA (sA M 25 (mI M 16 12).toNatClampNeg a1) 26 (mI (sA M 25 (mI M 16 12).toNatClampNeg a1) 16 12).toNatClampNeg a2) 16 12 ((mI (sA (sA M 25 (mI M 16 12).toNatClampNeg a1) 26 (mI (sA M 25 (mI M 16 12).toNatClampNeg a1) 16 12).toNatClampNeg a2) 16 12) + 1)) fun M721 => some (.inl (some (.int ((mI M721 16 12) - 1))), M721) else none else none else some (.inl (some (.int (-1))), M))
set_option maxRecDepth 100000 in
theorem S_X3_addWork_16 {l : Launch} (hl : l.stackTraces = false) {M : PM} {a1 : Int32} {a2 : Int32} {r : PR} (h : F_X3_addWork_16 M a1 a2 = some r) : PW l 0 Y_X3_addWork k_X3_addWork [vR 16, vI a1, vI a2] [] M r := by
  unfold F_X3_addWork_16 at h
  refine p_aload_n rfl ?_
  refine p_getI fk_X3_59 gt_16 rfl ?_
  refine p_bipush cb_8 ?_
  refine p_icmp_lt h 6 rfl rfl (fun _ h => ?_) (fun _ h => ?_)
  · refine p_aload_n rfl ?_
    refine p_getR fk_X3_37 gt_16 rfl rfl ?_
    refine p_aload_n rfl ?_
    refine p_getI fk_X3_59 gt_16 rfl ?_
    refine p_iload_n rfl ?_
    refine p_iast gt_25 h (fun h => ?_)
    refine p_aload_n rfl ?_
    refine p_getR fk_X3_40 gt_16 rfl rfl ?_
    refine p_aload_n rfl ?_
    refine p_getI fk_X3_59 gt_16 rfl ?_
    refine p_iload_n rfl ?_
    refine p_iast gt_26 h (fun h => ?_)
    refine p_aload_n rfl ?_
    refine p_dup rfl ?_
    refine p_getI fk_X3_59 gt_16 rfl ?_
    refine p_iconst cn_1 ?_
    refine p_iadd ?_
    refine p_putI fk_X3_59 gt_16 rfl ?_
    have h := lt_h h
    refine p_aload_n rfl ?_
    refine p_getI fk_X3_59 gt_16 rfl ?_
    refine p_iconst cn_1 ?_
    refine p_isub ?_
    exact p_iret rfl h
  · refine p_iconst cn_m1 ?_
    exact p_iret rfl h
set_option maxRecDepth 100000 in
theorem pc_X3_addWork_16 {l : Launch} (hl : l.stackTraces = false) {M : PM} {a1 : Int32} {a2 : Int32} {r : PR} (h : F_X3_addWork_16 M a1 a2 = some r) : PC l 0 Y_X3_addWork [vR 16, vI a1, vI a2] M r := pc_of hl (by decide +kernel) cok_X3_addWork (Nat.le_of_ble_eq_true rfl) rfl (S_X3_addWork_16 hl  h) rfl
def F_X10_work_0_17 (M : PM) (x1 : Int32) (x2 : Int32) (t1 : Int32) : Option PR := bV (F_X10_need_0 M t1) fun M722 => bV (F_X10_needLaws_0 M722 x2) fun M723 => cI (F_X3_addWork_16 M723 x1 x2) fun v725 M724 => some (.inl (some (.int v725)), M724)
def F_X10_work_0_16 (M : PM) (x1 : Int32) (x2 : Int32) : Option PR := F_X10_work_0_17 M x1 x2 0
def F_X10_work_0 (M : PM) (a1 : Int32) (a2 : Int32) : Option PR := (if a1 < 1 then F_X10_work_0_16 M a1 a2 else (if 60 < a1 then F_X10_work_0_16 M a1 a2 else F_X10_work_0_17 M a1 a2 1))
set_option maxRecDepth 100000 in
theorem S_X10_work_0_17 {l : Launch} (hl : l.stackTraces = false) {M : PM} {x1 : Int32} {x2 : Int32} {t1 : Int32} {r : PR} (h : F_X10_work_0_17  M x1 x2 t1 = some r) : PW l 8 Y_X10_work k_X10_work_17 [vR 0, vI x1, vI x2] [vI t1, vR 0] M r := by
  unfold F_X10_work_0_17 at h
  refine p_bV mok_X10_need rfl gt_0 rfl ins_X10_need lk_X10_101 (Nat.le_of_ble_eq_true rfl) (Nat.le_of_ble_eq_true rfl) rfl (fun _ h => pc_X10_need_0 hl h) h (fun M722 h => ?_)
  refine p_aload_n rfl ?_
  refine p_iload_n rfl ?_
  refine p_bV mok_X10_needLaws rfl gt_0 rfl ins_X10_needLaws lk_X10_201 (Nat.le_of_ble_eq_true rfl) (Nat.le_of_ble_eq_true rfl) rfl (fun _ h => pc_X10_needLaws_0 hl h) h (fun M723 h => ?_)
  refine p_aload_n rfl ?_
  refine p_getR fk_X10_34 gt_0 rfl rfl ?_
  refine p_iload_n rfl ?_
  refine p_iload_n rfl ?_
  refine p_cI (av := [_, _, _]) ⟨mok_X3_addWork, Or.inl ⟨310, 16, 3, 0, _, rfl, rfl, rfl, gt_16, rfl, ins_X3_addWork, Or.inr lk_X10_310⟩⟩ (Nat.le_of_ble_eq_true rfl) (Nat.le_of_ble_eq_true rfl) rfl (fun _ h => pc_X3_addWork_16 hl h) h (fun v725 M724 h => ?_)
  exact p_iret rfl h
set_option maxRecDepth 100000 in
theorem S_X10_work_0_16 {l : Launch} (hl : l.stackTraces = false) {M : PM} {x1 : Int32} {x2 : Int32} {r : PR} (h : F_X10_work_0_16  M x1 x2 = some r) : PW l 8 Y_X10_work k_X10_work_16 [vR 0, vI x1, vI x2] [vR 0] M r := by
  unfold F_X10_work_0_16 at h
  refine p_iconst cn_0 ?_
  exact p_fg (S_X10_work_0_17 hl h) ⟨Or.inr rfl, Or.inr rfl, Or.inr rfl, trivial⟩
set_option maxRecDepth 100000 in
theorem S_X10_work_0 {l : Launch} (hl : l.stackTraces = false) {M : PM} {a1 : Int32} {a2 : Int32} {r : PR} (h : F_X10_work_0 M a1 a2 = some r) : PW l 8 Y_X10_work k_X10_work [vR 0, vI a1, vI a2] [] M r := by
  unfold F_X10_work_0 at h
  refine p_aload_n rfl ?_
  refine p_iload_n rfl ?_
  refine p_iconst cn_1 ?_
  refine p_icmp_lt h 9 rfl rfl (fun _ h => ?_) (fun _ h => ?_)
  · exact p_fg (S_X10_work_0_16 hl h) ⟨Or.inr rfl, Or.inr rfl, Or.inr rfl, trivial⟩
  · refine p_iload_n rfl ?_
    refine p_bipush cb_60 ?_
    refine p_icmp_gt h 9 rfl rfl (fun _ h => ?_) (fun _ h => ?_)
    · exact p_fg (S_X10_work_0_16 hl h) ⟨Or.inr rfl, Or.inr rfl, Or.inr rfl, trivial⟩
    · refine p_iconst cn_1 ?_
      refine p_goto 10 rfl rfl ?_
      exact p_fg (S_X10_work_0_17 hl h) ⟨Or.inr rfl, Or.inr rfl, Or.inr rfl, trivial⟩
set_option maxRecDepth 100000 in
theorem pc_X10_work_0 {l : Launch} (hl : l.stackTraces = false) {M : PM} {a1 : Int32} {a2 : Int32} {r : PR} (h : F_X10_work_0 M a1 a2 = some r) : PC l 8 Y_X10_work [vR 0, vI a1, vI a2] M r := pc_of hl (by decide +kernel) cok_X10_work (Nat.le_of_ble_eq_true rfl) rfl (S_X10_work_0 hl  h) rfl
def F_X10_needWork_0 (M : PM) (a1 : Int32) : Option PR := (if a1 < 0 then bV (F_X10_needElement_0 M 0) fun M726 => some (.inl none, M726) else (if mI M 16 12 ≤ a1 then bV (F_X10_needElement_0 M 0) fun M727 => some (.inl none, M727) else bV (F_X10_needElement_0 M 1) fun M728 => some (.inl none, M728)))
set_option maxRecDepth 100000 in
theorem S_X10_needWork_0 {l : Launch} (hl : l.stackTraces = false) {M : PM} {a1 : Int32} {r : PR} (h : F_X10_needWork_0 M a1 = some r) : PW l 7 Y_X10_needWork k_X10_needWork [vR 0, vI a1] [] M r := by
  unfold F_X10_needWork_0 at h
  refine p_aload_n rfl ?_
  refine p_iload_n rfl ?_
  refine p_if_lt h 10 rfl rfl (fun _ h => ?_) (fun _ h => ?_)
  · refine p_iconst cn_0 ?_
    refine p_bV mok_X10_needElement rfl gt_0 rfl ins_X10_needElement lk_X10_381 (Nat.le_of_ble_eq_true rfl) (Nat.le_of_ble_eq_true rfl) rfl (fun _ h => pc_X10_needElement_0 hl h) h (fun M726 h => ?_)
    exact p_ret rfl h
  · refine p_iload_n rfl ?_
    refine p_aload_n rfl ?_
    refine p_getR fk_X10_34 gt_0 rfl rfl ?_
    refine p_getI fk_X10_333 gt_16 rfl ?_
    refine p_icmp_ge h 10 rfl rfl (fun _ h => ?_) (fun _ h => ?_)
    · refine p_iconst cn_0 ?_
      refine p_bV mok_X10_needElement rfl gt_0 rfl ins_X10_needElement lk_X10_381 (Nat.le_of_ble_eq_true rfl) (Nat.le_of_ble_eq_true rfl) rfl (fun _ h => pc_X10_needElement_0 hl h) h (fun M727 h => ?_)
      exact p_ret rfl h
    · refine p_iconst cn_1 ?_
      refine p_goto 11 rfl rfl ?_
      refine p_bV mok_X10_needElement rfl gt_0 rfl ins_X10_needElement lk_X10_381 (Nat.le_of_ble_eq_true rfl) (Nat.le_of_ble_eq_true rfl) rfl (fun _ h => pc_X10_needElement_0 hl h) h (fun M728 h => ?_)
      exact p_ret rfl h
set_option maxRecDepth 100000 in
theorem pc_X10_needWork_0 {l : Launch} (hl : l.stackTraces = false) {M : PM} {a1 : Int32} {r : PR} (h : F_X10_needWork_0 M a1 = some r) : PC l 7 Y_X10_needWork [vR 0, vI a1] M r := pc_of hl (by decide +kernel) cok_X10_needWork (Nat.le_of_ble_eq_true rfl) rfl (S_X10_needWork_0 hl  h) rfl
def F_X9_isWork_89 (M : PM) (a1 : Int32) : Option PR := (if a1 < 0 then (if (0 : Int32) &&& 1 = 0 then some (.inl (some (.int 0)), M) else none) else (if mI M 16 12 ≤ a1 then (if (0 : Int32) &&& 1 = 0 then some (.inl (some (.int 0)), M) else none) else (if 8 ≤ a1 then (if (0 : Int32) &&& 1 = 0 then some (.inl (some (.int 0)), M) else none) else (if (1 : Int32) &&& 1 = 1 then some (.inl (some (.int 1)), M) else none))))
set_option maxRecDepth 100000 in
theorem S_X9_isWork_89 {l : Launch} (hl : l.stackTraces = false) {M : PM} {a1 : Int32} {r : PR} (h : F_X9_isWork_89 M a1 = some r) : PW l 0 Y_X9_isWork k_X9_isWork [vR 89, vI a1] [] M r := by
  unfold F_X9_isWork_89 at h
  refine p_iload_n rfl ?_
  refine p_if_lt h 12 rfl rfl (fun _ h => ?_) (fun _ h => ?_)
  · refine p_iconst cn_0 ?_
    exact p_zret rfl h
  · refine p_iload_n rfl ?_
    refine p_aload_n rfl ?_
    refine p_getR fk_X9_25 gt_89 rfl rfl ?_
    refine p_getI fk_X9_29 gt_16 rfl ?_
    refine p_icmp_ge h 12 rfl rfl (fun _ h => ?_) (fun _ h => ?_)
    · refine p_iconst cn_0 ?_
      exact p_zret rfl h
    · refine p_iload_n rfl ?_
      refine p_bipush cb_8 ?_
      refine p_icmp_ge h 12 rfl rfl (fun _ h => ?_) (fun _ h => ?_)
      · refine p_iconst cn_0 ?_
        exact p_zret rfl h
      · refine p_iconst cn_1 ?_
        refine p_goto 13 rfl rfl ?_
        exact p_zret rfl h
set_option maxRecDepth 100000 in
theorem pc_X9_isWork_89 {l : Launch} (hl : l.stackTraces = false) {M : PM} {a1 : Int32} {r : PR} (h : F_X9_isWork_89 M a1 = some r) : PC l 0 Y_X9_isWork [vR 89, vI a1] M r := pc_of hl (by decide +kernel) cok_X9_isWork (Nat.le_of_ble_eq_true rfl) rfl (S_X9_isWork_89 hl  h) rfl
def F_X1_patience_27 (M : PM)  : Option PR := some (.inl (some (.int ((mI M 27 4) + 3))), M)
set_option maxRecDepth 100000 in
theorem S_X1_patience_27 {l : Launch} (hl : l.stackTraces = false) {M : PM}  {r : PR} (h : F_X1_patience_27 M  = some r) : PW l 0 Y_X1_patience k_X1_patience [vR 27] [] M r := by
  unfold F_X1_patience_27 at h
  refine p_aload_n rfl ?_
  refine p_getI fk_X1_15 gt_27 rfl ?_
  refine p_iconst cn_3 ?_
  refine p_iadd ?_
  exact p_iret rfl h
set_option maxRecDepth 100000 in
theorem pc_X1_patience_27 {l : Launch} (hl : l.stackTraces = false) {M : PM}  {r : PR} (h : F_X1_patience_27 M  = some r) : PC l 0 Y_X1_patience [vR 27] M r := pc_of hl (by decide +kernel) cok_X1_patience (Nat.le_of_ble_eq_true rfl) rfl (S_X1_patience_27 hl  h) rfl
def F_X1_nthFrom_27_103 (k14 : PM → Int32 → Int32 → Int32 → Option PR) (M : PM) (x3 : Int32) (x5 : Int32) (x6 : Int32) (t0 : Int32) : Option PR := lt (x6 + x5) fun y729 => k14 M x3 t0 y729
def F_X1_nthFrom_27_14 : Nat → PM → Int32 → Int32 → Int32 → Option PR
  | 0, _, _, _, _ => none
  | n + 1, M, x3, x4, x6 => (if 999999999 < x6 then some (.inl (some (.int (-1))), M) else (if x4 ≤ 0 then some (.inl (some (.int (-1))), M) else cI (F_X0_stretchFrom_3 M x6) fun v731 M730 => cI (F_X0_turnsOn_3 M730 x6) fun v733 M732 => cJ (F_X1_daysFrom_27 M732 v733) fun v735 M734 => cJ (F_X10_low M734 v731) fun v737 M736 => lt (v735 &&& v737) fun y738 => cI (F_J13_bitCount_95d88 M736 y738) fun v740 M739 => (if v740 < x3 then lt (x3 - v740) fun y741 => (if v740 ≤ 0 then F_X1_nthFrom_27_103 (F_X1_nthFrom_27_14 n) M739 y741 v731 x6 (x4 - v731) else cI (F_X1_patience_27 M739) fun v743 M742 => F_X1_nthFrom_27_103 (F_X1_nthFrom_27_14 n) M742 y741 v731 x6 v743) else cI (F_X10_nthLowest M739 y738 x3) fun v745 M744 => some (.inl (some (.int (x6 + v745))), M744))))
def F_X1_nthFrom_27 (M : PM) (a1 : Int32) (a2 : Int32) : Option PR := cI (F_X1_patience_27 M) fun v747 M746 => F_X1_nthFrom_27_14 FUEL M746 a2 v747 a1
set_option maxRecDepth 100000 in
theorem S_X1_nthFrom_27_103 {l : Launch} (hl : l.stackTraces = false) {k14 : PM → Int32 → Int32 → Int32 → Option PR} (hk14 : ∀ {M : PM} {x3 : Int32} {x4 : Int32} {x6 : Int32} {r : PR}, k14 M x3 x4 x6 = some r → PW l 3 Y_X1_nthFrom k_X1_nthFrom_14 [vR 27, jk, jk, vI x3, vI x4, jk, vI x6, jk, jk, jk] [] M r) {M : PM} {x3 : Int32} {x5 : Int32} {x6 : Int32} {t0 : Int32} {r : PR} (h : F_X1_nthFrom_27_103 k14 M x3 x5 x6 t0 = some r) : PW l 3 Y_X1_nthFrom k_X1_nthFrom_103 [vR 27, jk, jk, vI x3, jk, vI x5, vI x6, jk, jk, jk] [vI t0] M r := by
  unfold F_X1_nthFrom_27_103 at h
  refine p_istore (Nat.le_of_ble_eq_true rfl) rfl ?_
  refine p_iload rfl ?_
  refine p_iload rfl ?_
  refine p_iadd ?_
  have h := lt_h h
  refine p_istore (Nat.le_of_ble_eq_true rfl) rfl ?_
  refine p_goto 9 rfl rfl ?_
  exact p_fg (hk14 h) ⟨Or.inr rfl, Or.inl rfl, Or.inl rfl, Or.inr rfl, Or.inr rfl, Or.inl rfl, Or.inr rfl, Or.inl rfl, Or.inl rfl, Or.inl rfl, trivial⟩
set_option maxRecDepth 100000 in
theorem S_X1_nthFrom_27_14 {l : Launch} (hl : l.stackTraces = false) : ∀ (n : Nat) {M : PM} {x3 : Int32} {x4 : Int32} {x6 : Int32} {r : PR}, F_X1_nthFrom_27_14  n M x3 x4 x6 = some r → PW l 3 Y_X1_nthFrom k_X1_nthFrom_14 [vR 27, jk, jk, vI x3, vI x4, jk, vI x6, jk, jk, jk] [] M r := by
  intro n
  induction n with
  | zero => intro M x3 x4 x6 r h; exact nomatch (show (none : Option PR) = some r from h)
  | succ n ih =>
    intro M x3 x4 x6 r h
    rw [F_X1_nthFrom_27_14] at h
    refine p_iload rfl ?_
    refine p_ldc co_X1_54 ?_
    refine p_icmp_gt h 59 rfl rfl (fun _ h => ?_) (fun _ h => ?_)
    · refine p_iconst cn_m1 ?_
      exact p_iret rfl h
    · refine p_iload rfl ?_
      refine p_if_le h 59 rfl rfl (fun _ h => ?_) (fun _ h => ?_)
      · refine p_iconst cn_m1 ?_
        exact p_iret rfl h
      · refine p_aload_n rfl ?_
        refine p_getR fk_X1_19 gt_27 rfl rfl ?_
        refine p_iload rfl ?_
        refine p_cI (av := [_, _]) ⟨mok_X0_stretchFrom, Or.inl ⟨55, 3, 0, 0, _, rfl, rfl, rfl, gt_3, rfl, ins_X0_stretchFrom, Or.inr lk_X1_55⟩⟩ (Nat.le_of_ble_eq_true rfl) (Nat.le_of_ble_eq_true rfl) rfl (fun _ h => pc_X0_stretchFrom_3 hl h) h (fun v731 M730 h => ?_)
        refine p_istore (Nat.le_of_ble_eq_true rfl) rfl ?_
        refine p_aload_n rfl ?_
        refine p_aload_n rfl ?_
        refine p_getR fk_X1_19 gt_27 rfl rfl ?_
        refine p_iload rfl ?_
        refine p_cI (av := [_, _]) ⟨mok_X0_turnsOn, Or.inl ⟨59, 3, 0, 0, _, rfl, rfl, rfl, gt_3, rfl, ins_X0_turnsOn, Or.inr lk_X1_59⟩⟩ (Nat.le_of_ble_eq_true rfl) (Nat.le_of_ble_eq_true rfl) rfl (fun _ h => pc_X0_turnsOn_3 hl h) h (fun v733 M732 h => ?_)
        refine p_cJ (av := [_, _]) ⟨mok_X1_daysFrom, Or.inl ⟨62, 27, 1, 0, _, rfl, rfl, rfl, gt_27, rfl, ins_X1_daysFrom, Or.inl lk_X1_62⟩⟩ (Nat.le_of_ble_eq_true rfl) (Nat.le_of_ble_eq_true rfl) rfl (fun _ h => pc_X1_daysFrom_27 hl h) h (fun v735 M734 h => ?_)
        refine p_iload rfl ?_
        refine p_cJ (av := [_]) ⟨mok_X10_low, Or.inr ⟨66, rfl, rfl, sta_X10_low, Or.inr lk_X1_66⟩⟩ (Nat.le_of_ble_eq_true rfl) (Nat.le_of_ble_eq_true rfl) rfl (fun _ h => pc_X10_low hl h) h (fun v737 M736 h => ?_)
        refine p_land ?_
        have h := lt_h h
        refine p_lstore (Nat.le_of_ble_eq_true rfl) rfl ?_
        refine p_lload rfl ?_
        refine p_cI (av := [_]) ⟨mok_J13_bitCount_95d88, Or.inr ⟨69, rfl, rfl, sta_J13_bitCount_95d88, Or.inl lk_X1_69⟩⟩ (Nat.le_of_ble_eq_true rfl) (Nat.le_of_ble_eq_true rfl) rfl (fun _ h => pc_J13_bitCount_95d88 hl h) h (fun v740 M739 h => ?_)
        refine p_istore (Nat.le_of_ble_eq_true rfl) rfl ?_
        refine p_iload rfl ?_
        refine p_iload_n rfl ?_
        refine p_icmp_lt h 41 rfl rfl (fun _ h => ?_) (fun _ h => ?_)
        · refine p_iload_n rfl ?_
          refine p_iload rfl ?_
          refine p_isub ?_
          have h := lt_h h
          refine p_istore_n (Nat.le_of_ble_eq_true rfl) rfl ?_
          refine p_iload rfl ?_
          refine p_if_le h 50 rfl rfl (fun _ h => ?_) (fun _ h => ?_)
          · refine p_iload rfl ?_
            refine p_iload rfl ?_
            refine p_isub ?_
            exact p_fg (S_X1_nthFrom_27_103 hl (fun h => ih h) h) ⟨Or.inr rfl, Or.inl rfl, Or.inl rfl, Or.inr rfl, Or.inl rfl, Or.inr rfl, Or.inr rfl, Or.inl rfl, Or.inl rfl, Or.inl rfl, trivial⟩
          · refine p_aload_n rfl ?_
            refine p_cI (av := [_]) ⟨mok_X1_patience, Or.inl ⟨50, 27, 1, 0, _, rfl, rfl, rfl, gt_27, rfl, ins_X1_patience, Or.inl lk_X1_50⟩⟩ (Nat.le_of_ble_eq_true rfl) (Nat.le_of_ble_eq_true rfl) rfl (fun _ h => pc_X1_patience_27 hl h) h (fun v743 M742 h => ?_)
            refine p_goto 53 rfl rfl ?_
            exact p_fg (S_X1_nthFrom_27_103 hl (fun h => ih h) h) ⟨Or.inr rfl, Or.inl rfl, Or.inl rfl, Or.inr rfl, Or.inl rfl, Or.inr rfl, Or.inr rfl, Or.inl rfl, Or.inl rfl, Or.inl rfl, trivial⟩
        · refine p_iload rfl ?_
          refine p_lload rfl ?_
          refine p_iload_n rfl ?_
          refine p_cI (av := [_, _]) ⟨mok_X10_nthLowest, Or.inr ⟨75, rfl, rfl, sta_X10_nthLowest, Or.inr lk_X1_75⟩⟩ (Nat.le_of_ble_eq_true rfl) (Nat.le_of_ble_eq_true rfl) rfl (fun _ h => pc_X10_nthLowest hl h) h (fun v745 M744 h => ?_)
          refine p_iadd ?_
          exact p_iret rfl h
set_option maxRecDepth 100000 in
theorem S_X1_nthFrom_27 {l : Launch} (hl : l.stackTraces = false) {M : PM} {a1 : Int32} {a2 : Int32} {r : PR} (h : F_X1_nthFrom_27 M a1 a2 = some r) : PW l 3 Y_X1_nthFrom k_X1_nthFrom [vR 27, vI a1, vI a2, jk, jk, jk, jk, jk, jk, jk] [] M r := by
  unfold F_X1_nthFrom_27 at h
  refine p_iload_n rfl ?_
  refine p_istore_n (Nat.le_of_ble_eq_true rfl) rfl ?_
  refine p_aload_n rfl ?_
  refine p_cI (av := [_]) ⟨mok_X1_patience, Or.inl ⟨50, 27, 1, 0, _, rfl, rfl, rfl, gt_27, rfl, ins_X1_patience, Or.inl lk_X1_50⟩⟩ (Nat.le_of_ble_eq_true rfl) (Nat.le_of_ble_eq_true rfl) rfl (fun _ h => pc_X1_patience_27 hl h) h (fun v747 M746 h => ?_)
  refine p_istore (Nat.le_of_ble_eq_true rfl) rfl ?_
  refine p_iconst cn_1 ?_
  refine p_istore (Nat.le_of_ble_eq_true rfl) rfl ?_
  refine p_iload_n rfl ?_
  refine p_istore (Nat.le_of_ble_eq_true rfl) rfl ?_
  exact p_fg (S_X1_nthFrom_27_14 hl FUEL h) ⟨Or.inr rfl, Or.inl rfl, Or.inl rfl, Or.inr rfl, Or.inr rfl, Or.inl rfl, Or.inr rfl, Or.inl rfl, Or.inl rfl, Or.inl rfl, trivial⟩
set_option maxRecDepth 100000 in
theorem pc_X1_nthFrom_27 {l : Launch} (hl : l.stackTraces = false) {M : PM} {a1 : Int32} {a2 : Int32} {r : PR} (h : F_X1_nthFrom_27 M a1 a2 = some r) : PC l 3 Y_X1_nthFrom [vR 27, vI a1, vI a2] M r := pc_of hl (by decide +kernel) cok_X1_nthFrom (Nat.le_of_ble_eq_true rfl) rfl (S_X1_nthFrom_27 hl  h) rfl
def F_X9_endOf_89 (M : PM) (a1 : Int32) (a2 : Int32) : Option PR := cI (F_X9_isWork_89 M a1) fun v749 M748 => (if v749 = 0 then some (.inl (some (.int (-1))), M748) else if ixOK a1 8 = true then cV (F_X1_bar_27 M748 (mA M748 26 a1.toNatClampNeg) 0) fun M750 => if ixOK a1 8 = true then cI (F_X1_nthFrom_27 M750 a2 (mA M750 25 a1.toNatClampNeg)) fun v752 M751 => some (.inl (some (.int v752)), M751) else none else none)
set_option maxRecDepth 100000 in
theorem S_X9_endOf_89 {l : Launch} (hl : l.stackTraces = false) {M : PM} {a1 : Int32} {a2 : Int32} {r : PR} (h : F_X9_endOf_89 M a1 a2 = some r) : PW l 4 Y_X9_endOf k_X9_endOf [vR 89, vI a1, vI a2] [] M r := by
  unfold F_X9_endOf_89 at h
  refine p_aload_n rfl ?_
  refine p_iload_n rfl ?_
  refine p_cI (av := [_, _]) ⟨mok_X9_isWork, Or.inl ⟨35, 89, 9, 0, _, rfl, rfl, rfl, gt_89, rfl, ins_X9_isWork, Or.inl lk_X9_35⟩⟩ (Nat.le_of_ble_eq_true rfl) (Nat.le_of_ble_eq_true rfl) rfl (fun _ h => pc_X9_isWork_89 hl h) h (fun v749 M748 h => ?_)
  refine p_if_ne h 6 rfl rfl (fun _ h => ?_) (fun _ h => ?_)
  · refine p_iconst cn_m1 ?_
    exact p_iret rfl h
  · refine p_aload_n rfl ?_
    refine p_getR fk_X9_21 gt_89 rfl rfl ?_
    refine p_aload_n rfl ?_
    refine p_getR fk_X9_25 gt_89 rfl rfl ?_
    refine p_getR fk_X9_39 gt_16 rfl rfl ?_
    refine p_iload_n rfl ?_
    refine p_iald gt_26 h (fun h => ?_)
    refine p_iconst cn_0 ?_
    refine p_cV (av := [_, _, _]) ⟨mok_X1_bar, Or.inl ⟨42, 27, 1, 0, _, rfl, rfl, rfl, gt_27, rfl, ins_X1_bar, Or.inr lk_X9_42⟩⟩ (Nat.le_of_ble_eq_true rfl) (Nat.le_of_ble_eq_true rfl) rfl (fun _ h => pc_X1_bar_27 hl h) h (fun M750 h => ?_)
    refine p_aload_n rfl ?_
    refine p_getR fk_X9_21 gt_89 rfl rfl ?_
    refine p_iload_n rfl ?_
    refine p_aload_n rfl ?_
    refine p_getR fk_X9_25 gt_89 rfl rfl ?_
    refine p_getR fk_X9_48 gt_16 rfl rfl ?_
    refine p_iload_n rfl ?_
    refine p_iald gt_25 h (fun h => ?_)
    refine p_cI (av := [_, _, _]) ⟨mok_X1_nthFrom, Or.inl ⟨51, 27, 1, 0, _, rfl, rfl, rfl, gt_27, rfl, ins_X1_nthFrom, Or.inr lk_X9_51⟩⟩ (Nat.le_of_ble_eq_true rfl) (Nat.le_of_ble_eq_true rfl) rfl (fun _ h => pc_X1_nthFrom_27 hl h) h (fun v752 M751 h => ?_)
    exact p_iret rfl h
set_option maxRecDepth 100000 in
theorem pc_X9_endOf_89 {l : Launch} (hl : l.stackTraces = false) {M : PM} {a1 : Int32} {a2 : Int32} {r : PR} (h : F_X9_endOf_89 M a1 a2 = some r) : PC l 4 Y_X9_endOf [vR 89, vI a1, vI a2] M r := pc_of hl (by decide +kernel) cok_X9_endOf (Nat.le_of_ble_eq_true rfl) rfl (S_X9_endOf_89 hl  h) rfl
def F_X10_done_0 (M : PM) (a1 : Int32) (a2 : Int32) : Option PR := bV (F_X10_needDay_0 M a2) fun M753 => bV (F_X10_needWork_0 M753 a1) fun M754 => cI (F_X9_endOf_89 M754 a1 a2) fun v756 M755 => some (.inl (some (.int v756)), M755)
set_option maxRecDepth 100000 in
theorem S_X10_done_0 {l : Launch} (hl : l.stackTraces = false) {M : PM} {a1 : Int32} {a2 : Int32} {r : PR} (h : F_X10_done_0 M a1 a2 = some r) : PW l 8 Y_X10_done k_X10_done [vR 0, vI a1, vI a2] [] M r := by
  unfold F_X10_done_0 at h
  refine p_aload_n rfl ?_
  refine p_iload_n rfl ?_
  refine p_bV mok_X10_needDay rfl gt_0 rfl ins_X10_needDay lk_X10_182 (Nat.le_of_ble_eq_true rfl) (Nat.le_of_ble_eq_true rfl) rfl (fun _ h => pc_X10_needDay_0 hl h) h (fun M753 h => ?_)
  refine p_aload_n rfl ?_
  refine p_iload_n rfl ?_
  refine p_bV mok_X10_needWork rfl gt_0 rfl ins_X10_needWork lk_X10_313 (Nat.le_of_ble_eq_true rfl) (Nat.le_of_ble_eq_true rfl) rfl (fun _ h => pc_X10_needWork_0 hl h) h (fun M754 h => ?_)
  refine p_aload_n rfl ?_
  refine p_getR fk_X10_72 gt_0 rfl rfl ?_
  refine p_iload_n rfl ?_
  refine p_iload_n rfl ?_
  refine p_cI (av := [_, _, _]) ⟨mok_X9_endOf, Or.inl ⟨316, 89, 9, 0, _, rfl, rfl, rfl, gt_89, rfl, ins_X9_endOf, Or.inr lk_X10_316⟩⟩ (Nat.le_of_ble_eq_true rfl) (Nat.le_of_ble_eq_true rfl) rfl (fun _ h => pc_X9_endOf_89 hl h) h (fun v756 M755 h => ?_)
  exact p_iret rfl h
set_option maxRecDepth 100000 in
theorem pc_X10_done_0 {l : Launch} (hl : l.stackTraces = false) {M : PM} {a1 : Int32} {a2 : Int32} {r : PR} (h : F_X10_done_0 M a1 a2 = some r) : PC l 8 Y_X10_done [vR 0, vI a1, vI a2] M r := pc_of hl (by decide +kernel) cok_X10_done (Nat.le_of_ble_eq_true rfl) rfl (S_X10_done_0 hl  h) rfl
def F_X1_walkFrom_27 (M : PM) (a1 : Int32) : Option PR := some (.inl none, sJ (sI (sI M 27 5 a1) 27 6 a1) 27 7 (0 : Int64))
set_option maxRecDepth 100000 in
theorem S_X1_walkFrom_27 {l : Launch} (hl : l.stackTraces = false) {M : PM} {a1 : Int32} {r : PR} (h : F_X1_walkFrom_27 M a1 = some r) : PW l 0 Y_X1_walkFrom k_X1_walkFrom [vR 27, vI a1] [] M r := by
  unfold F_X1_walkFrom_27 at h
  refine p_aload_n rfl ?_
  refine p_iload_n rfl ?_
  refine p_putI fk_X1_79 gt_27 rfl ?_
  refine p_aload_n rfl ?_
  refine p_iload_n rfl ?_
  refine p_putI fk_X1_82 gt_27 rfl ?_
  refine p_aload_n rfl ?_
  refine p_lconst cl_0 ?_
  refine p_putJ fk_X1_85 gt_27 rfl ?_
  exact p_ret rfl h
set_option maxRecDepth 100000 in
theorem pc_X1_walkFrom_27 {l : Launch} (hl : l.stackTraces = false) {M : PM} {a1 : Int32} {r : PR} (h : F_X1_walkFrom_27 M a1 = some r) : PC l 0 Y_X1_walkFrom [vR 27, vI a1] M r := pc_of hl (by decide +kernel) cok_X1_walkFrom (Nat.le_of_ble_eq_true rfl) rfl (S_X1_walkFrom_27 hl  h) rfl
def F_X1_walkOn_27_90 (M : PM)  : Option PR := (if lg_cmp (mJ M 27 7) (0 : Int64) = 0 then some (.inl (some (.int (-1))), M) else cI (F_X10_lowest M (mJ M 27 7)) fun v758 M757 => lt ((mI M 27 5) + v758) fun y759 => some (.inl (some (.int y759)), sJ M757 27 7 ((mJ M757 27 7) &&& ((mJ M757 27 7) - (1 : Int64)))))
def F_X1_walkOn_27_7 : Nat → PM → Int32 → Option PR
  | 0, _, _ => none
  | n + 1, M, x2 => (if lg_cmp (mJ M 27 7) (0 : Int64) = 0 then (if 999999999 < mI M 27 6 then F_X1_walkOn_27_90 M else (if x2 ≤ 0 then F_X1_walkOn_27_90 M else cI (F_X0_stretchFrom_3 M (mI M 27 6)) fun v761 M760 => cI (F_X0_turnsOn_3 (sI M760 27 5 (mI M760 27 6)) (mI (sI M760 27 5 (mI M760 27 6)) 27 5)) fun v763 M762 => cJ (F_X1_daysFrom_27 M762 v763) fun v765 M764 => cJ (F_X10_low M764 v761) fun v767 M766 => lt (x2 - v761) fun y768 => F_X1_walkOn_27_7 n (sI (sJ M766 27 7 (v765 &&& v767)) 27 6 ((mI (sJ M766 27 7 (v765 &&& v767)) 27 5) + v761)) y768)) else F_X1_walkOn_27_90 M)
def F_X1_walkOn_27 (M : PM)  : Option PR := cI (F_X1_patience_27 M) fun v770 M769 => F_X1_walkOn_27_7 FUEL M769 v770
set_option maxRecDepth 100000 in
theorem S_X1_walkOn_27_90 {l : Launch} (hl : l.stackTraces = false) {M : PM}  {r : PR} (h : F_X1_walkOn_27_90  M  = some r) : PW l 3 Y_X1_walkOn k_X1_walkOn_90 [vR 27, jk, jk, jk] [] M r := by
  unfold F_X1_walkOn_27_90 at h
  refine p_aload_n rfl ?_
  refine p_getJ fk_X1_85 gt_27 rfl ?_
  refine p_lconst cl_0 ?_
  refine p_lcmp ?_
  refine p_if_ne h 56 rfl rfl (fun _ h => ?_) (fun _ h => ?_)
  · refine p_iconst cn_m1 ?_
    exact p_iret rfl h
  · refine p_aload_n rfl ?_
    refine p_getI fk_X1_79 gt_27 rfl ?_
    refine p_aload_n rfl ?_
    refine p_getJ fk_X1_85 gt_27 rfl ?_
    refine p_cI (av := [_]) ⟨mok_X10_lowest, Or.inr ⟨89, rfl, rfl, sta_X10_lowest, Or.inr lk_X1_89⟩⟩ (Nat.le_of_ble_eq_true rfl) (Nat.le_of_ble_eq_true rfl) rfl (fun _ h => pc_X10_lowest hl h) h (fun v758 M757 h => ?_)
    refine p_iadd ?_
    have h := lt_h h
    refine p_istore_n (Nat.le_of_ble_eq_true rfl) rfl ?_
    refine p_aload_n rfl ?_
    refine p_dup rfl ?_
    refine p_getJ fk_X1_85 gt_27 rfl ?_
    refine p_aload_n rfl ?_
    refine p_getJ fk_X1_85 gt_27 rfl ?_
    refine p_lconst cl_1 ?_
    refine p_lsub ?_
    refine p_land ?_
    refine p_putJ fk_X1_85 gt_27 rfl ?_
    refine p_iload_n rfl ?_
    exact p_iret rfl h
set_option maxRecDepth 100000 in
theorem S_X1_walkOn_27_7 {l : Launch} (hl : l.stackTraces = false) : ∀ (n : Nat) {M : PM} {x2 : Int32} {r : PR}, F_X1_walkOn_27_7  n M x2 = some r → PW l 3 Y_X1_walkOn k_X1_walkOn_7 [vR 27, jk, vI x2, jk] [] M r := by
  intro n
  induction n with
  | zero => intro M x2 r h; exact nomatch (show (none : Option PR) = some r from h)
  | succ n ih =>
    intro M x2 r h
    rw [F_X1_walkOn_27_7] at h
    refine p_aload_n rfl ?_
    refine p_getJ fk_X1_85 gt_27 rfl ?_
    refine p_lconst cl_0 ?_
    refine p_lcmp ?_
    refine p_if_ne h 49 rfl rfl (fun _ h => ?_) (fun _ h => ?_)
    · refine p_aload_n rfl ?_
      refine p_getI fk_X1_82 gt_27 rfl ?_
      refine p_ldc co_X1_54 ?_
      refine p_icmp_gt h 49 rfl rfl (fun _ h => ?_) (fun _ h => ?_)
      · exact p_fg (S_X1_walkOn_27_90 hl h) ⟨Or.inr rfl, Or.inl rfl, Or.inl rfl, Or.inl rfl, trivial⟩
      · refine p_iload_n rfl ?_
        refine p_if_le h 49 rfl rfl (fun _ h => ?_) (fun _ h => ?_)
        · exact p_fg (S_X1_walkOn_27_90 hl h) ⟨Or.inr rfl, Or.inl rfl, Or.inl rfl, Or.inl rfl, trivial⟩
        · refine p_aload_n rfl ?_
          refine p_getR fk_X1_19 gt_27 rfl rfl ?_
          refine p_aload_n rfl ?_
          refine p_getI fk_X1_82 gt_27 rfl ?_
          refine p_cI (av := [_, _]) ⟨mok_X0_stretchFrom, Or.inl ⟨55, 3, 0, 0, _, rfl, rfl, rfl, gt_3, rfl, ins_X0_stretchFrom, Or.inr lk_X1_55⟩⟩ (Nat.le_of_ble_eq_true rfl) (Nat.le_of_ble_eq_true rfl) rfl (fun _ h => pc_X0_stretchFrom_3 hl h) h (fun v761 M760 h => ?_)
          refine p_istore_n (Nat.le_of_ble_eq_true rfl) rfl ?_
          refine p_aload_n rfl ?_
          refine p_aload_n rfl ?_
          refine p_getI fk_X1_82 gt_27 rfl ?_
          refine p_putI fk_X1_79 gt_27 rfl ?_
          refine p_aload_n rfl ?_
          refine p_aload_n rfl ?_
          refine p_aload_n rfl ?_
          refine p_getR fk_X1_19 gt_27 rfl rfl ?_
          refine p_aload_n rfl ?_
          refine p_getI fk_X1_79 gt_27 rfl ?_
          refine p_cI (av := [_, _]) ⟨mok_X0_turnsOn, Or.inl ⟨59, 3, 0, 0, _, rfl, rfl, rfl, gt_3, rfl, ins_X0_turnsOn, Or.inr lk_X1_59⟩⟩ (Nat.le_of_ble_eq_true rfl) (Nat.le_of_ble_eq_true rfl) rfl (fun _ h => pc_X0_turnsOn_3 hl h) h (fun v763 M762 h => ?_)
          refine p_cJ (av := [_, _]) ⟨mok_X1_daysFrom, Or.inl ⟨62, 27, 1, 0, _, rfl, rfl, rfl, gt_27, rfl, ins_X1_daysFrom, Or.inl lk_X1_62⟩⟩ (Nat.le_of_ble_eq_true rfl) (Nat.le_of_ble_eq_true rfl) rfl (fun _ h => pc_X1_daysFrom_27 hl h) h (fun v765 M764 h => ?_)
          refine p_iload_n rfl ?_
          refine p_cJ (av := [_]) ⟨mok_X10_low, Or.inr ⟨66, rfl, rfl, sta_X10_low, Or.inr lk_X1_66⟩⟩ (Nat.le_of_ble_eq_true rfl) (Nat.le_of_ble_eq_true rfl) rfl (fun _ h => pc_X10_low hl h) h (fun v767 M766 h => ?_)
          refine p_land ?_
          refine p_putJ fk_X1_85 gt_27 rfl ?_
          refine p_aload_n rfl ?_
          refine p_aload_n rfl ?_
          refine p_getI fk_X1_79 gt_27 rfl ?_
          refine p_iload_n rfl ?_
          refine p_iadd ?_
          refine p_putI fk_X1_82 gt_27 rfl ?_
          refine p_iload_n rfl ?_
          refine p_iload_n rfl ?_
          refine p_isub ?_
          have h := lt_h h
          refine p_istore_n (Nat.le_of_ble_eq_true rfl) rfl ?_
          refine p_goto 5 rfl rfl ?_
          exact p_fg (ih h) ⟨Or.inr rfl, Or.inl rfl, Or.inr rfl, Or.inl rfl, trivial⟩
    · exact p_fg (S_X1_walkOn_27_90 hl h) ⟨Or.inr rfl, Or.inl rfl, Or.inl rfl, Or.inl rfl, trivial⟩
set_option maxRecDepth 100000 in
theorem S_X1_walkOn_27 {l : Launch} (hl : l.stackTraces = false) {M : PM}  {r : PR} (h : F_X1_walkOn_27 M  = some r) : PW l 3 Y_X1_walkOn k_X1_walkOn [vR 27, jk, jk, jk] [] M r := by
  unfold F_X1_walkOn_27 at h
  refine p_iconst cn_1 ?_
  refine p_istore_n (Nat.le_of_ble_eq_true rfl) rfl ?_
  refine p_aload_n rfl ?_
  refine p_cI (av := [_]) ⟨mok_X1_patience, Or.inl ⟨50, 27, 1, 0, _, rfl, rfl, rfl, gt_27, rfl, ins_X1_patience, Or.inl lk_X1_50⟩⟩ (Nat.le_of_ble_eq_true rfl) (Nat.le_of_ble_eq_true rfl) rfl (fun _ h => pc_X1_patience_27 hl h) h (fun v770 M769 h => ?_)
  refine p_istore_n (Nat.le_of_ble_eq_true rfl) rfl ?_
  exact p_fg (S_X1_walkOn_27_7 hl FUEL h) ⟨Or.inr rfl, Or.inl rfl, Or.inr rfl, Or.inl rfl, trivial⟩
set_option maxRecDepth 100000 in
theorem pc_X1_walkOn_27 {l : Launch} (hl : l.stackTraces = false) {M : PM}  {r : PR} (h : F_X1_walkOn_27 M  = some r) : PC l 3 Y_X1_walkOn [vR 27] M r := pc_of hl (by decide +kernel) cok_X1_walkOn (Nat.le_of_ble_eq_true rfl) rfl (S_X1_walkOn_27 hl  h) rfl
def F_X9_bestBegin_89_181 (k56 : PM → Int32 → Int32 → Int32 → Int32 → Int32 → Option PR) (M : PM) (x3 : Int32) (x4 : Int32) (x5 : Int32) (x6 : Int32) (x7 : Int32) : Option PR := lt (x7 + 1) fun y771 => k56 M x3 x4 x5 x6 y771
def F_X9_bestBegin_89_165 (k56 : PM → Int32 → Int32 → Int32 → Int32 → Int32 → Option PR) (M : PM) (x3 : Int32) (x4 : Int32) (x5 : Int32) (x6 : Int32) (x7 : Int32) (x9 : Int32) : Option PR := (if x3 < x9 then some (.inl (some (.int x5)), M) else (if x6 = x4 then some (.inl (some (.int x5)), M) else F_X9_bestBegin_89_181 k56 M x3 x4 x5 x6 x7))
def F_X9_bestBegin_89_56 : Nat → PM → Int32 → Int32 → Int32 → Int32 → Int32 → Option PR
  | 0, _, _, _, _, _, _ => none
  | n + 1, M, x3, x4, x5, x6, x7 => (if 100060 < x7 then some (.inl (some (.int x5)), M) else cI (F_X1_walkOn_27 M) fun v773 M772 => (if v773 = (-1) then some (.inl (some (.int x5)), M772) else (if x4 < 1 then some (.inl (some (.int x5)), M772) else (if x4 ≤ 60 then if x4 = 0 then none else if ixOK (x7 - x7 / x4 * x4) 60 = true then (if x7 < x4 - 1 then F_X9_bestBegin_89_181 (F_X9_bestBegin_89_56 n) (sA M772 92 (x7 - x7 / x4 * x4).toNatClampNeg v773) x3 x4 x5 x6 x7 else if x4 = 0 then none else if ixOK ((x7 + 1) - (x7 + 1) / x4 * x4) 60 = true then lt (mA (sA M772 92 (x7 - x7 / x4 * x4).toNatClampNeg v773) 92 ((x7 + 1) - (x7 + 1) / x4 * x4).toNatClampNeg) fun y774 => cI (F_J9_min_7cf53 (sA M772 92 (x7 - x7 / x4 * x4).toNatClampNeg v773) y774 x3) fun v776 M775 => (if x6 ≤ (v773 - v776) + 1 then F_X9_bestBegin_89_165 (F_X9_bestBegin_89_56 n) M775 x3 x4 x5 x6 x7 y774 else lt ((v773 - v776) + 1) fun y777 => F_X9_bestBegin_89_165 (F_X9_bestBegin_89_56 n) M775 x3 x4 v776 y777 x7 y774) else none) else none else some (.inl (some (.int x5)), M772)))))
def F_X9_bestBegin_89 (M : PM) (a1 : Int32) (a2 : Int32) (a3 : Int32) : Option PR := cI (F_X9_isWork_89 M a1) fun v779 M778 => (if v779 = 0 then some (.inl (some (.int (-1))), M778) else if ixOK a1 8 = true then lt (mA M778 25 a1.toNatClampNeg) fun y780 => if ixOK a1 8 = true then cV (F_X1_bar_27 M778 (mA M778 26 a1.toNatClampNeg) 0) fun M781 => cV (F_X1_walkFrom_27 M781 a2) fun M782 => F_X9_bestBegin_89_56 FUEL M782 a3 y780 (-1) 1000000001 0 else none else none)
set_option maxRecDepth 100000 in
theorem S_X9_bestBegin_89_181 {l : Launch} (hl : l.stackTraces = false) {k56 : PM → Int32 → Int32 → Int32 → Int32 → Int32 → Option PR} (hk56 : ∀ {M : PM} {x3 : Int32} {x4 : Int32} {x5 : Int32} {x6 : Int32} {x7 : Int32} {r : PR}, k56 M x3 x4 x5 x6 x7 = some r → PW l 4 Y_X9_bestBegin k_X9_bestBegin_56 [vR 89, jk, jk, vI x3, vI x4, vI x5, vI x6, vI x7, jk, jk, jk] [] M r) {M : PM} {x3 : Int32} {x4 : Int32} {x5 : Int32} {x6 : Int32} {x7 : Int32} {r : PR} (h : F_X9_bestBegin_89_181 k56 M x3 x4 x5 x6 x7 = some r) : PW l 4 Y_X9_bestBegin k_X9_bestBegin_181 [vR 89, jk, jk, vI x3, vI x4, vI x5, vI x6, vI x7, jk, jk, jk] [] M r := by
  unfold F_X9_bestBegin_89_181 at h
  have h := lt_h h
  refine p_iinc (Nat.le_of_ble_eq_true rfl) rfl (ci_1 _) rfl ?_
  refine p_goto 31 rfl rfl ?_
  exact p_fg (hk56 h) ⟨Or.inr rfl, Or.inl rfl, Or.inl rfl, Or.inr rfl, Or.inr rfl, Or.inr rfl, Or.inr rfl, Or.inr rfl, Or.inl rfl, Or.inl rfl, Or.inl rfl, trivial⟩
set_option maxRecDepth 100000 in
theorem S_X9_bestBegin_89_165 {l : Launch} (hl : l.stackTraces = false) {k56 : PM → Int32 → Int32 → Int32 → Int32 → Int32 → Option PR} (hk56 : ∀ {M : PM} {x3 : Int32} {x4 : Int32} {x5 : Int32} {x6 : Int32} {x7 : Int32} {r : PR}, k56 M x3 x4 x5 x6 x7 = some r → PW l 4 Y_X9_bestBegin k_X9_bestBegin_56 [vR 89, jk, jk, vI x3, vI x4, vI x5, vI x6, vI x7, jk, jk, jk] [] M r) {M : PM} {x3 : Int32} {x4 : Int32} {x5 : Int32} {x6 : Int32} {x7 : Int32} {x9 : Int32} {r : PR} (h : F_X9_bestBegin_89_165 k56 M x3 x4 x5 x6 x7 x9 = some r) : PW l 4 Y_X9_bestBegin k_X9_bestBegin_165 [vR 89, jk, jk, vI x3, vI x4, vI x5, vI x6, vI x7, jk, vI x9, jk] [] M r := by
  unfold F_X9_bestBegin_89_165 at h
  refine p_iload rfl ?_
  refine p_iload_n rfl ?_
  refine p_icmp_gt h 97 rfl rfl (fun _ h => ?_) (fun _ h => ?_)
  · refine p_iload rfl ?_
    exact p_iret rfl h
  · refine p_iload rfl ?_
    refine p_iload rfl ?_
    refine p_icmp_ne h 99 rfl rfl (fun _ h => ?_) (fun _ h => ?_)
    · refine p_iload rfl ?_
      exact p_iret rfl h
    · exact p_fg (S_X9_bestBegin_89_181 hl hk56 h) ⟨Or.inr rfl, Or.inl rfl, Or.inl rfl, Or.inr rfl, Or.inr rfl, Or.inr rfl, Or.inr rfl, Or.inr rfl, Or.inl rfl, Or.inl rfl, Or.inl rfl, trivial⟩
set_option maxRecDepth 100000 in
theorem S_X9_bestBegin_89_56 {l : Launch} (hl : l.stackTraces = false) : ∀ (n : Nat) {M : PM} {x3 : Int32} {x4 : Int32} {x5 : Int32} {x6 : Int32} {x7 : Int32} {r : PR}, F_X9_bestBegin_89_56  n M x3 x4 x5 x6 x7 = some r → PW l 4 Y_X9_bestBegin k_X9_bestBegin_56 [vR 89, jk, jk, vI x3, vI x4, vI x5, vI x6, vI x7, jk, jk, jk] [] M r := by
  intro n
  induction n with
  | zero => intro M x3 x4 x5 x6 x7 r h; exact nomatch (show (none : Option PR) = some r from h)
  | succ n ih =>
    intro M x3 x4 x5 x6 x7 r h
    rw [F_X9_bestBegin_89_56] at h
    refine p_iload rfl ?_
    refine p_ldc co_X9_64 ?_
    refine p_icmp_gt h 101 rfl rfl (fun _ h => ?_) (fun _ h => ?_)
    · refine p_iload rfl ?_
      exact p_iret rfl h
    · refine p_aload_n rfl ?_
      refine p_getR fk_X9_21 gt_89 rfl rfl ?_
      refine p_cI (av := [_]) ⟨mok_X1_walkOn, Or.inl ⟨65, 27, 1, 0, _, rfl, rfl, rfl, gt_27, rfl, ins_X1_walkOn, Or.inr lk_X9_65⟩⟩ (Nat.le_of_ble_eq_true rfl) (Nat.le_of_ble_eq_true rfl) rfl (fun _ h => pc_X1_walkOn_27 hl h) h (fun v773 M772 h => ?_)
      refine p_istore (Nat.le_of_ble_eq_true rfl) rfl ?_
      refine p_iload rfl ?_
      refine p_iconst cn_m1 ?_
      refine p_icmp_eq h 49 rfl rfl (fun _ h => ?_) (fun _ h => ?_)
      · refine p_iload rfl ?_
        exact p_iret rfl h
      · refine p_iload rfl ?_
        refine p_iconst cn_1 ?_
        refine p_icmp_lt h 49 rfl rfl (fun _ h => ?_) (fun _ h => ?_)
        · refine p_iload rfl ?_
          exact p_iret rfl h
        · refine p_iload rfl ?_
          refine p_aload_n rfl ?_
          refine p_getR fk_X9_18 gt_89 rfl rfl ?_
          refine p_alen gt_92 (by simp) al_60 ?_
          refine p_icmp_le h 51 rfl rfl (fun _ h => ?_) (fun _ h => ?_)
          · refine p_aload_n rfl ?_
            refine p_getR fk_X9_18 gt_89 rfl rfl ?_
            refine p_iload rfl ?_
            refine p_iload rfl ?_
            refine p_irem h (fun h => ?_)
            refine p_iload rfl ?_
            refine p_iast gt_92 h (fun h => ?_)
            refine p_iload rfl ?_
            refine p_iload rfl ?_
            refine p_iconst cn_1 ?_
            refine p_isub ?_
            refine p_icmp_lt h 99 rfl rfl (fun _ h => ?_) (fun _ h => ?_)
            · exact p_fg (S_X9_bestBegin_89_181 hl (fun h => ih h) h) ⟨Or.inr rfl, Or.inl rfl, Or.inl rfl, Or.inr rfl, Or.inr rfl, Or.inr rfl, Or.inr rfl, Or.inr rfl, Or.inl rfl, Or.inl rfl, Or.inl rfl, trivial⟩
            · refine p_aload_n rfl ?_
              refine p_getR fk_X9_18 gt_89 rfl rfl ?_
              refine p_iload rfl ?_
              refine p_iconst cn_1 ?_
              refine p_iadd ?_
              refine p_iload rfl ?_
              refine p_irem h (fun h => ?_)
              refine p_iald gt_92 h (fun h => ?_)
              have h := lt_h h
              refine p_istore (Nat.le_of_ble_eq_true rfl) rfl ?_
              refine p_iload rfl ?_
              refine p_iload_n rfl ?_
              refine p_cI (av := [_, _]) ⟨mok_J9_min_7cf53, Or.inr ⟨69, rfl, rfl, sta_J9_min_7cf53, Or.inl lk_X9_69⟩⟩ (Nat.le_of_ble_eq_true rfl) (Nat.le_of_ble_eq_true rfl) rfl (fun _ h => pc_J9_min_7cf53 hl h) h (fun v776 M775 h => ?_)
              refine p_istore (Nat.le_of_ble_eq_true rfl) rfl ?_
              refine p_iload rfl ?_
              refine p_iload rfl ?_
              refine p_isub ?_
              refine p_iconst cn_1 ?_
              refine p_iadd ?_
              refine p_iload rfl ?_
              refine p_icmp_ge h 91 rfl rfl (fun _ h => ?_) (fun _ h => ?_)
              · exact p_fg (S_X9_bestBegin_89_165 hl (fun h => ih h) h) ⟨Or.inr rfl, Or.inl rfl, Or.inl rfl, Or.inr rfl, Or.inr rfl, Or.inr rfl, Or.inr rfl, Or.inr rfl, Or.inl rfl, Or.inr rfl, Or.inl rfl, trivial⟩
              · refine p_iload rfl ?_
                refine p_istore (Nat.le_of_ble_eq_true rfl) rfl ?_
                refine p_iload rfl ?_
                refine p_iload rfl ?_
                refine p_isub ?_
                refine p_iconst cn_1 ?_
                refine p_iadd ?_
                have h := lt_h h
                refine p_istore (Nat.le_of_ble_eq_true rfl) rfl ?_
                exact p_fg (S_X9_bestBegin_89_165 hl (fun h => ih h) h) ⟨Or.inr rfl, Or.inl rfl, Or.inl rfl, Or.inr rfl, Or.inr rfl, Or.inr rfl, Or.inr rfl, Or.inr rfl, Or.inl rfl, Or.inr rfl, Or.inl rfl, trivial⟩
          · refine p_iload rfl ?_
            exact p_iret rfl h
set_option maxRecDepth 100000 in
theorem S_X9_bestBegin_89 {l : Launch} (hl : l.stackTraces = false) {M : PM} {a1 : Int32} {a2 : Int32} {a3 : Int32} {r : PR} (h : F_X9_bestBegin_89 M a1 a2 a3 = some r) : PW l 4 Y_X9_bestBegin k_X9_bestBegin [vR 89, vI a1, vI a2, vI a3, jk, jk, jk, jk, jk, jk, jk] [] M r := by
  unfold F_X9_bestBegin_89 at h
  refine p_aload_n rfl ?_
  refine p_iload_n rfl ?_
  refine p_cI (av := [_, _]) ⟨mok_X9_isWork, Or.inl ⟨35, 89, 9, 0, _, rfl, rfl, rfl, gt_89, rfl, ins_X9_isWork, Or.inl lk_X9_35⟩⟩ (Nat.le_of_ble_eq_true rfl) (Nat.le_of_ble_eq_true rfl) rfl (fun _ h => pc_X9_isWork_89 hl h) h (fun v779 M778 h => ?_)
  refine p_if_ne h 6 rfl rfl (fun _ h => ?_) (fun _ h => ?_)
  · refine p_iconst cn_m1 ?_
    exact p_iret rfl h
  · refine p_aload_n rfl ?_
    refine p_getR fk_X9_25 gt_89 rfl rfl ?_
    refine p_getR fk_X9_48 gt_16 rfl rfl ?_
    refine p_iload_n rfl ?_
    refine p_iald gt_25 h (fun h => ?_)
    have h := lt_h h
    refine p_istore (Nat.le_of_ble_eq_true rfl) rfl ?_
    refine p_aload_n rfl ?_
    refine p_getR fk_X9_21 gt_89 rfl rfl ?_
    refine p_aload_n rfl ?_
    refine p_getR fk_X9_25 gt_89 rfl rfl ?_
    refine p_getR fk_X9_39 gt_16 rfl rfl ?_
    refine p_iload_n rfl ?_
    refine p_iald gt_26 h (fun h => ?_)
    refine p_iconst cn_0 ?_
    refine p_cV (av := [_, _, _]) ⟨mok_X1_bar, Or.inl ⟨42, 27, 1, 0, _, rfl, rfl, rfl, gt_27, rfl, ins_X1_bar, Or.inr lk_X9_42⟩⟩ (Nat.le_of_ble_eq_true rfl) (Nat.le_of_ble_eq_true rfl) rfl (fun _ h => pc_X1_bar_27 hl h) h (fun M781 h => ?_)
    refine p_aload_n rfl ?_
    refine p_getR fk_X9_21 gt_89 rfl rfl ?_
    refine p_iload_n rfl ?_
    refine p_cV (av := [_, _]) ⟨mok_X1_walkFrom, Or.inl ⟨59, 27, 1, 0, _, rfl, rfl, rfl, gt_27, rfl, ins_X1_walkFrom, Or.inr lk_X9_59⟩⟩ (Nat.le_of_ble_eq_true rfl) (Nat.le_of_ble_eq_true rfl) rfl (fun _ h => pc_X1_walkFrom_27 hl h) h (fun M782 h => ?_)
    refine p_iconst cn_m1 ?_
    refine p_istore (Nat.le_of_ble_eq_true rfl) rfl ?_
    refine p_ldc co_X9_63 ?_
    refine p_istore (Nat.le_of_ble_eq_true rfl) rfl ?_
    refine p_iconst cn_0 ?_
    refine p_istore (Nat.le_of_ble_eq_true rfl) rfl ?_
    exact p_fg (S_X9_bestBegin_89_56 hl FUEL h) ⟨Or.inr rfl, Or.inl rfl, Or.inl rfl, Or.inr rfl, Or.inr rfl, Or.inr rfl, Or.inr rfl, Or.inr rfl, Or.inl rfl, Or.inl rfl, Or.inl rfl, trivial⟩
set_option maxRecDepth 100000 in
theorem pc_X9_bestBegin_89 {l : Launch} (hl : l.stackTraces = false) {M : PM} {a1 : Int32} {a2 : Int32} {a3 : Int32} {r : PR} (h : F_X9_bestBegin_89 M a1 a2 a3 = some r) : PC l 4 Y_X9_bestBegin [vR 89, vI a1, vI a2, vI a3] M r := pc_of hl (by decide +kernel) cok_X9_bestBegin (Nat.le_of_ble_eq_true rfl) rfl (S_X9_bestBegin_89 hl  h) rfl
def F_X10_begun_0 (M : PM) (a1 : Int32) (a2 : Int32) : Option PR := bV (F_X10_needDay_0 M a2) fun M783 => bV (F_X10_needWork_0 M783 a1) fun M784 => cI (F_J9_min_7cf53 M784 ((a2 + (mI M784 3 6)) - 1) 999999999) fun v786 M785 => cI (F_X9_bestBegin_89 M785 a1 a2 v786) fun v788 M787 => some (.inl (some (.int v788)), M787)
set_option maxRecDepth 100000 in
theorem S_X10_begun_0 {l : Launch} (hl : l.stackTraces = false) {M : PM} {a1 : Int32} {a2 : Int32} {r : PR} (h : F_X10_begun_0 M a1 a2 = some r) : PW l 8 Y_X10_begun k_X10_begun [vR 0, vI a1, vI a2] [] M r := by
  unfold F_X10_begun_0 at h
  refine p_aload_n rfl ?_
  refine p_iload_n rfl ?_
  refine p_bV mok_X10_needDay rfl gt_0 rfl ins_X10_needDay lk_X10_182 (Nat.le_of_ble_eq_true rfl) (Nat.le_of_ble_eq_true rfl) rfl (fun _ h => pc_X10_needDay_0 hl h) h (fun M783 h => ?_)
  refine p_aload_n rfl ?_
  refine p_iload_n rfl ?_
  refine p_bV mok_X10_needWork rfl gt_0 rfl ins_X10_needWork lk_X10_313 (Nat.le_of_ble_eq_true rfl) (Nat.le_of_ble_eq_true rfl) rfl (fun _ h => pc_X10_needWork_0 hl h) h (fun M784 h => ?_)
  refine p_aload_n rfl ?_
  refine p_getR fk_X10_72 gt_0 rfl rfl ?_
  refine p_iload_n rfl ?_
  refine p_iload_n rfl ?_
  refine p_iload_n rfl ?_
  refine p_aload_n rfl ?_
  refine p_getR fk_X10_27 gt_0 rfl rfl ?_
  refine p_getI fk_X10_149 gt_3 rfl ?_
  refine p_iadd ?_
  refine p_iconst cn_1 ?_
  refine p_isub ?_
  refine p_ldc_w co_X10_319 ?_
  refine p_cI (av := [_, _]) ⟨mok_J9_min_7cf53, Or.inr ⟨293, rfl, rfl, sta_J9_min_7cf53, Or.inl lk_X10_293⟩⟩ (Nat.le_of_ble_eq_true rfl) (Nat.le_of_ble_eq_true rfl) rfl (fun _ h => pc_J9_min_7cf53 hl h) h (fun v786 M785 h => ?_)
  refine p_cI (av := [_, _, _, _]) ⟨mok_X9_bestBegin, Or.inl ⟨320, 89, 9, 0, _, rfl, rfl, rfl, gt_89, rfl, ins_X9_bestBegin, Or.inr lk_X10_320⟩⟩ (Nat.le_of_ble_eq_true rfl) (Nat.le_of_ble_eq_true rfl) rfl (fun _ h => pc_X9_bestBegin_89 hl h) h (fun v788 M787 h => ?_)
  exact p_iret rfl h
set_option maxRecDepth 100000 in
theorem pc_X10_begun_0 {l : Launch} (hl : l.stackTraces = false) {M : PM} {a1 : Int32} {a2 : Int32} {r : PR} (h : F_X10_begun_0 M a1 a2 = some r) : PC l 8 Y_X10_begun [vR 0, vI a1, vI a2] M r := pc_of hl (by decide +kernel) cok_X10_begun (Nat.le_of_ble_eq_true rfl) rfl (S_X10_begun_0 hl  h) rfl
def F_X9_earliestBehind_89_84 (k4 : PM → Int32 → Int32 → Int32 → Option PR) (M : PM) (x1 : Int32) (x2 : Int32) (x3 : Int32) : Option PR := lt (x3 + 1) fun y789 => k4 M x1 x2 y789
def F_X9_earliestBehind_89_83 (k4 : PM → Int32 → Int32 → Int32 → Option PR) (M : PM) (x1 : Int32) (x3 : Int32) (t0 : Int32) : Option PR := F_X9_earliestBehind_89_84 k4 M x1 t0 x3
def F_X9_earliestBehind_89_82 (k4 : PM → Int32 → Int32 → Int32 → Option PR) (M : PM) (x1 : Int32) (x2 : Int32) (x3 : Int32) : Option PR := F_X9_earliestBehind_89_83 k4 M x1 x3 x2
def F_X9_earliestBehind_89_75 (k4 : PM → Int32 → Int32 → Int32 → Option PR) (M : PM) (x1 : Int32) (x3 : Int32) (x5 : Int32) : Option PR := F_X9_earliestBehind_89_83 k4 M x1 x3 (x5 + 1)
def F_X9_earliestBehind_89_4 : Nat → PM → Int32 → Int32 → Int32 → Option PR
  | 0, _, _, _, _ => none
  | n + 1, M, x1, x2, x3 => (if mI M 16 12 ≤ x3 then some (.inl (some (.int x2)), M) else if ixOK ((x1 &&& ((1 <<< (x3 &&& 31)) ^^^ (-1))) &&& 255) 256 = true then lt (mA M 90 ((x1 &&& ((1 <<< (x3 &&& 31)) ^^^ (-1))) &&& 255).toNatClampNeg) fun y790 => cI (F_X10_isIn M x3 x1) fun v792 M791 => (if v792 = 0 then F_X9_earliestBehind_89_84 (F_X9_earliestBehind_89_4 n) M791 x1 x2 x3 else (if y790 = (-1) then F_X9_earliestBehind_89_84 (F_X9_earliestBehind_89_4 n) M791 x1 x2 x3 else cI (F_X9_endOf_89 M791 x3 y790) fun v794 M793 => (if v794 = (-1) then F_X9_earliestBehind_89_82 (F_X9_earliestBehind_89_4 n) M793 x1 x2 x3 else (if x2 = (-1) then F_X9_earliestBehind_89_75 (F_X9_earliestBehind_89_4 n) M793 x1 x3 v794 else (if x2 ≤ v794 + 1 then F_X9_earliestBehind_89_82 (F_X9_earliestBehind_89_4 n) M793 x1 x2 x3 else F_X9_earliestBehind_89_75 (F_X9_earliestBehind_89_4 n) M793 x1 x3 v794))))) else none)
def F_X9_earliestBehind_89 (M : PM) (a1 : Int32) : Option PR := F_X9_earliestBehind_89_4 FUEL M a1 (-1) 0
set_option maxRecDepth 100000 in
theorem S_X9_earliestBehind_89_84 {l : Launch} (hl : l.stackTraces = false) {k4 : PM → Int32 → Int32 → Int32 → Option PR} (hk4 : ∀ {M : PM} {x1 : Int32} {x2 : Int32} {x3 : Int32} {r : PR}, k4 M x1 x2 x3 = some r → PW l 5 Y_X9_earliestBehind k_X9_earliestBehind_4 [vR 89, vI x1, vI x2, vI x3, jk, jk] [] M r) {M : PM} {x1 : Int32} {x2 : Int32} {x3 : Int32} {r : PR} (h : F_X9_earliestBehind_89_84 k4 M x1 x2 x3 = some r) : PW l 5 Y_X9_earliestBehind k_X9_earliestBehind_84 [vR 89, vI x1, vI x2, vI x3, jk, jk] [] M r := by
  unfold F_X9_earliestBehind_89_84 at h
  have h := lt_h h
  refine p_iinc (Nat.le_of_ble_eq_true rfl) rfl (ci_1 _) rfl ?_
  refine p_goto 4 rfl rfl ?_
  exact p_fg (hk4 h) ⟨Or.inr rfl, Or.inr rfl, Or.inr rfl, Or.inr rfl, Or.inl rfl, Or.inl rfl, trivial⟩
set_option maxRecDepth 100000 in
theorem S_X9_earliestBehind_89_83 {l : Launch} (hl : l.stackTraces = false) {k4 : PM → Int32 → Int32 → Int32 → Option PR} (hk4 : ∀ {M : PM} {x1 : Int32} {x2 : Int32} {x3 : Int32} {r : PR}, k4 M x1 x2 x3 = some r → PW l 5 Y_X9_earliestBehind k_X9_earliestBehind_4 [vR 89, vI x1, vI x2, vI x3, jk, jk] [] M r) {M : PM} {x1 : Int32} {x3 : Int32} {t0 : Int32} {r : PR} (h : F_X9_earliestBehind_89_83 k4 M x1 x3 t0 = some r) : PW l 5 Y_X9_earliestBehind k_X9_earliestBehind_83 [vR 89, vI x1, jk, vI x3, jk, jk] [vI t0] M r := by
  unfold F_X9_earliestBehind_89_83 at h
  refine p_istore_n (Nat.le_of_ble_eq_true rfl) rfl ?_
  exact p_fg (S_X9_earliestBehind_89_84 hl hk4 h) ⟨Or.inr rfl, Or.inr rfl, Or.inr rfl, Or.inr rfl, Or.inl rfl, Or.inl rfl, trivial⟩
set_option maxRecDepth 100000 in
theorem S_X9_earliestBehind_89_82 {l : Launch} (hl : l.stackTraces = false) {k4 : PM → Int32 → Int32 → Int32 → Option PR} (hk4 : ∀ {M : PM} {x1 : Int32} {x2 : Int32} {x3 : Int32} {r : PR}, k4 M x1 x2 x3 = some r → PW l 5 Y_X9_earliestBehind k_X9_earliestBehind_4 [vR 89, vI x1, vI x2, vI x3, jk, jk] [] M r) {M : PM} {x1 : Int32} {x2 : Int32} {x3 : Int32} {r : PR} (h : F_X9_earliestBehind_89_82 k4 M x1 x2 x3 = some r) : PW l 5 Y_X9_earliestBehind k_X9_earliestBehind_82 [vR 89, vI x1, vI x2, vI x3, jk, jk] [] M r := by
  unfold F_X9_earliestBehind_89_82 at h
  refine p_iload_n rfl ?_
  exact p_fg (S_X9_earliestBehind_89_83 hl hk4 h) ⟨Or.inr rfl, Or.inr rfl, Or.inl rfl, Or.inr rfl, Or.inl rfl, Or.inl rfl, trivial⟩
set_option maxRecDepth 100000 in
theorem S_X9_earliestBehind_89_75 {l : Launch} (hl : l.stackTraces = false) {k4 : PM → Int32 → Int32 → Int32 → Option PR} (hk4 : ∀ {M : PM} {x1 : Int32} {x2 : Int32} {x3 : Int32} {r : PR}, k4 M x1 x2 x3 = some r → PW l 5 Y_X9_earliestBehind k_X9_earliestBehind_4 [vR 89, vI x1, vI x2, vI x3, jk, jk] [] M r) {M : PM} {x1 : Int32} {x3 : Int32} {x5 : Int32} {r : PR} (h : F_X9_earliestBehind_89_75 k4 M x1 x3 x5 = some r) : PW l 5 Y_X9_earliestBehind k_X9_earliestBehind_75 [vR 89, vI x1, jk, vI x3, jk, vI x5] [] M r := by
  unfold F_X9_earliestBehind_89_75 at h
  refine p_iload rfl ?_
  refine p_iconst cn_1 ?_
  refine p_iadd ?_
  refine p_goto 50 rfl rfl ?_
  exact p_fg (S_X9_earliestBehind_89_83 hl hk4 h) ⟨Or.inr rfl, Or.inr rfl, Or.inl rfl, Or.inr rfl, Or.inl rfl, Or.inl rfl, trivial⟩
set_option maxRecDepth 100000 in
theorem S_X9_earliestBehind_89_4 {l : Launch} (hl : l.stackTraces = false) : ∀ (n : Nat) {M : PM} {x1 : Int32} {x2 : Int32} {x3 : Int32} {r : PR}, F_X9_earliestBehind_89_4  n M x1 x2 x3 = some r → PW l 5 Y_X9_earliestBehind k_X9_earliestBehind_4 [vR 89, vI x1, vI x2, vI x3, jk, jk] [] M r := by
  intro n
  induction n with
  | zero => intro M x1 x2 x3 r h; exact nomatch (show (none : Option PR) = some r from h)
  | succ n ih =>
    intro M x1 x2 x3 r h
    rw [F_X9_earliestBehind_89_4] at h
    refine p_iload_n rfl ?_
    refine p_aload_n rfl ?_
    refine p_getR fk_X9_25 gt_89 rfl rfl ?_
    refine p_getI fk_X9_29 gt_16 rfl ?_
    refine p_icmp_ge h 53 rfl rfl (fun _ h => ?_) (fun _ h => ?_)
    · refine p_iload_n rfl ?_
      exact p_iret rfl h
    · refine p_aload_n rfl ?_
      refine p_getR fk_X9_11 gt_89 rfl rfl ?_
      refine p_iload_n rfl ?_
      refine p_iconst cn_1 ?_
      refine p_iload_n rfl ?_
      refine p_ishl ?_
      refine p_iconst cn_m1 ?_
      refine p_ixor ?_
      refine p_iand ?_
      refine p_sipush cs_255 ?_
      refine p_iand ?_
      refine p_iald gt_90 h (fun h => ?_)
      have h := lt_h h
      refine p_istore (Nat.le_of_ble_eq_true rfl) rfl ?_
      refine p_iload_n rfl ?_
      refine p_iload_n rfl ?_
      refine p_cI (av := [_, _]) ⟨mok_X10_isIn, Or.inr ⟨81, rfl, rfl, sta_X10_isIn, Or.inr lk_X9_81⟩⟩ (Nat.le_of_ble_eq_true rfl) (Nat.le_of_ble_eq_true rfl) rfl (fun _ h => pc_X10_isIn hl h) h (fun v792 M791 h => ?_)
      refine p_if_eq h 51 rfl rfl (fun _ h => ?_) (fun _ h => ?_)
      · exact p_fg (S_X9_earliestBehind_89_84 hl (fun h => ih h) h) ⟨Or.inr rfl, Or.inr rfl, Or.inr rfl, Or.inr rfl, Or.inl rfl, Or.inl rfl, trivial⟩
      · refine p_iload rfl ?_
        refine p_iconst cn_m1 ?_
        refine p_icmp_eq h 51 rfl rfl (fun _ h => ?_) (fun _ h => ?_)
        · exact p_fg (S_X9_earliestBehind_89_84 hl (fun h => ih h) h) ⟨Or.inr rfl, Or.inr rfl, Or.inr rfl, Or.inr rfl, Or.inl rfl, Or.inl rfl, trivial⟩
        · refine p_aload_n rfl ?_
          refine p_iload_n rfl ?_
          refine p_iload rfl ?_
          refine p_cI (av := [_, _, _]) ⟨mok_X9_endOf, Or.inl ⟨85, 89, 9, 0, _, rfl, rfl, rfl, gt_89, rfl, ins_X9_endOf, Or.inl lk_X9_85⟩⟩ (Nat.le_of_ble_eq_true rfl) (Nat.le_of_ble_eq_true rfl) rfl (fun _ h => pc_X9_endOf_89 hl h) h (fun v794 M793 h => ?_)
          refine p_istore (Nat.le_of_ble_eq_true rfl) rfl ?_
          refine p_iload rfl ?_
          refine p_iconst cn_m1 ?_
          refine p_icmp_eq h 49 rfl rfl (fun _ h => ?_) (fun _ h => ?_)
          · exact p_fg (S_X9_earliestBehind_89_82 hl (fun h => ih h) h) ⟨Or.inr rfl, Or.inr rfl, Or.inr rfl, Or.inr rfl, Or.inl rfl, Or.inl rfl, trivial⟩
          · refine p_iload_n rfl ?_
            refine p_iconst cn_m1 ?_
            refine p_icmp_eq h 45 rfl rfl (fun _ h => ?_) (fun _ h => ?_)
            · exact p_fg (S_X9_earliestBehind_89_75 hl (fun h => ih h) h) ⟨Or.inr rfl, Or.inr rfl, Or.inl rfl, Or.inr rfl, Or.inl rfl, Or.inr rfl, trivial⟩
            · refine p_iload rfl ?_
              refine p_iconst cn_1 ?_
              refine p_iadd ?_
              refine p_iload_n rfl ?_
              refine p_icmp_ge h 49 rfl rfl (fun _ h => ?_) (fun _ h => ?_)
              · exact p_fg (S_X9_earliestBehind_89_82 hl (fun h => ih h) h) ⟨Or.inr rfl, Or.inr rfl, Or.inr rfl, Or.inr rfl, Or.inl rfl, Or.inl rfl, trivial⟩
              · exact p_fg (S_X9_earliestBehind_89_75 hl (fun h => ih h) h) ⟨Or.inr rfl, Or.inr rfl, Or.inl rfl, Or.inr rfl, Or.inl rfl, Or.inr rfl, trivial⟩
set_option maxRecDepth 100000 in
theorem S_X9_earliestBehind_89 {l : Launch} (hl : l.stackTraces = false) {M : PM} {a1 : Int32} {r : PR} (h : F_X9_earliestBehind_89 M a1 = some r) : PW l 5 Y_X9_earliestBehind k_X9_earliestBehind [vR 89, vI a1, jk, jk, jk, jk] [] M r := by
  unfold F_X9_earliestBehind_89 at h
  refine p_iconst cn_m1 ?_
  refine p_istore_n (Nat.le_of_ble_eq_true rfl) rfl ?_
  refine p_iconst cn_0 ?_
  refine p_istore_n (Nat.le_of_ble_eq_true rfl) rfl ?_
  exact p_fg (S_X9_earliestBehind_89_4 hl FUEL h) ⟨Or.inr rfl, Or.inr rfl, Or.inr rfl, Or.inr rfl, Or.inl rfl, Or.inl rfl, trivial⟩
set_option maxRecDepth 100000 in
theorem pc_X9_earliestBehind_89 {l : Launch} (hl : l.stackTraces = false) {M : PM} {a1 : Int32} {r : PR} (h : F_X9_earliestBehind_89 M a1 = some r) : PC l 5 Y_X9_earliestBehind [vR 89, vI a1] M r := pc_of hl (by decide +kernel) cok_X9_earliestBehind (Nat.le_of_ble_eq_true rfl) rfl (S_X9_earliestBehind_89 hl  h) rfl
def F_X9_plan_89_9 : Nat → PM → Int32 → Option PR
  | 0, _, _ => none
  | n + 1, M, x2 => cI (F_X10_all M (mI M 16 12)) fun v796 M795 => (if v796 < x2 then some (.inl none, M795) else (if 256 ≤ x2 then some (.inl none, M795) else cI (F_X9_earliestBehind_89 M795 x2) fun v798 M797 => if ixOK x2 256 = true then lt (x2 + 1) fun y799 => F_X9_plan_89_9 n (sA M797 90 x2.toNatClampNeg v798) y799 else none))
def F_X9_plan_89 (M : PM) (a1 : Int32) : Option PR := if ixOK 0 256 = true then F_X9_plan_89_9 FUEL (sA M 90 (0 : Int32).toNatClampNeg a1) 1 else none
set_option maxRecDepth 100000 in
theorem S_X9_plan_89_9 {l : Launch} (hl : l.stackTraces = false) : ∀ (n : Nat) {M : PM} {x2 : Int32} {r : PR}, F_X9_plan_89_9  n M x2 = some r → PW l 6 Y_X9_plan k_X9_plan_9 [vR 89, jk, vI x2] [] M r := by
  intro n
  induction n with
  | zero => intro M x2 r h; exact nomatch (show (none : Option PR) = some r from h)
  | succ n ih =>
    intro M x2 r h
    rw [F_X9_plan_89_9] at h
    refine p_iload_n rfl ?_
    refine p_aload_n rfl ?_
    refine p_getR fk_X9_25 gt_89 rfl rfl ?_
    refine p_getI fk_X9_29 gt_16 rfl ?_
    refine p_cI (av := [_]) ⟨mok_X10_all, Or.inr ⟨74, rfl, rfl, sta_X10_all, Or.inr lk_X9_74⟩⟩ (Nat.le_of_ble_eq_true rfl) (Nat.le_of_ble_eq_true rfl) rfl (fun _ h => pc_X10_all hl h) h (fun v796 M795 h => ?_)
    refine p_icmp_gt h 25 rfl rfl (fun _ h => ?_) (fun _ h => ?_)
    · exact p_ret rfl h
    · refine p_iload_n rfl ?_
      refine p_sipush cs_256 ?_
      refine p_icmp_ge h 25 rfl rfl (fun _ h => ?_) (fun _ h => ?_)
      · exact p_ret rfl h
      · refine p_aload_n rfl ?_
        refine p_getR fk_X9_11 gt_89 rfl rfl ?_
        refine p_iload_n rfl ?_
        refine p_aload_n rfl ?_
        refine p_iload_n rfl ?_
        refine p_cI (av := [_, _]) ⟨mok_X9_earliestBehind, Or.inl ⟨78, 89, 9, 0, _, rfl, rfl, rfl, gt_89, rfl, ins_X9_earliestBehind, Or.inl lk_X9_78⟩⟩ (Nat.le_of_ble_eq_true rfl) (Nat.le_of_ble_eq_true rfl) rfl (fun _ h => pc_X9_earliestBehind_89 hl h) h (fun v798 M797 h => ?_)
        refine p_iast gt_90 h (fun h => ?_)
        have h := lt_h h
        refine p_iinc (Nat.le_of_ble_eq_true rfl) rfl (ci_1 _) rfl ?_
        refine p_goto 7 rfl rfl ?_
        exact p_fg (ih h) ⟨Or.inr rfl, Or.inl rfl, Or.inr rfl, trivial⟩
set_option maxRecDepth 100000 in
theorem S_X9_plan_89 {l : Launch} (hl : l.stackTraces = false) {M : PM} {a1 : Int32} {r : PR} (h : F_X9_plan_89 M a1 = some r) : PW l 6 Y_X9_plan k_X9_plan [vR 89, vI a1, jk] [] M r := by
  unfold F_X9_plan_89 at h
  refine p_aload_n rfl ?_
  refine p_getR fk_X9_11 gt_89 rfl rfl ?_
  refine p_iconst cn_0 ?_
  refine p_iload_n rfl ?_
  refine p_iast gt_90 h (fun h => ?_)
  refine p_iconst cn_1 ?_
  refine p_istore_n (Nat.le_of_ble_eq_true rfl) rfl ?_
  exact p_fg (S_X9_plan_89_9 hl FUEL h) ⟨Or.inr rfl, Or.inl rfl, Or.inr rfl, trivial⟩
set_option maxRecDepth 100000 in
theorem pc_X9_plan_89 {l : Launch} (hl : l.stackTraces = false) {M : PM} {a1 : Int32} {r : PR} (h : F_X9_plan_89 M a1 = some r) : PC l 6 Y_X9_plan [vR 89, vI a1] M r := pc_of hl (by decide +kernel) cok_X9_plan (Nat.le_of_ble_eq_true rfl) rfl (S_X9_plan_89 hl  h) rfl
def F_X9_firstInTime_89_68 (k2 : PM → Int32 → Int32 → Int32 → Option PR) (M : PM) (x1 : Int32) (x2 : Int32) (x3 : Int32) : Option PR := lt (x3 + 1) fun y800 => k2 M x1 x2 y800
def F_X9_firstInTime_89_2 : Nat → PM → Int32 → Int32 → Int32 → Option PR
  | 0, _, _, _, _ => none
  | n + 1, M, x1, x2, x3 => (if mI M 16 12 ≤ x3 then some (.inl (some (.int 0)), M) else if ixOK ((x1 &&& ((1 <<< (x3 &&& 31)) ^^^ (-1))) &&& 255) 256 = true then lt (mA M 91 ((x1 &&& ((1 <<< (x3 &&& 31)) ^^^ (-1))) &&& 255).toNatClampNeg) fun y801 => cI (F_X10_isIn M x3 x1) fun v803 M802 => (if v803 = 0 then F_X9_firstInTime_89_68 (F_X9_firstInTime_89_2 n) M802 x1 x2 x3 else (if y801 = (-1) then F_X9_firstInTime_89_68 (F_X9_firstInTime_89_2 n) M802 x1 x2 x3 else cI (F_X9_endOf_89 M802 x3 x2) fun v805 M804 => (if v805 = (-1) then F_X9_firstInTime_89_68 (F_X9_firstInTime_89_2 n) M804 x1 x2 x3 else (if y801 ≤ v805 then F_X9_firstInTime_89_68 (F_X9_firstInTime_89_2 n) M804 x1 x2 x3 else some (.inl (some (.int x3)), M804))))) else none)
def F_X9_firstInTime_89 (M : PM) (a1 : Int32) (a2 : Int32) : Option PR := F_X9_firstInTime_89_2 FUEL M a1 a2 0
set_option maxRecDepth 100000 in
theorem S_X9_firstInTime_89_68 {l : Launch} (hl : l.stackTraces = false) {k2 : PM → Int32 → Int32 → Int32 → Option PR} (hk2 : ∀ {M : PM} {x1 : Int32} {x2 : Int32} {x3 : Int32} {r : PR}, k2 M x1 x2 x3 = some r → PW l 5 Y_X9_firstInTime k_X9_firstInTime_2 [vR 89, vI x1, vI x2, vI x3, jk, jk] [] M r) {M : PM} {x1 : Int32} {x2 : Int32} {x3 : Int32} {r : PR} (h : F_X9_firstInTime_89_68 k2 M x1 x2 x3 = some r) : PW l 5 Y_X9_firstInTime k_X9_firstInTime_68 [vR 89, vI x1, vI x2, vI x3, jk, jk] [] M r := by
  unfold F_X9_firstInTime_89_68 at h
  have h := lt_h h
  refine p_iinc (Nat.le_of_ble_eq_true rfl) rfl (ci_1 _) rfl ?_
  refine p_goto 2 rfl rfl ?_
  exact p_fg (hk2 h) ⟨Or.inr rfl, Or.inr rfl, Or.inr rfl, Or.inr rfl, Or.inl rfl, Or.inl rfl, trivial⟩
set_option maxRecDepth 100000 in
theorem S_X9_firstInTime_89_2 {l : Launch} (hl : l.stackTraces = false) : ∀ (n : Nat) {M : PM} {x1 : Int32} {x2 : Int32} {x3 : Int32} {r : PR}, F_X9_firstInTime_89_2  n M x1 x2 x3 = some r → PW l 5 Y_X9_firstInTime k_X9_firstInTime_2 [vR 89, vI x1, vI x2, vI x3, jk, jk] [] M r := by
  intro n
  induction n with
  | zero => intro M x1 x2 x3 r h; exact nomatch (show (none : Option PR) = some r from h)
  | succ n ih =>
    intro M x1 x2 x3 r h
    rw [F_X9_firstInTime_89_2] at h
    refine p_iload_n rfl ?_
    refine p_aload_n rfl ?_
    refine p_getR fk_X9_25 gt_89 rfl rfl ?_
    refine p_getI fk_X9_29 gt_16 rfl ?_
    refine p_icmp_ge h 42 rfl rfl (fun _ h => ?_) (fun _ h => ?_)
    · refine p_iconst cn_0 ?_
      exact p_iret rfl h
    · refine p_aload_n rfl ?_
      refine p_getR fk_X9_15 gt_89 rfl rfl ?_
      refine p_iload_n rfl ?_
      refine p_iconst cn_1 ?_
      refine p_iload_n rfl ?_
      refine p_ishl ?_
      refine p_iconst cn_m1 ?_
      refine p_ixor ?_
      refine p_iand ?_
      refine p_sipush cs_255 ?_
      refine p_iand ?_
      refine p_iald gt_91 h (fun h => ?_)
      have h := lt_h h
      refine p_istore (Nat.le_of_ble_eq_true rfl) rfl ?_
      refine p_iload_n rfl ?_
      refine p_iload_n rfl ?_
      refine p_cI (av := [_, _]) ⟨mok_X10_isIn, Or.inr ⟨81, rfl, rfl, sta_X10_isIn, Or.inr lk_X9_81⟩⟩ (Nat.le_of_ble_eq_true rfl) (Nat.le_of_ble_eq_true rfl) rfl (fun _ h => pc_X10_isIn hl h) h (fun v803 M802 h => ?_)
      refine p_if_eq h 40 rfl rfl (fun _ h => ?_) (fun _ h => ?_)
      · exact p_fg (S_X9_firstInTime_89_68 hl (fun h => ih h) h) ⟨Or.inr rfl, Or.inr rfl, Or.inr rfl, Or.inr rfl, Or.inl rfl, Or.inl rfl, trivial⟩
      · refine p_iload rfl ?_
        refine p_iconst cn_m1 ?_
        refine p_icmp_eq h 40 rfl rfl (fun _ h => ?_) (fun _ h => ?_)
        · exact p_fg (S_X9_firstInTime_89_68 hl (fun h => ih h) h) ⟨Or.inr rfl, Or.inr rfl, Or.inr rfl, Or.inr rfl, Or.inl rfl, Or.inl rfl, trivial⟩
        · refine p_aload_n rfl ?_
          refine p_iload_n rfl ?_
          refine p_iload_n rfl ?_
          refine p_cI (av := [_, _, _]) ⟨mok_X9_endOf, Or.inl ⟨85, 89, 9, 0, _, rfl, rfl, rfl, gt_89, rfl, ins_X9_endOf, Or.inl lk_X9_85⟩⟩ (Nat.le_of_ble_eq_true rfl) (Nat.le_of_ble_eq_true rfl) rfl (fun _ h => pc_X9_endOf_89 hl h) h (fun v805 M804 h => ?_)
          refine p_istore (Nat.le_of_ble_eq_true rfl) rfl ?_
          refine p_iload rfl ?_
          refine p_iconst cn_m1 ?_
          refine p_icmp_eq h 40 rfl rfl (fun _ h => ?_) (fun _ h => ?_)
          · exact p_fg (S_X9_firstInTime_89_68 hl (fun h => ih h) h) ⟨Or.inr rfl, Or.inr rfl, Or.inr rfl, Or.inr rfl, Or.inl rfl, Or.inl rfl, trivial⟩
          · refine p_iload rfl ?_
            refine p_iload rfl ?_
            refine p_icmp_ge h 40 rfl rfl (fun _ h => ?_) (fun _ h => ?_)
            · exact p_fg (S_X9_firstInTime_89_68 hl (fun h => ih h) h) ⟨Or.inr rfl, Or.inr rfl, Or.inr rfl, Or.inr rfl, Or.inl rfl, Or.inl rfl, trivial⟩
            · refine p_iload_n rfl ?_
              exact p_iret rfl h
set_option maxRecDepth 100000 in
theorem S_X9_firstInTime_89 {l : Launch} (hl : l.stackTraces = false) {M : PM} {a1 : Int32} {a2 : Int32} {r : PR} (h : F_X9_firstInTime_89 M a1 a2 = some r) : PW l 5 Y_X9_firstInTime k_X9_firstInTime [vR 89, vI a1, vI a2, jk, jk, jk] [] M r := by
  unfold F_X9_firstInTime_89 at h
  refine p_iconst cn_0 ?_
  refine p_istore_n (Nat.le_of_ble_eq_true rfl) rfl ?_
  exact p_fg (S_X9_firstInTime_89_2 hl FUEL h) ⟨Or.inr rfl, Or.inr rfl, Or.inr rfl, Or.inr rfl, Or.inl rfl, Or.inl rfl, trivial⟩
set_option maxRecDepth 100000 in
theorem pc_X9_firstInTime_89 {l : Launch} (hl : l.stackTraces = false) {M : PM} {a1 : Int32} {a2 : Int32} {r : PR} (h : F_X9_firstInTime_89 M a1 a2 = some r) : PC l 5 Y_X9_firstInTime [vR 89, vI a1, vI a2] M r := pc_of hl (by decide +kernel) cok_X9_firstInTime (Nat.le_of_ble_eq_true rfl) rfl (S_X9_firstInTime_89 hl  h) rfl
def F_X0_stretchTo_3_47 (k13 : PM → Int32 → Int32 → Int32 → Option PR) (M : PM) (x1 : Int32) (x3 : Int32) (t0 : Int32) : Option PR := lt (x3 + 1) fun y806 => k13 M x1 t0 y806
def F_X0_stretchTo_3_13 : Nat → PM → Int32 → Int32 → Int32 → Option PR
  | 0, _, _, _, _ => none
  | n + 1, M, x1, x2, x3 => (if mI M 3 5 ≤ x3 then cI (F_J9_max_7cf53 M ((x1 - x2) + 1) 1) fun v808 M807 => some (.inl (some (.int v808)), M807) else if ixOK x3 3 = true then (if x1 ≤ mA M 15 x3.toNatClampNeg then F_X0_stretchTo_3_47 (F_X0_stretchTo_3_13 n) M x1 x3 x2 else if ixOK x3 3 = true then cI (F_J9_max_7cf53 M x2 ((mA M 15 x3.toNatClampNeg) + 1)) fun v810 M809 => F_X0_stretchTo_3_47 (F_X0_stretchTo_3_13 n) M809 x1 x3 v810 else none) else none)
def F_X0_stretchTo_3 (M : PM) (a1 : Int32) : Option PR := cI (F_J9_max_7cf53 M ((a1 - 64) + 1) 0) fun v812 M811 => F_X0_stretchTo_3_13 FUEL M811 a1 v812 0
set_option maxRecDepth 100000 in
theorem S_X0_stretchTo_3_47 {l : Launch} (hl : l.stackTraces = false) {k13 : PM → Int32 → Int32 → Int32 → Option PR} (hk13 : ∀ {M : PM} {x1 : Int32} {x2 : Int32} {x3 : Int32} {r : PR}, k13 M x1 x2 x3 = some r → PW l 1 Y_X0_stretchTo k_X0_stretchTo_13 [vR 3, vI x1, vI x2, vI x3] [] M r) {M : PM} {x1 : Int32} {x3 : Int32} {t0 : Int32} {r : PR} (h : F_X0_stretchTo_3_47 k13 M x1 x3 t0 = some r) : PW l 1 Y_X0_stretchTo k_X0_stretchTo_47 [vR 3, vI x1, jk, vI x3] [vI t0] M r := by
  unfold F_X0_stretchTo_3_47 at h
  refine p_istore_n (Nat.le_of_ble_eq_true rfl) rfl ?_
  have h := lt_h h
  refine p_iinc (Nat.le_of_ble_eq_true rfl) rfl (ci_1 _) rfl ?_
  refine p_goto 10 rfl rfl ?_
  exact p_fg (hk13 h) ⟨Or.inr rfl, Or.inr rfl, Or.inr rfl, Or.inr rfl, trivial⟩
set_option maxRecDepth 100000 in
theorem S_X0_stretchTo_3_13 {l : Launch} (hl : l.stackTraces = false) : ∀ (n : Nat) {M : PM} {x1 : Int32} {x2 : Int32} {x3 : Int32} {r : PR}, F_X0_stretchTo_3_13  n M x1 x2 x3 = some r → PW l 1 Y_X0_stretchTo k_X0_stretchTo_13 [vR 3, vI x1, vI x2, vI x3] [] M r := by
  intro n
  induction n with
  | zero => intro M x1 x2 x3 r h; exact nomatch (show (none : Option PR) = some r from h)
  | succ n ih =>
    intro M x1 x2 x3 r h
    rw [F_X0_stretchTo_3_13] at h
    refine p_iload_n rfl ?_
    refine p_aload_n rfl ?_
    refine p_getI fk_X0_50 gt_3 rfl ?_
    refine p_icmp_ge h 33 rfl rfl (fun _ h => ?_) (fun _ h => ?_)
    · refine p_iload_n rfl ?_
      refine p_iload_n rfl ?_
      refine p_isub ?_
      refine p_iconst cn_1 ?_
      refine p_iadd ?_
      refine p_iconst cn_1 ?_
      refine p_cI (av := [_, _]) ⟨mok_J9_max_7cf53, Or.inr ⟨53, rfl, rfl, sta_J9_max_7cf53, Or.inl lk_X0_53⟩⟩ (Nat.le_of_ble_eq_true rfl) (Nat.le_of_ble_eq_true rfl) rfl (fun _ h => pc_J9_max_7cf53 hl h) h (fun v808 M807 h => ?_)
      exact p_iret rfl h
    · refine p_aload_n rfl ?_
      refine p_getR fk_X0_27 gt_3 rfl rfl ?_
      refine p_iload_n rfl ?_
      refine p_iald gt_15 h (fun h => ?_)
      refine p_iload_n rfl ?_
      refine p_icmp_ge h 29 rfl rfl (fun _ h => ?_) (fun _ h => ?_)
      · refine p_iload_n rfl ?_
        exact p_fg (S_X0_stretchTo_3_47 hl (fun h => ih h) h) ⟨Or.inr rfl, Or.inr rfl, Or.inl rfl, Or.inr rfl, trivial⟩
      · refine p_iload_n rfl ?_
        refine p_aload_n rfl ?_
        refine p_getR fk_X0_27 gt_3 rfl rfl ?_
        refine p_iload_n rfl ?_
        refine p_iald gt_15 h (fun h => ?_)
        refine p_iconst cn_1 ?_
        refine p_iadd ?_
        refine p_cI (av := [_, _]) ⟨mok_J9_max_7cf53, Or.inr ⟨53, rfl, rfl, sta_J9_max_7cf53, Or.inl lk_X0_53⟩⟩ (Nat.le_of_ble_eq_true rfl) (Nat.le_of_ble_eq_true rfl) rfl (fun _ h => pc_J9_max_7cf53 hl h) h (fun v810 M809 h => ?_)
        refine p_goto 30 rfl rfl ?_
        exact p_fg (S_X0_stretchTo_3_47 hl (fun h => ih h) h) ⟨Or.inr rfl, Or.inr rfl, Or.inl rfl, Or.inr rfl, trivial⟩
set_option maxRecDepth 100000 in
theorem S_X0_stretchTo_3 {l : Launch} (hl : l.stackTraces = false) {M : PM} {a1 : Int32} {r : PR} (h : F_X0_stretchTo_3 M a1 = some r) : PW l 1 Y_X0_stretchTo k_X0_stretchTo [vR 3, vI a1, jk, jk] [] M r := by
  unfold F_X0_stretchTo_3 at h
  refine p_iload_n rfl ?_
  refine p_bipush cb_64 ?_
  refine p_isub ?_
  refine p_iconst cn_1 ?_
  refine p_iadd ?_
  refine p_iconst cn_0 ?_
  refine p_cI (av := [_, _]) ⟨mok_J9_max_7cf53, Or.inr ⟨53, rfl, rfl, sta_J9_max_7cf53, Or.inl lk_X0_53⟩⟩ (Nat.le_of_ble_eq_true rfl) (Nat.le_of_ble_eq_true rfl) rfl (fun _ h => pc_J9_max_7cf53 hl h) h (fun v812 M811 h => ?_)
  refine p_istore_n (Nat.le_of_ble_eq_true rfl) rfl ?_
  refine p_iconst cn_0 ?_
  refine p_istore_n (Nat.le_of_ble_eq_true rfl) rfl ?_
  exact p_fg (S_X0_stretchTo_3_13 hl FUEL h) ⟨Or.inr rfl, Or.inr rfl, Or.inr rfl, Or.inr rfl, trivial⟩
set_option maxRecDepth 100000 in
theorem pc_X0_stretchTo_3 {l : Launch} (hl : l.stackTraces = false) {M : PM} {a1 : Int32} {r : PR} (h : F_X0_stretchTo_3 M a1 = some r) : PC l 1 Y_X0_stretchTo [vR 3, vI a1] M r := pc_of hl (by decide +kernel) cok_X0_stretchTo (Nat.le_of_ble_eq_true rfl) rfl (S_X0_stretchTo_3 hl  h) rfl
def F_X1_nthBack_27_9 : Nat → PM → Int32 → Int32 → Int32 → Option PR
  | 0, _, _, _, _ => none
  | n + 1, M, x3, x4, x6 => (if x6 < x3 then some (.inl (some (.int (-1))), M) else cI (F_X0_stretchTo_3 M x6) fun v814 M813 => lt ((x6 - v814) + 1) fun y815 => cI (F_X0_turnsOn_3 M813 y815) fun v817 M816 => cJ (F_X1_daysFrom_27 M816 v817) fun v819 M818 => cJ (F_X10_low M818 v814) fun v821 M820 => lt (v819 &&& v821) fun y822 => cI (F_J13_bitCount_95d88 M820 y822) fun v824 M823 => (if v824 < x4 then lt (x4 - v824) fun y825 => lt (x6 - v814) fun y826 => F_X1_nthBack_27_9 n M823 x3 y825 y826 else cI (F_X10_nthLowest M823 y822 ((v824 - x4) + 1)) fun v828 M827 => lt (y815 + v828) fun y829 => (if y829 < x3 then some (.inl (some (.int (-1))), M827) else some (.inl (some (.int y829)), M827))))
def F_X1_nthBack_27 (M : PM) (a1 : Int32) (a2 : Int32) (a3 : Int32) : Option PR := F_X1_nthBack_27_9 FUEL M a3 a2 a1
set_option maxRecDepth 100000 in
theorem S_X1_nthBack_27_9 {l : Launch} (hl : l.stackTraces = false) : ∀ (n : Nat) {M : PM} {x3 : Int32} {x4 : Int32} {x6 : Int32} {r : PR}, F_X1_nthBack_27_9  n M x3 x4 x6 = some r → PW l 3 Y_X1_nthBack k_X1_nthBack_9 [vR 27, jk, jk, vI x3, vI x4, jk, vI x6, jk, jk, jk, jk, jk] [] M r := by
  intro n
  induction n with
  | zero => intro M x3 x4 x6 r h; exact nomatch (show (none : Option PR) = some r from h)
  | succ n ih =>
    intro M x3 x4 x6 r h
    rw [F_X1_nthBack_27_9] at h
    refine p_iload rfl ?_
    refine p_iload_n rfl ?_
    refine p_icmp_lt h 62 rfl rfl (fun _ h => ?_) (fun _ h => ?_)
    · refine p_iconst cn_m1 ?_
      exact p_iret rfl h
    · refine p_aload_n rfl ?_
      refine p_getR fk_X1_19 gt_27 rfl rfl ?_
      refine p_iload rfl ?_
      refine p_cI (av := [_, _]) ⟨mok_X0_stretchTo, Or.inl ⟨92, 3, 0, 0, _, rfl, rfl, rfl, gt_3, rfl, ins_X0_stretchTo, Or.inr lk_X1_92⟩⟩ (Nat.le_of_ble_eq_true rfl) (Nat.le_of_ble_eq_true rfl) rfl (fun _ h => pc_X0_stretchTo_3 hl h) h (fun v814 M813 h => ?_)
      refine p_istore (Nat.le_of_ble_eq_true rfl) rfl ?_
      refine p_iload rfl ?_
      refine p_iload rfl ?_
      refine p_isub ?_
      refine p_iconst cn_1 ?_
      refine p_iadd ?_
      have h := lt_h h
      refine p_istore (Nat.le_of_ble_eq_true rfl) rfl ?_
      refine p_aload_n rfl ?_
      refine p_aload_n rfl ?_
      refine p_getR fk_X1_19 gt_27 rfl rfl ?_
      refine p_iload rfl ?_
      refine p_cI (av := [_, _]) ⟨mok_X0_turnsOn, Or.inl ⟨59, 3, 0, 0, _, rfl, rfl, rfl, gt_3, rfl, ins_X0_turnsOn, Or.inr lk_X1_59⟩⟩ (Nat.le_of_ble_eq_true rfl) (Nat.le_of_ble_eq_true rfl) rfl (fun _ h => pc_X0_turnsOn_3 hl h) h (fun v817 M816 h => ?_)
      refine p_cJ (av := [_, _]) ⟨mok_X1_daysFrom, Or.inl ⟨62, 27, 1, 0, _, rfl, rfl, rfl, gt_27, rfl, ins_X1_daysFrom, Or.inl lk_X1_62⟩⟩ (Nat.le_of_ble_eq_true rfl) (Nat.le_of_ble_eq_true rfl) rfl (fun _ h => pc_X1_daysFrom_27 hl h) h (fun v819 M818 h => ?_)
      refine p_iload rfl ?_
      refine p_cJ (av := [_]) ⟨mok_X10_low, Or.inr ⟨66, rfl, rfl, sta_X10_low, Or.inr lk_X1_66⟩⟩ (Nat.le_of_ble_eq_true rfl) (Nat.le_of_ble_eq_true rfl) rfl (fun _ h => pc_X10_low hl h) h (fun v821 M820 h => ?_)
      refine p_land ?_
      have h := lt_h h
      refine p_lstore (Nat.le_of_ble_eq_true rfl) rfl ?_
      refine p_lload rfl ?_
      refine p_cI (av := [_]) ⟨mok_J13_bitCount_95d88, Or.inr ⟨69, rfl, rfl, sta_J13_bitCount_95d88, Or.inl lk_X1_69⟩⟩ (Nat.le_of_ble_eq_true rfl) (Nat.le_of_ble_eq_true rfl) rfl (fun _ h => pc_J13_bitCount_95d88 hl h) h (fun v824 M823 h => ?_)
      refine p_istore (Nat.le_of_ble_eq_true rfl) rfl ?_
      refine p_iload rfl ?_
      refine p_iload rfl ?_
      refine p_icmp_lt h 53 rfl rfl (fun _ h => ?_) (fun _ h => ?_)
      · refine p_iload rfl ?_
        refine p_iload rfl ?_
        refine p_isub ?_
        have h := lt_h h
        refine p_istore (Nat.le_of_ble_eq_true rfl) rfl ?_
        refine p_iload rfl ?_
        refine p_iload rfl ?_
        refine p_isub ?_
        have h := lt_h h
        refine p_istore (Nat.le_of_ble_eq_true rfl) rfl ?_
        refine p_goto 6 rfl rfl ?_
        exact p_fg (ih h) ⟨Or.inr rfl, Or.inl rfl, Or.inl rfl, Or.inr rfl, Or.inr rfl, Or.inl rfl, Or.inr rfl, Or.inl rfl, Or.inl rfl, Or.inl rfl, Or.inl rfl, Or.inl rfl, trivial⟩
      · refine p_iload rfl ?_
        refine p_lload rfl ?_
        refine p_iload rfl ?_
        refine p_iload rfl ?_
        refine p_isub ?_
        refine p_iconst cn_1 ?_
        refine p_iadd ?_
        refine p_cI (av := [_, _]) ⟨mok_X10_nthLowest, Or.inr ⟨75, rfl, rfl, sta_X10_nthLowest, Or.inr lk_X1_75⟩⟩ (Nat.le_of_ble_eq_true rfl) (Nat.le_of_ble_eq_true rfl) rfl (fun _ h => pc_X10_nthLowest hl h) h (fun v828 M827 h => ?_)
        refine p_iadd ?_
        have h := lt_h h
        refine p_istore (Nat.le_of_ble_eq_true rfl) rfl ?_
        refine p_iload rfl ?_
        refine p_iload_n rfl ?_
        refine p_icmp_lt h 51 rfl rfl (fun _ h => ?_) (fun _ h => ?_)
        · refine p_iconst cn_m1 ?_
          exact p_iret rfl h
        · refine p_iload rfl ?_
          refine p_goto 52 rfl rfl ?_
          exact p_iret rfl h
set_option maxRecDepth 100000 in
theorem S_X1_nthBack_27 {l : Launch} (hl : l.stackTraces = false) {M : PM} {a1 : Int32} {a2 : Int32} {a3 : Int32} {r : PR} (h : F_X1_nthBack_27 M a1 a2 a3 = some r) : PW l 3 Y_X1_nthBack k_X1_nthBack [vR 27, vI a1, vI a2, vI a3, jk, jk, jk, jk, jk, jk, jk, jk] [] M r := by
  unfold F_X1_nthBack_27 at h
  refine p_iload_n rfl ?_
  refine p_istore (Nat.le_of_ble_eq_true rfl) rfl ?_
  refine p_iconst cn_1 ?_
  refine p_istore (Nat.le_of_ble_eq_true rfl) rfl ?_
  refine p_iload_n rfl ?_
  refine p_istore (Nat.le_of_ble_eq_true rfl) rfl ?_
  exact p_fg (S_X1_nthBack_27_9 hl FUEL h) ⟨Or.inr rfl, Or.inl rfl, Or.inl rfl, Or.inr rfl, Or.inr rfl, Or.inl rfl, Or.inr rfl, Or.inl rfl, Or.inl rfl, Or.inl rfl, Or.inl rfl, Or.inl rfl, trivial⟩
set_option maxRecDepth 100000 in
theorem pc_X1_nthBack_27 {l : Launch} (hl : l.stackTraces = false) {M : PM} {a1 : Int32} {a2 : Int32} {a3 : Int32} {r : PR} (h : F_X1_nthBack_27 M a1 a2 a3 = some r) : PC l 3 Y_X1_nthBack [vR 27, vI a1, vI a2, vI a3] M r := pc_of hl (by decide +kernel) cok_X1_nthBack (Nat.le_of_ble_eq_true rfl) rfl (S_X1_nthBack_27 hl  h) rfl
def F_X9_latestBegin_89 (M : PM) (a1 : Int32) (a2 : Int32) (a3 : Int32) : Option PR := cI (F_X9_isWork_89 M a1) fun v831 M830 => (if v831 = 0 then some (.inl (some (.int (-1))), M830) else if ixOK a1 8 = true then cV (F_X1_bar_27 M830 (mA M830 26 a1.toNatClampNeg) 0) fun M832 => if ixOK a1 8 = true then cI (F_X1_nthBack_27 M832 a2 (mA M832 25 a1.toNatClampNeg) a3) fun v834 M833 => some (.inl (some (.int v834)), M833) else none else none)
set_option maxRecDepth 100000 in
theorem S_X9_latestBegin_89 {l : Launch} (hl : l.stackTraces = false) {M : PM} {a1 : Int32} {a2 : Int32} {a3 : Int32} {r : PR} (h : F_X9_latestBegin_89 M a1 a2 a3 = some r) : PW l 4 Y_X9_latestBegin k_X9_latestBegin [vR 89, vI a1, vI a2, vI a3] [] M r := by
  unfold F_X9_latestBegin_89 at h
  refine p_aload_n rfl ?_
  refine p_iload_n rfl ?_
  refine p_cI (av := [_, _]) ⟨mok_X9_isWork, Or.inl ⟨35, 89, 9, 0, _, rfl, rfl, rfl, gt_89, rfl, ins_X9_isWork, Or.inl lk_X9_35⟩⟩ (Nat.le_of_ble_eq_true rfl) (Nat.le_of_ble_eq_true rfl) rfl (fun _ h => pc_X9_isWork_89 hl h) h (fun v831 M830 h => ?_)
  refine p_if_ne h 6 rfl rfl (fun _ h => ?_) (fun _ h => ?_)
  · refine p_iconst cn_m1 ?_
    exact p_iret rfl h
  · refine p_aload_n rfl ?_
    refine p_getR fk_X9_21 gt_89 rfl rfl ?_
    refine p_aload_n rfl ?_
    refine p_getR fk_X9_25 gt_89 rfl rfl ?_
    refine p_getR fk_X9_39 gt_16 rfl rfl ?_
    refine p_iload_n rfl ?_
    refine p_iald gt_26 h (fun h => ?_)
    refine p_iconst cn_0 ?_
    refine p_cV (av := [_, _, _]) ⟨mok_X1_bar, Or.inl ⟨42, 27, 1, 0, _, rfl, rfl, rfl, gt_27, rfl, ins_X1_bar, Or.inr lk_X9_42⟩⟩ (Nat.le_of_ble_eq_true rfl) (Nat.le_of_ble_eq_true rfl) rfl (fun _ h => pc_X1_bar_27 hl h) h (fun M832 h => ?_)
    refine p_aload_n rfl ?_
    refine p_getR fk_X9_21 gt_89 rfl rfl ?_
    refine p_iload_n rfl ?_
    refine p_aload_n rfl ?_
    refine p_getR fk_X9_25 gt_89 rfl rfl ?_
    refine p_getR fk_X9_48 gt_16 rfl rfl ?_
    refine p_iload_n rfl ?_
    refine p_iald gt_25 h (fun h => ?_)
    refine p_iload_n rfl ?_
    refine p_cI (av := [_, _, _, _]) ⟨mok_X1_nthBack, Or.inl ⟨55, 27, 1, 0, _, rfl, rfl, rfl, gt_27, rfl, ins_X1_nthBack, Or.inr lk_X9_55⟩⟩ (Nat.le_of_ble_eq_true rfl) (Nat.le_of_ble_eq_true rfl) rfl (fun _ h => pc_X1_nthBack_27 hl h) h (fun v834 M833 h => ?_)
    exact p_iret rfl h
set_option maxRecDepth 100000 in
theorem pc_X9_latestBegin_89 {l : Launch} (hl : l.stackTraces = false) {M : PM} {a1 : Int32} {a2 : Int32} {a3 : Int32} {r : PR} (h : F_X9_latestBegin_89 M a1 a2 a3 = some r) : PC l 4 Y_X9_latestBegin [vR 89, vI a1, vI a2, vI a3] M r := pc_of hl (by decide +kernel) cok_X9_latestBegin (Nat.le_of_ble_eq_true rfl) rfl (S_X9_latestBegin_89 hl  h) rfl
def F_X9_latestAheadOf_89_67 (k5 : PM → Int32 → Int32 → Int32 → Int32 → Option PR) (M : PM) (x1 : Int32) (x2 : Int32) (x3 : Int32) (x4 : Int32) : Option PR := lt (x4 + 1) fun y835 => k5 M x1 x2 x3 y835
def F_X9_latestAheadOf_89_5 : Nat → PM → Int32 → Int32 → Int32 → Int32 → Option PR
  | 0, _, _, _, _, _ => none
  | n + 1, M, x1, x2, x3, x4 => (if mI M 16 12 ≤ x4 then some (.inl (some (.int x3)), M) else if ixOK ((x1 &&& ((1 <<< (x4 &&& 31)) ^^^ (-1))) &&& 255) 256 = true then lt (mA M 91 ((x1 &&& ((1 <<< (x4 &&& 31)) ^^^ (-1))) &&& 255).toNatClampNeg) fun y836 => cI (F_X10_isIn M x4 x1) fun v838 M837 => (if v838 = 0 then F_X9_latestAheadOf_89_67 (F_X9_latestAheadOf_89_5 n) M837 x1 x2 x3 x4 else (if y836 = (-1) then F_X9_latestAheadOf_89_67 (F_X9_latestAheadOf_89_5 n) M837 x1 x2 x3 x4 else cI (F_X9_latestBegin_89 M837 x4 (y836 - 1) x2) fun v840 M839 => cI (F_J9_max_7cf53 M839 x3 v840) fun v842 M841 => F_X9_latestAheadOf_89_67 (F_X9_latestAheadOf_89_5 n) M841 x1 x2 v842 x4)) else none)
def F_X9_latestAheadOf_89 (M : PM) (a1 : Int32) (a2 : Int32) : Option PR := F_X9_latestAheadOf_89_5 FUEL M a1 a2 (-1) 0
set_option maxRecDepth 100000 in
theorem S_X9_latestAheadOf_89_67 {l : Launch} (hl : l.stackTraces = false) {k5 : PM → Int32 → Int32 → Int32 → Int32 → Option PR} (hk5 : ∀ {M : PM} {x1 : Int32} {x2 : Int32} {x3 : Int32} {x4 : Int32} {r : PR}, k5 M x1 x2 x3 x4 = some r → PW l 5 Y_X9_latestAheadOf k_X9_latestAheadOf_5 [vR 89, vI x1, vI x2, vI x3, vI x4, jk] [] M r) {M : PM} {x1 : Int32} {x2 : Int32} {x3 : Int32} {x4 : Int32} {r : PR} (h : F_X9_latestAheadOf_89_67 k5 M x1 x2 x3 x4 = some r) : PW l 5 Y_X9_latestAheadOf k_X9_latestAheadOf_67 [vR 89, vI x1, vI x2, vI x3, vI x4, jk] [] M r := by
  unfold F_X9_latestAheadOf_89_67 at h
  have h := lt_h h
  refine p_iinc (Nat.le_of_ble_eq_true rfl) rfl (ci_1 _) rfl ?_
  refine p_goto 4 rfl rfl ?_
  exact p_fg (hk5 h) ⟨Or.inr rfl, Or.inr rfl, Or.inr rfl, Or.inr rfl, Or.inr rfl, Or.inl rfl, trivial⟩
set_option maxRecDepth 100000 in
theorem S_X9_latestAheadOf_89_5 {l : Launch} (hl : l.stackTraces = false) : ∀ (n : Nat) {M : PM} {x1 : Int32} {x2 : Int32} {x3 : Int32} {x4 : Int32} {r : PR}, F_X9_latestAheadOf_89_5  n M x1 x2 x3 x4 = some r → PW l 5 Y_X9_latestAheadOf k_X9_latestAheadOf_5 [vR 89, vI x1, vI x2, vI x3, vI x4, jk] [] M r := by
  intro n
  induction n with
  | zero => intro M x1 x2 x3 x4 r h; exact nomatch (show (none : Option PR) = some r from h)
  | succ n ih =>
    intro M x1 x2 x3 x4 r h
    rw [F_X9_latestAheadOf_89_5] at h
    refine p_iload rfl ?_
    refine p_aload_n rfl ?_
    refine p_getR fk_X9_25 gt_89 rfl rfl ?_
    refine p_getI fk_X9_29 gt_16 rfl ?_
    refine p_icmp_ge h 41 rfl rfl (fun _ h => ?_) (fun _ h => ?_)
    · refine p_iload_n rfl ?_
      exact p_iret rfl h
    · refine p_aload_n rfl ?_
      refine p_getR fk_X9_15 gt_89 rfl rfl ?_
      refine p_iload_n rfl ?_
      refine p_iconst cn_1 ?_
      refine p_iload rfl ?_
      refine p_ishl ?_
      refine p_iconst cn_m1 ?_
      refine p_ixor ?_
      refine p_iand ?_
      refine p_sipush cs_255 ?_
      refine p_iand ?_
      refine p_iald gt_91 h (fun h => ?_)
      have h := lt_h h
      refine p_istore (Nat.le_of_ble_eq_true rfl) rfl ?_
      refine p_iload rfl ?_
      refine p_iload_n rfl ?_
      refine p_cI (av := [_, _]) ⟨mok_X10_isIn, Or.inr ⟨81, rfl, rfl, sta_X10_isIn, Or.inr lk_X9_81⟩⟩ (Nat.le_of_ble_eq_true rfl) (Nat.le_of_ble_eq_true rfl) rfl (fun _ h => pc_X10_isIn hl h) h (fun v838 M837 h => ?_)
      refine p_if_eq h 39 rfl rfl (fun _ h => ?_) (fun _ h => ?_)
      · exact p_fg (S_X9_latestAheadOf_89_67 hl (fun h => ih h) h) ⟨Or.inr rfl, Or.inr rfl, Or.inr rfl, Or.inr rfl, Or.inr rfl, Or.inl rfl, trivial⟩
      · refine p_iload rfl ?_
        refine p_iconst cn_m1 ?_
        refine p_icmp_eq h 39 rfl rfl (fun _ h => ?_) (fun _ h => ?_)
        · exact p_fg (S_X9_latestAheadOf_89_67 hl (fun h => ih h) h) ⟨Or.inr rfl, Or.inr rfl, Or.inr rfl, Or.inr rfl, Or.inr rfl, Or.inl rfl, trivial⟩
        · refine p_iload_n rfl ?_
          refine p_aload_n rfl ?_
          refine p_iload rfl ?_
          refine p_iload rfl ?_
          refine p_iconst cn_1 ?_
          refine p_isub ?_
          refine p_iload_n rfl ?_
          refine p_cI (av := [_, _, _, _]) ⟨mok_X9_latestBegin, Or.inl ⟨94, 89, 9, 0, _, rfl, rfl, rfl, gt_89, rfl, ins_X9_latestBegin, Or.inl lk_X9_94⟩⟩ (Nat.le_of_ble_eq_true rfl) (Nat.le_of_ble_eq_true rfl) rfl (fun _ h => pc_X9_latestBegin_89 hl h) h (fun v840 M839 h => ?_)
          refine p_cI (av := [_, _]) ⟨mok_J9_max_7cf53, Or.inr ⟨97, rfl, rfl, sta_J9_max_7cf53, Or.inl lk_X9_97⟩⟩ (Nat.le_of_ble_eq_true rfl) (Nat.le_of_ble_eq_true rfl) rfl (fun _ h => pc_J9_max_7cf53 hl h) h (fun v842 M841 h => ?_)
          refine p_istore_n (Nat.le_of_ble_eq_true rfl) rfl ?_
          exact p_fg (S_X9_latestAheadOf_89_67 hl (fun h => ih h) h) ⟨Or.inr rfl, Or.inr rfl, Or.inr rfl, Or.inr rfl, Or.inr rfl, Or.inl rfl, trivial⟩
set_option maxRecDepth 100000 in
theorem S_X9_latestAheadOf_89 {l : Launch} (hl : l.stackTraces = false) {M : PM} {a1 : Int32} {a2 : Int32} {r : PR} (h : F_X9_latestAheadOf_89 M a1 a2 = some r) : PW l 5 Y_X9_latestAheadOf k_X9_latestAheadOf [vR 89, vI a1, vI a2, jk, jk, jk] [] M r := by
  unfold F_X9_latestAheadOf_89 at h
  refine p_iconst cn_m1 ?_
  refine p_istore_n (Nat.le_of_ble_eq_true rfl) rfl ?_
  refine p_iconst cn_0 ?_
  refine p_istore (Nat.le_of_ble_eq_true rfl) rfl ?_
  exact p_fg (S_X9_latestAheadOf_89_5 hl FUEL h) ⟨Or.inr rfl, Or.inr rfl, Or.inr rfl, Or.inr rfl, Or.inr rfl, Or.inl rfl, trivial⟩
set_option maxRecDepth 100000 in
theorem pc_X9_latestAheadOf_89 {l : Launch} (hl : l.stackTraces = false) {M : PM} {a1 : Int32} {a2 : Int32} {r : PR} (h : F_X9_latestAheadOf_89 M a1 a2 = some r) : PC l 5 Y_X9_latestAheadOf [vR 89, vI a1, vI a2] M r := pc_of hl (by decide +kernel) cok_X9_latestAheadOf (Nat.le_of_ble_eq_true rfl) rfl (S_X9_latestAheadOf_89 hl  h) rfl
def F_X9_firstOrder_89_79 : Nat → PM → Int32 → Int32 → Int32 → Int32 → Option PR
  | 0, _, _, _, _, _ => none
  | n + 1, M, x2, x3, x4, x5 => (if mI M 16 12 ≤ x5 then some (.inl (some (.int x3)), M) else cI (F_X9_firstInTime_89 M x2 x4) fun v844 M843 => lt ((10 * x3) + v844) fun y845 => cI (F_X9_endOf_89 M843 v844 x4) fun v847 M846 => lt (v847 + 1) fun y848 => lt (x2 &&& ((1 <<< (v844 &&& 31)) ^^^ (-1))) fun y849 => lt (x5 + 1) fun y850 => F_X9_firstOrder_89_79 n M846 y849 y845 y848 y850)
def F_X9_firstOrder_89_71 (M : PM) (x1 : Int32) (x2 : Int32) : Option PR := F_X9_firstOrder_89_79 FUEL M x2 0 x1 0
def F_X9_firstOrder_89_41 : Nat → PM → Int32 → Int32 → Int32 → Option PR
  | 0, _, _, _, _ => none
  | n + 1, M, x1, x2, x3 => (if x2 < x3 then F_X9_firstOrder_89_71 M x1 x2 else (if 256 ≤ x3 then F_X9_firstOrder_89_71 M x1 x2 else cI (F_X9_latestAheadOf_89 M x3 x1) fun v852 M851 => if ixOK x3 256 = true then lt (x3 + 1) fun y853 => F_X9_firstOrder_89_41 n (sA M851 91 x3.toNatClampNeg v852) x1 x2 y853 else none))
def F_X9_firstOrder_89 (M : PM) (a1 : Int32) : Option PR := cI (F_X10_all M (mI M 16 12)) fun v855 M854 => if ixOK (v855 &&& 255) 256 = true then if ixOK 0 256 = true then if ixOK 0 256 = true then (if mA (sA M854 91 (0 : Int32).toNatClampNeg (mA M854 90 (v855 &&& 255).toNatClampNeg)) 91 (0 : Int32).toNatClampNeg = (-1) then some (.inl (some (.int (-1))), sA M854 91 (0 : Int32).toNatClampNeg (mA M854 90 (v855 &&& 255).toNatClampNeg)) else F_X9_firstOrder_89_41 FUEL (sA M854 91 (0 : Int32).toNatClampNeg (mA M854 90 (v855 &&& 255).toNatClampNeg)) a1 v855 1) else none else none else none
set_option maxRecDepth 100000 in
theorem S_X9_firstOrder_89_79 {l : Launch} (hl : l.stackTraces = false) : ∀ (n : Nat) {M : PM} {x2 : Int32} {x3 : Int32} {x4 : Int32} {x5 : Int32} {r : PR}, F_X9_firstOrder_89_79  n M x2 x3 x4 x5 = some r → PW l 6 Y_X9_firstOrder k_X9_firstOrder_79 [vR 89, jk, vI x2, vI x3, vI x4, vI x5, jk] [] M r := by
  intro n
  induction n with
  | zero => intro M x2 x3 x4 x5 r h; exact nomatch (show (none : Option PR) = some r from h)
  | succ n ih =>
    intro M x2 x3 x4 x5 r h
    rw [F_X9_firstOrder_89_79] at h
    refine p_iload rfl ?_
    refine p_aload_n rfl ?_
    refine p_getR fk_X9_25 gt_89 rfl rfl ?_
    refine p_getI fk_X9_29 gt_16 rfl ?_
    refine p_icmp_ge h 80 rfl rfl (fun _ h => ?_) (fun _ h => ?_)
    · refine p_iload_n rfl ?_
      exact p_iret rfl h
    · refine p_aload_n rfl ?_
      refine p_iload_n rfl ?_
      refine p_iload rfl ?_
      refine p_cI (av := [_, _, _]) ⟨mok_X9_firstInTime, Or.inl ⟨91, 89, 9, 0, _, rfl, rfl, rfl, gt_89, rfl, ins_X9_firstInTime, Or.inl lk_X9_91⟩⟩ (Nat.le_of_ble_eq_true rfl) (Nat.le_of_ble_eq_true rfl) rfl (fun _ h => pc_X9_firstInTime_89 hl h) h (fun v844 M843 h => ?_)
      refine p_istore (Nat.le_of_ble_eq_true rfl) rfl ?_
      refine p_bipush cb_10 ?_
      refine p_iload_n rfl ?_
      refine p_imul ?_
      refine p_iload rfl ?_
      refine p_iadd ?_
      have h := lt_h h
      refine p_istore_n (Nat.le_of_ble_eq_true rfl) rfl ?_
      refine p_aload_n rfl ?_
      refine p_iload rfl ?_
      refine p_iload rfl ?_
      refine p_cI (av := [_, _, _]) ⟨mok_X9_endOf, Or.inl ⟨85, 89, 9, 0, _, rfl, rfl, rfl, gt_89, rfl, ins_X9_endOf, Or.inl lk_X9_85⟩⟩ (Nat.le_of_ble_eq_true rfl) (Nat.le_of_ble_eq_true rfl) rfl (fun _ h => pc_X9_endOf_89 hl h) h (fun v847 M846 h => ?_)
      refine p_iconst cn_1 ?_
      refine p_iadd ?_
      have h := lt_h h
      refine p_istore (Nat.le_of_ble_eq_true rfl) rfl ?_
      refine p_iload_n rfl ?_
      refine p_iconst cn_1 ?_
      refine p_iload rfl ?_
      refine p_ishl ?_
      refine p_iconst cn_m1 ?_
      refine p_ixor ?_
      refine p_iand ?_
      have h := lt_h h
      refine p_istore_n (Nat.le_of_ble_eq_true rfl) rfl ?_
      have h := lt_h h
      refine p_iinc (Nat.le_of_ble_eq_true rfl) rfl (ci_1 _) rfl ?_
      refine p_goto 47 rfl rfl ?_
      exact p_fg (ih h) ⟨Or.inr rfl, Or.inl rfl, Or.inr rfl, Or.inr rfl, Or.inr rfl, Or.inr rfl, Or.inl rfl, trivial⟩
set_option maxRecDepth 100000 in
theorem S_X9_firstOrder_89_71 {l : Launch} (hl : l.stackTraces = false) {M : PM} {x1 : Int32} {x2 : Int32} {r : PR} (h : F_X9_firstOrder_89_71  M x1 x2 = some r) : PW l 6 Y_X9_firstOrder k_X9_firstOrder_71 [vR 89, vI x1, vI x2, jk, jk, jk, jk] [] M r := by
  unfold F_X9_firstOrder_89_71 at h
  refine p_iconst cn_0 ?_
  refine p_istore_n (Nat.le_of_ble_eq_true rfl) rfl ?_
  refine p_iload_n rfl ?_
  refine p_istore (Nat.le_of_ble_eq_true rfl) rfl ?_
  refine p_iconst cn_0 ?_
  refine p_istore (Nat.le_of_ble_eq_true rfl) rfl ?_
  exact p_fg (S_X9_firstOrder_89_79 hl FUEL h) ⟨Or.inr rfl, Or.inl rfl, Or.inr rfl, Or.inr rfl, Or.inr rfl, Or.inr rfl, Or.inl rfl, trivial⟩
set_option maxRecDepth 100000 in
theorem S_X9_firstOrder_89_41 {l : Launch} (hl : l.stackTraces = false) : ∀ (n : Nat) {M : PM} {x1 : Int32} {x2 : Int32} {x3 : Int32} {r : PR}, F_X9_firstOrder_89_41  n M x1 x2 x3 = some r → PW l 6 Y_X9_firstOrder k_X9_firstOrder_41 [vR 89, vI x1, vI x2, vI x3, jk, jk, jk] [] M r := by
  intro n
  induction n with
  | zero => intro M x1 x2 x3 r h; exact nomatch (show (none : Option PR) = some r from h)
  | succ n ih =>
    intro M x1 x2 x3 r h
    rw [F_X9_firstOrder_89_41] at h
    refine p_iload_n rfl ?_
    refine p_iload_n rfl ?_
    refine p_icmp_gt h 41 rfl rfl (fun _ h => ?_) (fun _ h => ?_)
    · exact p_fg (S_X9_firstOrder_89_71 hl h) ⟨Or.inr rfl, Or.inr rfl, Or.inr rfl, Or.inl rfl, Or.inl rfl, Or.inl rfl, Or.inl rfl, trivial⟩
    · refine p_iload_n rfl ?_
      refine p_sipush cs_256 ?_
      refine p_icmp_ge h 41 rfl rfl (fun _ h => ?_) (fun _ h => ?_)
      · exact p_fg (S_X9_firstOrder_89_71 hl h) ⟨Or.inr rfl, Or.inr rfl, Or.inr rfl, Or.inl rfl, Or.inl rfl, Or.inl rfl, Or.inl rfl, trivial⟩
      · refine p_aload_n rfl ?_
        refine p_getR fk_X9_15 gt_89 rfl rfl ?_
        refine p_iload_n rfl ?_
        refine p_aload_n rfl ?_
        refine p_iload_n rfl ?_
        refine p_iload_n rfl ?_
        refine p_cI (av := [_, _, _]) ⟨mok_X9_latestAheadOf, Or.inl ⟨88, 89, 9, 0, _, rfl, rfl, rfl, gt_89, rfl, ins_X9_latestAheadOf, Or.inl lk_X9_88⟩⟩ (Nat.le_of_ble_eq_true rfl) (Nat.le_of_ble_eq_true rfl) rfl (fun _ h => pc_X9_latestAheadOf_89 hl h) h (fun v852 M851 h => ?_)
        refine p_iast gt_91 h (fun h => ?_)
        have h := lt_h h
        refine p_iinc (Nat.le_of_ble_eq_true rfl) rfl (ci_1 _) rfl ?_
        refine p_goto 25 rfl rfl ?_
        exact p_fg (ih h) ⟨Or.inr rfl, Or.inr rfl, Or.inr rfl, Or.inr rfl, Or.inl rfl, Or.inl rfl, Or.inl rfl, trivial⟩
set_option maxRecDepth 100000 in
theorem S_X9_firstOrder_89 {l : Launch} (hl : l.stackTraces = false) {M : PM} {a1 : Int32} {r : PR} (h : F_X9_firstOrder_89 M a1 = some r) : PW l 6 Y_X9_firstOrder k_X9_firstOrder [vR 89, vI a1, jk, jk, jk, jk, jk] [] M r := by
  unfold F_X9_firstOrder_89 at h
  refine p_aload_n rfl ?_
  refine p_getR fk_X9_25 gt_89 rfl rfl ?_
  refine p_getI fk_X9_29 gt_16 rfl ?_
  refine p_cI (av := [_]) ⟨mok_X10_all, Or.inr ⟨74, rfl, rfl, sta_X10_all, Or.inr lk_X9_74⟩⟩ (Nat.le_of_ble_eq_true rfl) (Nat.le_of_ble_eq_true rfl) rfl (fun _ h => pc_X10_all hl h) h (fun v855 M854 h => ?_)
  refine p_istore_n (Nat.le_of_ble_eq_true rfl) rfl ?_
  refine p_aload_n rfl ?_
  refine p_getR fk_X9_15 gt_89 rfl rfl ?_
  refine p_iconst cn_0 ?_
  refine p_aload_n rfl ?_
  refine p_getR fk_X9_11 gt_89 rfl rfl ?_
  refine p_iload_n rfl ?_
  refine p_sipush cs_255 ?_
  refine p_iand ?_
  refine p_iald gt_90 h (fun h => ?_)
  refine p_iast gt_91 h (fun h => ?_)
  refine p_aload_n rfl ?_
  refine p_getR fk_X9_15 gt_89 rfl rfl ?_
  refine p_iconst cn_0 ?_
  refine p_iald gt_91 h (fun h => ?_)
  refine p_iconst cn_m1 ?_
  refine p_icmp_ne h 23 rfl rfl (fun _ h => ?_) (fun _ h => ?_)
  · refine p_iconst cn_m1 ?_
    exact p_iret rfl h
  · refine p_iconst cn_1 ?_
    refine p_istore_n (Nat.le_of_ble_eq_true rfl) rfl ?_
    exact p_fg (S_X9_firstOrder_89_41 hl FUEL h) ⟨Or.inr rfl, Or.inr rfl, Or.inr rfl, Or.inr rfl, Or.inl rfl, Or.inl rfl, Or.inl rfl, trivial⟩
set_option maxRecDepth 100000 in
theorem pc_X9_firstOrder_89 {l : Launch} (hl : l.stackTraces = false) {M : PM} {a1 : Int32} {r : PR} (h : F_X9_firstOrder_89 M a1 = some r) : PC l 6 Y_X9_firstOrder [vR 89, vI a1] M r := pc_of hl (by decide +kernel) cok_X9_firstOrder (Nat.le_of_ble_eq_true rfl) rfl (S_X9_firstOrder_89 hl  h) rfl
def F_X9_earliestEnd_89 (M : PM)  : Option PR := cI (F_X10_all M (mI M 16 12)) fun v857 M856 => if ixOK (v857 &&& 255) 256 = true then lt (mA M856 90 (v857 &&& 255).toNatClampNeg) fun y858 => (if y858 = (-1) then some (.inl (some (.int (-1))), M856) else some (.inl (some (.int (y858 - 1))), M856)) else none
set_option maxRecDepth 100000 in
theorem S_X9_earliestEnd_89 {l : Launch} (hl : l.stackTraces = false) {M : PM}  {r : PR} (h : F_X9_earliestEnd_89 M  = some r) : PW l 1 Y_X9_earliestEnd k_X9_earliestEnd [vR 89, jk] [] M r := by
  unfold F_X9_earliestEnd_89 at h
  refine p_aload_n rfl ?_
  refine p_getR fk_X9_11 gt_89 rfl rfl ?_
  refine p_aload_n rfl ?_
  refine p_getR fk_X9_25 gt_89 rfl rfl ?_
  refine p_getI fk_X9_29 gt_16 rfl ?_
  refine p_cI (av := [_]) ⟨mok_X10_all, Or.inr ⟨74, rfl, rfl, sta_X10_all, Or.inr lk_X9_74⟩⟩ (Nat.le_of_ble_eq_true rfl) (Nat.le_of_ble_eq_true rfl) rfl (fun _ h => pc_X10_all hl h) h (fun v857 M856 h => ?_)
  refine p_sipush cs_255 ?_
  refine p_iand ?_
  refine p_iald gt_90 h (fun h => ?_)
  have h := lt_h h
  refine p_istore_n (Nat.le_of_ble_eq_true rfl) rfl ?_
  refine p_iload_n rfl ?_
  refine p_iconst cn_m1 ?_
  refine p_icmp_ne h 15 rfl rfl (fun _ h => ?_) (fun _ h => ?_)
  · refine p_iconst cn_m1 ?_
    refine p_goto 18 rfl rfl ?_
    exact p_iret rfl h
  · refine p_iload_n rfl ?_
    refine p_iconst cn_1 ?_
    refine p_isub ?_
    exact p_iret rfl h
set_option maxRecDepth 100000 in
theorem pc_X9_earliestEnd_89 {l : Launch} (hl : l.stackTraces = false) {M : PM}  {r : PR} (h : F_X9_earliestEnd_89 M  = some r) : PC l 1 Y_X9_earliestEnd [vR 89] M r := pc_of hl (by decide +kernel) cok_X9_earliestEnd (Nat.le_of_ble_eq_true rfl) rfl (S_X9_earliestEnd_89 hl  h) rfl
def F_X10_soonest_0 (M : PM) (a1 : Int32) (a2 : Int32) : Option PR := bV (F_X10_needDay_0 M a1) fun M859 => bV (F_X10_needEither_0 M859 a2) fun M860 => cV (F_X9_plan_89 M860 a1) fun M861 => (if a2 = 0 then cI (F_X9_earliestEnd_89 M861) fun v865 M864 => some (.inl (some (.int v865)), M864) else cI (F_X9_firstOrder_89 M861 a1) fun v863 M862 => some (.inl (some (.int v863)), M862))
set_option maxRecDepth 100000 in
theorem S_X10_soonest_0 {l : Launch} (hl : l.stackTraces = false) {M : PM} {a1 : Int32} {a2 : Int32} {r : PR} (h : F_X10_soonest_0 M a1 a2 = some r) : PW l 8 Y_X10_soonest k_X10_soonest [vR 0, vI a1, vI a2] [] M r := by
  unfold F_X10_soonest_0 at h
  refine p_aload_n rfl ?_
  refine p_iload_n rfl ?_
  refine p_bV mok_X10_needDay rfl gt_0 rfl ins_X10_needDay lk_X10_182 (Nat.le_of_ble_eq_true rfl) (Nat.le_of_ble_eq_true rfl) rfl (fun _ h => pc_X10_needDay_0 hl h) h (fun M859 h => ?_)
  refine p_aload_n rfl ?_
  refine p_iload_n rfl ?_
  refine p_bV mok_X10_needEither rfl gt_0 rfl ins_X10_needEither lk_X10_158 (Nat.le_of_ble_eq_true rfl) (Nat.le_of_ble_eq_true rfl) rfl (fun _ h => pc_X10_needEither_0 hl h) h (fun M860 h => ?_)
  refine p_aload_n rfl ?_
  refine p_getR fk_X10_72 gt_0 rfl rfl ?_
  refine p_iload_n rfl ?_
  refine p_cV (av := [_, _]) ⟨mok_X9_plan, Or.inl ⟨324, 89, 9, 0, _, rfl, rfl, rfl, gt_89, rfl, ins_X9_plan, Or.inr lk_X10_324⟩⟩ (Nat.le_of_ble_eq_true rfl) (Nat.le_of_ble_eq_true rfl) rfl (fun _ h => pc_X9_plan_89 hl h) h (fun M861 h => ?_)
  refine p_iload_n rfl ?_
  refine p_if_ne h 16 rfl rfl (fun _ h => ?_) (fun _ h => ?_)
  · refine p_aload_n rfl ?_
    refine p_getR fk_X10_72 gt_0 rfl rfl ?_
    refine p_cI (av := [_]) ⟨mok_X9_earliestEnd, Or.inl ⟨327, 89, 9, 0, _, rfl, rfl, rfl, gt_89, rfl, ins_X9_earliestEnd, Or.inr lk_X10_327⟩⟩ (Nat.le_of_ble_eq_true rfl) (Nat.le_of_ble_eq_true rfl) rfl (fun _ h => pc_X9_earliestEnd_89 hl h) h (fun v865 M864 h => ?_)
    refine p_goto 20 rfl rfl ?_
    exact p_iret rfl h
  · refine p_aload_n rfl ?_
    refine p_getR fk_X10_72 gt_0 rfl rfl ?_
    refine p_iload_n rfl ?_
    refine p_cI (av := [_, _]) ⟨mok_X9_firstOrder, Or.inl ⟨330, 89, 9, 0, _, rfl, rfl, rfl, gt_89, rfl, ins_X9_firstOrder, Or.inr lk_X10_330⟩⟩ (Nat.le_of_ble_eq_true rfl) (Nat.le_of_ble_eq_true rfl) rfl (fun _ h => pc_X9_firstOrder_89 hl h) h (fun v863 M862 h => ?_)
    exact p_iret rfl h
set_option maxRecDepth 100000 in
theorem pc_X10_soonest_0 {l : Launch} (hl : l.stackTraces = false) {M : PM} {a1 : Int32} {a2 : Int32} {r : PR} (h : F_X10_soonest_0 M a1 a2 = some r) : PC l 8 Y_X10_soonest [vR 0, vI a1, vI a2] M r := pc_of hl (by decide +kernel) cok_X10_soonest (Nat.le_of_ble_eq_true rfl) rfl (S_X10_soonest_0 hl  h) rfl
def F_X10_rest_0 (M : PM)  : Option PR := lt (mI M 16 12) fun y866 => some (.inl (some (.int y866)), sI M 16 12 0)
set_option maxRecDepth 100000 in
theorem S_X10_rest_0 {l : Launch} (hl : l.stackTraces = false) {M : PM}  {r : PR} (h : F_X10_rest_0 M  = some r) : PW l 0 Y_X10_rest k_X10_rest [vR 0, jk] [] M r := by
  unfold F_X10_rest_0 at h
  refine p_aload_n rfl ?_
  refine p_getR fk_X10_34 gt_0 rfl rfl ?_
  refine p_getI fk_X10_333 gt_16 rfl ?_
  have h := lt_h h
  refine p_istore_n (Nat.le_of_ble_eq_true rfl) rfl ?_
  refine p_aload_n rfl ?_
  refine p_getR fk_X10_34 gt_0 rfl rfl ?_
  refine p_iconst cn_0 ?_
  refine p_putI fk_X10_333 gt_16 rfl ?_
  refine p_iload_n rfl ?_
  exact p_iret rfl h
set_option maxRecDepth 100000 in
theorem pc_X10_rest_0 {l : Launch} (hl : l.stackTraces = false) {M : PM}  {r : PR} (h : F_X10_rest_0 M  = some r) : PC l 0 Y_X10_rest [vR 0] M r := pc_of hl (by decide +kernel) cok_X10_rest (Nat.le_of_ble_eq_true rfl) rfl (S_X10_rest_0 hl  h) rfl
def F_X10_needTwoLaws_0 (M : PM) (a1 : Int32) (a2 : Int32) : Option PR := bV (F_X10_needLaw_0 M a1) fun M867 => bV (F_X10_needLaw_0 M867 a2) fun M868 => (if a1 = a2 then bV (F_X10_need_0 M868 0) fun M869 => some (.inl none, M869) else bV (F_X10_need_0 M868 1) fun M870 => some (.inl none, M870))
set_option maxRecDepth 100000 in
theorem S_X10_needTwoLaws_0 {l : Launch} (hl : l.stackTraces = false) {M : PM} {a1 : Int32} {a2 : Int32} {r : PR} (h : F_X10_needTwoLaws_0 M a1 a2 = some r) : PW l 8 Y_X10_needTwoLaws k_X10_needTwoLaws [vR 0, vI a1, vI a2] [] M r := by
  unfold F_X10_needTwoLaws_0 at h
  refine p_aload_n rfl ?_
  refine p_iload_n rfl ?_
  refine p_bV mok_X10_needLaw rfl gt_0 rfl ins_X10_needLaw lk_X10_155 (Nat.le_of_ble_eq_true rfl) (Nat.le_of_ble_eq_true rfl) rfl (fun _ h => pc_X10_needLaw_0 hl h) h (fun M867 h => ?_)
  refine p_aload_n rfl ?_
  refine p_iload_n rfl ?_
  refine p_bV mok_X10_needLaw rfl gt_0 rfl ins_X10_needLaw lk_X10_155 (Nat.le_of_ble_eq_true rfl) (Nat.le_of_ble_eq_true rfl) rfl (fun _ h => pc_X10_needLaw_0 hl h) h (fun M868 h => ?_)
  refine p_aload_n rfl ?_
  refine p_iload_n rfl ?_
  refine p_iload_n rfl ?_
  refine p_icmp_eq h 12 rfl rfl (fun _ h => ?_) (fun _ h => ?_)
  · refine p_iconst cn_0 ?_
    refine p_bV mok_X10_need rfl gt_0 rfl ins_X10_need lk_X10_101 (Nat.le_of_ble_eq_true rfl) (Nat.le_of_ble_eq_true rfl) rfl (fun _ h => pc_X10_need_0 hl h) h (fun M869 h => ?_)
    exact p_ret rfl h
  · refine p_iconst cn_1 ?_
    refine p_goto 13 rfl rfl ?_
    refine p_bV mok_X10_need rfl gt_0 rfl ins_X10_need lk_X10_101 (Nat.le_of_ble_eq_true rfl) (Nat.le_of_ble_eq_true rfl) rfl (fun _ h => pc_X10_need_0 hl h) h (fun M870 h => ?_)
    exact p_ret rfl h
set_option maxRecDepth 100000 in
theorem pc_X10_needTwoLaws_0 {l : Launch} (hl : l.stackTraces = false) {M : PM} {a1 : Int32} {a2 : Int32} {r : PR} (h : F_X10_needTwoLaws_0 M a1 a2 = some r) : PC l 8 Y_X10_needTwoLaws [vR 0, vI a1, vI a2] M r := pc_of hl (by decide +kernel) cok_X10_needTwoLaws (Nat.le_of_ble_eq_true rfl) rfl (S_X10_needTwoLaws_0 hl  h) rfl
def F_X2_daysWithout_4 (M : PM) (a1 : Int32) (a2 : Int32) (a3 : Int32) : Option PR := cI (F_X2_weekOf_4 M a1) fun v872 M871 => cI (F_X2_weekOf_4 M871 a2) fun v874 M873 => cI (F_X10_commonTurn M873 v872 v874) fun v876 M875 => (if v876 < 1 then some (.inl (some (.int 0)), M875) else cI (F_X2_weekOf_4 M875 a1) fun v878 M877 => (if 1 ≤ v878 then cI (F_X2_weekOf_4 M877 a1) fun v880 M879 => if v880 = 0 then none else cI (F_X2_meetingWith_4 M879 a1) fun v882 M881 => cI (F_X10_isIn M881 a2 v882) fun v884 M883 => (if v884 = 0 then some (.inl (some (.int ((a3 / v880) - 0))), M883) else if v876 = 0 then none else some (.inl (some (.int ((a3 / v880) - (a3 / v876)))), M883)) else some (.inl (some (.int 0)), M877)))
set_option maxRecDepth 100000 in
theorem S_X2_daysWithout_4 {l : Launch} (hl : l.stackTraces = false) {M : PM} {a1 : Int32} {a2 : Int32} {a3 : Int32} {r : PR} (h : F_X2_daysWithout_4 M a1 a2 a3 = some r) : PW l 2 Y_X2_daysWithout k_X2_daysWithout [vR 4, vI a1, vI a2, vI a3, jk] [] M r := by
  unfold F_X2_daysWithout_4 at h
  refine p_aload_n rfl ?_
  refine p_iload_n rfl ?_
  refine p_cI (av := [_, _]) ⟨mok_X2_weekOf, Or.inl ⟨105, 4, 2, 0, _, rfl, rfl, rfl, gt_4, rfl, ins_X2_weekOf, Or.inl lk_X2_105⟩⟩ (Nat.le_of_ble_eq_true rfl) (Nat.le_of_ble_eq_true rfl) rfl (fun _ h => pc_X2_weekOf_4 hl h) h (fun v872 M871 h => ?_)
  refine p_aload_n rfl ?_
  refine p_iload_n rfl ?_
  refine p_cI (av := [_, _]) ⟨mok_X2_weekOf, Or.inl ⟨105, 4, 2, 0, _, rfl, rfl, rfl, gt_4, rfl, ins_X2_weekOf, Or.inl lk_X2_105⟩⟩ (Nat.le_of_ble_eq_true rfl) (Nat.le_of_ble_eq_true rfl) rfl (fun _ h => pc_X2_weekOf_4 hl h) h (fun v874 M873 h => ?_)
  refine p_cI (av := [_, _]) ⟨mok_X10_commonTurn, Or.inr ⟨68, rfl, rfl, sta_X10_commonTurn, Or.inr lk_X2_68⟩⟩ (Nat.le_of_ble_eq_true rfl) (Nat.le_of_ble_eq_true rfl) rfl (fun _ h => pc_X10_commonTurn hl h) h (fun v876 M875 h => ?_)
  refine p_istore (Nat.le_of_ble_eq_true rfl) rfl ?_
  refine p_iload rfl ?_
  refine p_iconst cn_1 ?_
  refine p_icmp_lt h 16 rfl rfl (fun _ h => ?_) (fun _ h => ?_)
  · refine p_iconst cn_0 ?_
    exact p_iret rfl h
  · refine p_aload_n rfl ?_
    refine p_iload_n rfl ?_
    refine p_cI (av := [_, _]) ⟨mok_X2_weekOf, Or.inl ⟨105, 4, 2, 0, _, rfl, rfl, rfl, gt_4, rfl, ins_X2_weekOf, Or.inl lk_X2_105⟩⟩ (Nat.le_of_ble_eq_true rfl) (Nat.le_of_ble_eq_true rfl) rfl (fun _ h => pc_X2_weekOf_4 hl h) h (fun v878 M877 h => ?_)
    refine p_iconst cn_1 ?_
    refine p_icmp_ge h 18 rfl rfl (fun _ h => ?_) (fun _ h => ?_)
    · refine p_iload_n rfl ?_
      refine p_aload_n rfl ?_
      refine p_iload_n rfl ?_
      refine p_cI (av := [_, _]) ⟨mok_X2_weekOf, Or.inl ⟨105, 4, 2, 0, _, rfl, rfl, rfl, gt_4, rfl, ins_X2_weekOf, Or.inl lk_X2_105⟩⟩ (Nat.le_of_ble_eq_true rfl) (Nat.le_of_ble_eq_true rfl) rfl (fun _ h => pc_X2_weekOf_4 hl h) h (fun v880 M879 h => ?_)
      refine p_idiv h (fun h => ?_)
      refine p_iload_n rfl ?_
      refine p_aload_n rfl ?_
      refine p_iload_n rfl ?_
      refine p_cI (av := [_, _]) ⟨mok_X2_meetingWith, Or.inl ⟨108, 4, 2, 0, _, rfl, rfl, rfl, gt_4, rfl, ins_X2_meetingWith, Or.inl lk_X2_108⟩⟩ (Nat.le_of_ble_eq_true rfl) (Nat.le_of_ble_eq_true rfl) rfl (fun _ h => pc_X2_meetingWith_4 hl h) h (fun v882 M881 h => ?_)
      refine p_cI (av := [_, _]) ⟨mok_X10_isIn, Or.inr ⟨61, rfl, rfl, sta_X10_isIn, Or.inr lk_X2_61⟩⟩ (Nat.le_of_ble_eq_true rfl) (Nat.le_of_ble_eq_true rfl) rfl (fun _ h => pc_X10_isIn hl h) h (fun v884 M883 h => ?_)
      refine p_if_eq h 33 rfl rfl (fun _ h => ?_) (fun _ h => ?_)
      · refine p_iconst cn_0 ?_
        refine p_isub ?_
        exact p_iret rfl h
      · refine p_iload_n rfl ?_
        refine p_iload rfl ?_
        refine p_idiv h (fun h => ?_)
        refine p_goto 34 rfl rfl ?_
        refine p_isub ?_
        exact p_iret rfl h
    · refine p_iconst cn_0 ?_
      exact p_iret rfl h
set_option maxRecDepth 100000 in
theorem pc_X2_daysWithout_4 {l : Launch} (hl : l.stackTraces = false) {M : PM} {a1 : Int32} {a2 : Int32} {a3 : Int32} {r : PR} (h : F_X2_daysWithout_4 M a1 a2 a3 = some r) : PC l 2 Y_X2_daysWithout [vR 4, vI a1, vI a2, vI a3] M r := pc_of hl (by decide +kernel) cok_X2_daysWithout (Nat.le_of_ble_eq_true rfl) rfl (S_X2_daysWithout_4 hl  h) rfl
def F_X10_thief_0 (M : PM) (a1 : Int32) (a2 : Int32) : Option PR := bV (F_X10_needTwoLaws_0 M a1 a2) fun M885 => cI (F_X2_daysWithout_4 M885 a1 a2 (mI M885 3 6)) fun v887 M886 => some (.inl (some (.int v887)), M886)
set_option maxRecDepth 100000 in
theorem S_X10_thief_0 {l : Launch} (hl : l.stackTraces = false) {M : PM} {a1 : Int32} {a2 : Int32} {r : PR} (h : F_X10_thief_0 M a1 a2 = some r) : PW l 9 Y_X10_thief k_X10_thief [vR 0, vI a1, vI a2] [] M r := by
  unfold F_X10_thief_0 at h
  refine p_aload_n rfl ?_
  refine p_iload_n rfl ?_
  refine p_iload_n rfl ?_
  refine p_bV mok_X10_needTwoLaws rfl gt_0 rfl ins_X10_needTwoLaws lk_X10_335 (Nat.le_of_ble_eq_true rfl) (Nat.le_of_ble_eq_true rfl) rfl (fun _ h => pc_X10_needTwoLaws_0 hl h) h (fun M885 h => ?_)
  refine p_aload_n rfl ?_
  refine p_getR fk_X10_27 gt_0 rfl rfl ?_
  refine p_getR fk_X10_128 gt_3 rfl rfl ?_
  refine p_iload_n rfl ?_
  refine p_iload_n rfl ?_
  refine p_aload_n rfl ?_
  refine p_getR fk_X10_27 gt_0 rfl rfl ?_
  refine p_getI fk_X10_149 gt_3 rfl ?_
  refine p_cI (av := [_, _, _, _]) ⟨mok_X2_daysWithout, Or.inl ⟨338, 4, 2, 0, _, rfl, rfl, rfl, gt_4, rfl, ins_X2_daysWithout, Or.inr lk_X10_338⟩⟩ (Nat.le_of_ble_eq_true rfl) (Nat.le_of_ble_eq_true rfl) rfl (fun _ h => pc_X2_daysWithout_4 hl h) h (fun v887 M886 h => ?_)
  exact p_iret rfl h
set_option maxRecDepth 100000 in
theorem pc_X10_thief_0 {l : Launch} (hl : l.stackTraces = false) {M : PM} {a1 : Int32} {a2 : Int32} {r : PR} (h : F_X10_thief_0 M a1 a2 = some r) : PC l 9 Y_X10_thief [vR 0, vI a1, vI a2] M r := pc_of hl (by decide +kernel) cok_X10_thief (Nat.le_of_ble_eq_true rfl) rfl (S_X10_thief_0 hl  h) rfl
def F_X2_watchDay_4_86 (k42 : PM → Int32 → Int32 → Int32 → Int32 → Int32 → Int32 → Option PR) (M : PM) (x1 : Int32) (x2 : Int32) (x3 : Int32) (x5 : Int32) (x6 : Int32) (x7 : Int32) : Option PR := cI (F_X2_weekOf_4 M x1) fun v889 M888 => cI (F_J9_max_7cf53 M888 v889 1) fun v891 M890 => lt (x7 + v891) fun y892 => k42 M890 x1 x2 x3 x5 x6 y892
def F_X2_watchDay_4_82 (k42 : PM → Int32 → Int32 → Int32 → Int32 → Int32 → Int32 → Option PR) (M : PM) (x1 : Int32) (x2 : Int32) (x3 : Int32) (x5 : Int32) (x7 : Int32) (x8 : Int32) : Option PR := F_X2_watchDay_4_86 k42 M x1 x2 x3 x5 x8 x7
def F_X2_watchDay_4_42 : Nat → PM → Int32 → Int32 → Int32 → Int32 → Int32 → Int32 → Option PR
  | 0, _, _, _, _, _, _, _ => none
  | n + 1, M, x1, x2, x3, x5, x6, x7 => (if x5 ≤ x7 then some (.inl (some (.int x6)), M) else cI (F_X2_isHeld_4 M x2 x7) fun v894 M893 => (if v894 = 0 then cI (F_X10_left M893 x7 x3) fun v896 M895 => (if x6 = (-1) then F_X2_watchDay_4_82 (F_X2_watchDay_4_42 n) M895 x1 x2 x3 x5 x7 v896 else (if x6 = v896 then F_X2_watchDay_4_82 (F_X2_watchDay_4_42 n) M895 x1 x2 x3 x5 x7 v896 else some (.inl (some (.int (-1))), M895))) else F_X2_watchDay_4_86 (F_X2_watchDay_4_42 n) M893 x1 x2 x3 x5 x6 x7))
def F_X2_watchDay_4_30 (M : PM) (x1 : Int32) (x2 : Int32) (x3 : Int32) (t0 : Int32) : Option PR := cI (F_X2_dayOf_4 M x1) fun v898 M897 => F_X2_watchDay_4_42 FUEL M897 x1 x2 x3 t0 (-1) v898
def F_X2_watchDay_4 (M : PM) (a1 : Int32) (a2 : Int32) (a3 : Int32) : Option PR := cI (F_X2_weekOf_4 M a1) fun v900 M899 => cI (F_X2_weekOf_4 M899 a2) fun v902 M901 => cI (F_X10_commonTurn M901 v900 v902) fun v904 M903 => cI (F_X10_left M903 v904 a3) fun v906 M905 => (if v906 = 0 then F_X2_watchDay_4_30 M905 a1 a2 a3 v904 else F_X2_watchDay_4_30 M905 a1 a2 a3 0)
set_option maxRecDepth 100000 in
theorem S_X2_watchDay_4_86 {l : Launch} (hl : l.stackTraces = false) {k42 : PM → Int32 → Int32 → Int32 → Int32 → Int32 → Int32 → Option PR} (hk42 : ∀ {M : PM} {x1 : Int32} {x2 : Int32} {x3 : Int32} {x5 : Int32} {x6 : Int32} {x7 : Int32} {r : PR}, k42 M x1 x2 x3 x5 x6 x7 = some r → PW l 2 Y_X2_watchDay k_X2_watchDay_42 [vR 4, vI x1, vI x2, vI x3, jk, vI x5, vI x6, vI x7, jk] [] M r) {M : PM} {x1 : Int32} {x2 : Int32} {x3 : Int32} {x5 : Int32} {x6 : Int32} {x7 : Int32} {r : PR} (h : F_X2_watchDay_4_86 k42 M x1 x2 x3 x5 x6 x7 = some r) : PW l 2 Y_X2_watchDay k_X2_watchDay_86 [vR 4, vI x1, vI x2, vI x3, jk, vI x5, vI x6, vI x7, jk] [] M r := by
  unfold F_X2_watchDay_4_86 at h
  refine p_iload rfl ?_
  refine p_aload_n rfl ?_
  refine p_iload_n rfl ?_
  refine p_cI (av := [_, _]) ⟨mok_X2_weekOf, Or.inl ⟨105, 4, 2, 0, _, rfl, rfl, rfl, gt_4, rfl, ins_X2_weekOf, Or.inl lk_X2_105⟩⟩ (Nat.le_of_ble_eq_true rfl) (Nat.le_of_ble_eq_true rfl) rfl (fun _ h => pc_X2_weekOf_4 hl h) h (fun v889 M888 h => ?_)
  refine p_iconst cn_1 ?_
  refine p_cI (av := [_, _]) ⟨mok_J9_max_7cf53, Or.inr ⟨9, rfl, rfl, sta_J9_max_7cf53, Or.inl lk_X2_9⟩⟩ (Nat.le_of_ble_eq_true rfl) (Nat.le_of_ble_eq_true rfl) rfl (fun _ h => pc_J9_max_7cf53 hl h) h (fun v891 M890 h => ?_)
  refine p_iadd ?_
  have h := lt_h h
  refine p_istore (Nat.le_of_ble_eq_true rfl) rfl ?_
  refine p_goto 22 rfl rfl ?_
  exact p_fg (hk42 h) ⟨Or.inr rfl, Or.inr rfl, Or.inr rfl, Or.inr rfl, Or.inl rfl, Or.inr rfl, Or.inr rfl, Or.inr rfl, Or.inl rfl, trivial⟩
set_option maxRecDepth 100000 in
theorem S_X2_watchDay_4_82 {l : Launch} (hl : l.stackTraces = false) {k42 : PM → Int32 → Int32 → Int32 → Int32 → Int32 → Int32 → Option PR} (hk42 : ∀ {M : PM} {x1 : Int32} {x2 : Int32} {x3 : Int32} {x5 : Int32} {x6 : Int32} {x7 : Int32} {r : PR}, k42 M x1 x2 x3 x5 x6 x7 = some r → PW l 2 Y_X2_watchDay k_X2_watchDay_42 [vR 4, vI x1, vI x2, vI x3, jk, vI x5, vI x6, vI x7, jk] [] M r) {M : PM} {x1 : Int32} {x2 : Int32} {x3 : Int32} {x5 : Int32} {x7 : Int32} {x8 : Int32} {r : PR} (h : F_X2_watchDay_4_82 k42 M x1 x2 x3 x5 x7 x8 = some r) : PW l 2 Y_X2_watchDay k_X2_watchDay_82 [vR 4, vI x1, vI x2, vI x3, jk, vI x5, jk, vI x7, vI x8] [] M r := by
  unfold F_X2_watchDay_4_82 at h
  refine p_iload rfl ?_
  refine p_istore (Nat.le_of_ble_eq_true rfl) rfl ?_
  exact p_fg (S_X2_watchDay_4_86 hl hk42 h) ⟨Or.inr rfl, Or.inr rfl, Or.inr rfl, Or.inr rfl, Or.inl rfl, Or.inr rfl, Or.inr rfl, Or.inr rfl, Or.inl rfl, trivial⟩
set_option maxRecDepth 100000 in
theorem S_X2_watchDay_4_42 {l : Launch} (hl : l.stackTraces = false) : ∀ (n : Nat) {M : PM} {x1 : Int32} {x2 : Int32} {x3 : Int32} {x5 : Int32} {x6 : Int32} {x7 : Int32} {r : PR}, F_X2_watchDay_4_42  n M x1 x2 x3 x5 x6 x7 = some r → PW l 2 Y_X2_watchDay k_X2_watchDay_42 [vR 4, vI x1, vI x2, vI x3, jk, vI x5, vI x6, vI x7, jk] [] M r := by
  intro n
  induction n with
  | zero => intro M x1 x2 x3 x5 x6 x7 r h; exact nomatch (show (none : Option PR) = some r from h)
  | succ n ih =>
    intro M x1 x2 x3 x5 x6 x7 r h
    rw [F_X2_watchDay_4_42] at h
    refine p_iload rfl ?_
    refine p_iload rfl ?_
    refine p_icmp_ge h 53 rfl rfl (fun _ h => ?_) (fun _ h => ?_)
    · refine p_iload rfl ?_
      exact p_iret rfl h
    · refine p_aload_n rfl ?_
      refine p_iload_n rfl ?_
      refine p_iload rfl ?_
      refine p_cI (av := [_, _, _]) ⟨mok_X2_isHeld, Or.inl ⟨71, 4, 2, 0, _, rfl, rfl, rfl, gt_4, rfl, ins_X2_isHeld, Or.inl lk_X2_71⟩⟩ (Nat.le_of_ble_eq_true rfl) (Nat.le_of_ble_eq_true rfl) rfl (fun _ h => pc_X2_isHeld_4 hl h) h (fun v894 M893 h => ?_)
      refine p_if_ne h 44 rfl rfl (fun _ h => ?_) (fun _ h => ?_)
      · refine p_iload rfl ?_
        refine p_iload_n rfl ?_
        refine p_cI (av := [_, _]) ⟨mok_X10_left, Or.inr ⟨54, rfl, rfl, sta_X10_left, Or.inr lk_X2_54⟩⟩ (Nat.le_of_ble_eq_true rfl) (Nat.le_of_ble_eq_true rfl) rfl (fun _ h => pc_X10_left hl h) h (fun v896 M895 h => ?_)
        refine p_istore (Nat.le_of_ble_eq_true rfl) rfl ?_
        refine p_iload rfl ?_
        refine p_iconst cn_m1 ?_
        refine p_icmp_eq h 42 rfl rfl (fun _ h => ?_) (fun _ h => ?_)
        · exact p_fg (S_X2_watchDay_4_82 hl (fun h => ih h) h) ⟨Or.inr rfl, Or.inr rfl, Or.inr rfl, Or.inr rfl, Or.inl rfl, Or.inr rfl, Or.inl rfl, Or.inr rfl, Or.inr rfl, trivial⟩
        · refine p_iload rfl ?_
          refine p_iload rfl ?_
          refine p_icmp_eq h 42 rfl rfl (fun _ h => ?_) (fun _ h => ?_)
          · exact p_fg (S_X2_watchDay_4_82 hl (fun h => ih h) h) ⟨Or.inr rfl, Or.inr rfl, Or.inr rfl, Or.inr rfl, Or.inl rfl, Or.inr rfl, Or.inl rfl, Or.inr rfl, Or.inr rfl, trivial⟩
          · refine p_iconst cn_m1 ?_
            exact p_iret rfl h
      · exact p_fg (S_X2_watchDay_4_86 hl (fun h => ih h) h) ⟨Or.inr rfl, Or.inr rfl, Or.inr rfl, Or.inr rfl, Or.inl rfl, Or.inr rfl, Or.inr rfl, Or.inr rfl, Or.inl rfl, trivial⟩
set_option maxRecDepth 100000 in
theorem S_X2_watchDay_4_30 {l : Launch} (hl : l.stackTraces = false) {M : PM} {x1 : Int32} {x2 : Int32} {x3 : Int32} {t0 : Int32} {r : PR} (h : F_X2_watchDay_4_30  M x1 x2 x3 t0 = some r) : PW l 2 Y_X2_watchDay k_X2_watchDay_30 [vR 4, vI x1, vI x2, vI x3, jk, jk, jk, jk, jk] [vI t0] M r := by
  unfold F_X2_watchDay_4_30 at h
  refine p_istore (Nat.le_of_ble_eq_true rfl) rfl ?_
  refine p_iconst cn_m1 ?_
  refine p_istore (Nat.le_of_ble_eq_true rfl) rfl ?_
  refine p_aload_n rfl ?_
  refine p_iload_n rfl ?_
  refine p_cI (av := [_, _]) ⟨mok_X2_dayOf, Or.inl ⟨111, 4, 2, 0, _, rfl, rfl, rfl, gt_4, rfl, ins_X2_dayOf, Or.inl lk_X2_111⟩⟩ (Nat.le_of_ble_eq_true rfl) (Nat.le_of_ble_eq_true rfl) rfl (fun _ h => pc_X2_dayOf_4 hl h) h (fun v898 M897 h => ?_)
  refine p_istore (Nat.le_of_ble_eq_true rfl) rfl ?_
  exact p_fg (S_X2_watchDay_4_42 hl FUEL h) ⟨Or.inr rfl, Or.inr rfl, Or.inr rfl, Or.inr rfl, Or.inl rfl, Or.inr rfl, Or.inr rfl, Or.inr rfl, Or.inl rfl, trivial⟩
set_option maxRecDepth 100000 in
theorem S_X2_watchDay_4 {l : Launch} (hl : l.stackTraces = false) {M : PM} {a1 : Int32} {a2 : Int32} {a3 : Int32} {r : PR} (h : F_X2_watchDay_4 M a1 a2 a3 = some r) : PW l 2 Y_X2_watchDay k_X2_watchDay [vR 4, vI a1, vI a2, vI a3, jk, jk, jk, jk, jk] [] M r := by
  unfold F_X2_watchDay_4 at h
  refine p_aload_n rfl ?_
  refine p_iload_n rfl ?_
  refine p_cI (av := [_, _]) ⟨mok_X2_weekOf, Or.inl ⟨105, 4, 2, 0, _, rfl, rfl, rfl, gt_4, rfl, ins_X2_weekOf, Or.inl lk_X2_105⟩⟩ (Nat.le_of_ble_eq_true rfl) (Nat.le_of_ble_eq_true rfl) rfl (fun _ h => pc_X2_weekOf_4 hl h) h (fun v900 M899 h => ?_)
  refine p_aload_n rfl ?_
  refine p_iload_n rfl ?_
  refine p_cI (av := [_, _]) ⟨mok_X2_weekOf, Or.inl ⟨105, 4, 2, 0, _, rfl, rfl, rfl, gt_4, rfl, ins_X2_weekOf, Or.inl lk_X2_105⟩⟩ (Nat.le_of_ble_eq_true rfl) (Nat.le_of_ble_eq_true rfl) rfl (fun _ h => pc_X2_weekOf_4 hl h) h (fun v902 M901 h => ?_)
  refine p_cI (av := [_, _]) ⟨mok_X10_commonTurn, Or.inr ⟨68, rfl, rfl, sta_X10_commonTurn, Or.inr lk_X2_68⟩⟩ (Nat.le_of_ble_eq_true rfl) (Nat.le_of_ble_eq_true rfl) rfl (fun _ h => pc_X10_commonTurn hl h) h (fun v904 M903 h => ?_)
  refine p_istore (Nat.le_of_ble_eq_true rfl) rfl ?_
  refine p_iload rfl ?_
  refine p_iload_n rfl ?_
  refine p_cI (av := [_, _]) ⟨mok_X10_left, Or.inr ⟨54, rfl, rfl, sta_X10_left, Or.inr lk_X2_54⟩⟩ (Nat.le_of_ble_eq_true rfl) (Nat.le_of_ble_eq_true rfl) rfl (fun _ h => pc_X10_left hl h) h (fun v906 M905 h => ?_)
  refine p_if_ne h 14 rfl rfl (fun _ h => ?_) (fun _ h => ?_)
  · refine p_iload rfl ?_
    refine p_goto 15 rfl rfl ?_
    exact p_fg (S_X2_watchDay_4_30 hl h) ⟨Or.inr rfl, Or.inr rfl, Or.inr rfl, Or.inr rfl, Or.inl rfl, Or.inl rfl, Or.inl rfl, Or.inl rfl, Or.inl rfl, trivial⟩
  · refine p_iconst cn_0 ?_
    exact p_fg (S_X2_watchDay_4_30 hl h) ⟨Or.inr rfl, Or.inr rfl, Or.inr rfl, Or.inr rfl, Or.inl rfl, Or.inl rfl, Or.inl rfl, Or.inl rfl, Or.inl rfl, trivial⟩
set_option maxRecDepth 100000 in
theorem pc_X2_watchDay_4 {l : Launch} (hl : l.stackTraces = false) {M : PM} {a1 : Int32} {a2 : Int32} {a3 : Int32} {r : PR} (h : F_X2_watchDay_4 M a1 a2 a3 = some r) : PC l 2 Y_X2_watchDay [vR 4, vI a1, vI a2, vI a3] M r := pc_of hl (by decide +kernel) cok_X2_watchDay (Nat.le_of_ble_eq_true rfl) rfl (S_X2_watchDay_4 hl  h) rfl
def F_X10_guard_0_9 : Nat → PM → Int32 → Int32 → Int32 → Option PR
  | 0, _, _, _, _ => none
  | n + 1, M, x1, x2, x3 => (if x3 < 2 then some (.inl (some (.int (-1))), M) else cI (F_X2_watchDay_4 M x1 x2 x3) fun v908 M907 => (if v908 = (-1) then lt (x3 + (-1)) fun y909 => F_X10_guard_0_9 n M907 x1 x2 y909 else some (.inl (some (.int ((100 * x3) + v908))), M907)))
def F_X10_guard_0 (M : PM) (a1 : Int32) (a2 : Int32) : Option PR := bV (F_X10_needTwoLaws_0 M a1 a2) fun M910 => F_X10_guard_0_9 FUEL M910 a1 a2 24
set_option maxRecDepth 100000 in
theorem S_X10_guard_0_9 {l : Launch} (hl : l.stackTraces = false) : ∀ (n : Nat) {M : PM} {x1 : Int32} {x2 : Int32} {x3 : Int32} {r : PR}, F_X10_guard_0_9  n M x1 x2 x3 = some r → PW l 9 Y_X10_guard k_X10_guard_9 [vR 0, vI x1, vI x2, vI x3, jk] [] M r := by
  intro n
  induction n with
  | zero => intro M x1 x2 x3 r h; exact nomatch (show (none : Option PR) = some r from h)
  | succ n ih =>
    intro M x1 x2 x3 r h
    rw [F_X10_guard_0_9] at h
    refine p_iload_n rfl ?_
    refine p_iconst cn_2 ?_
    refine p_icmp_lt h 28 rfl rfl (fun _ h => ?_) (fun _ h => ?_)
    · refine p_iconst cn_m1 ?_
      exact p_iret rfl h
    · refine p_aload_n rfl ?_
      refine p_getR fk_X10_27 gt_0 rfl rfl ?_
      refine p_getR fk_X10_128 gt_3 rfl rfl ?_
      refine p_iload_n rfl ?_
      refine p_iload_n rfl ?_
      refine p_iload_n rfl ?_
      refine p_cI (av := [_, _, _, _]) ⟨mok_X2_watchDay, Or.inl ⟨341, 4, 2, 0, _, rfl, rfl, rfl, gt_4, rfl, ins_X2_watchDay, Or.inr lk_X10_341⟩⟩ (Nat.le_of_ble_eq_true rfl) (Nat.le_of_ble_eq_true rfl) rfl (fun _ h => pc_X2_watchDay_4 hl h) h (fun v908 M907 h => ?_)
      refine p_istore (Nat.le_of_ble_eq_true rfl) rfl ?_
      refine p_iload rfl ?_
      refine p_iconst cn_m1 ?_
      refine p_icmp_eq h 26 rfl rfl (fun _ h => ?_) (fun _ h => ?_)
      · have h := lt_h h
        refine p_iinc (Nat.le_of_ble_eq_true rfl) rfl (ci_m1 _) rfl ?_
        refine p_goto 6 rfl rfl ?_
        exact p_fg (ih h) ⟨Or.inr rfl, Or.inr rfl, Or.inr rfl, Or.inr rfl, Or.inl rfl, trivial⟩
      · refine p_bipush cb_100 ?_
        refine p_iload_n rfl ?_
        refine p_imul ?_
        refine p_iload rfl ?_
        refine p_iadd ?_
        exact p_iret rfl h
set_option maxRecDepth 100000 in
theorem S_X10_guard_0 {l : Launch} (hl : l.stackTraces = false) {M : PM} {a1 : Int32} {a2 : Int32} {r : PR} (h : F_X10_guard_0 M a1 a2 = some r) : PW l 9 Y_X10_guard k_X10_guard [vR 0, vI a1, vI a2, jk, jk] [] M r := by
  unfold F_X10_guard_0 at h
  refine p_aload_n rfl ?_
  refine p_iload_n rfl ?_
  refine p_iload_n rfl ?_
  refine p_bV mok_X10_needTwoLaws rfl gt_0 rfl ins_X10_needTwoLaws lk_X10_335 (Nat.le_of_ble_eq_true rfl) (Nat.le_of_ble_eq_true rfl) rfl (fun _ h => pc_X10_needTwoLaws_0 hl h) h (fun M910 h => ?_)
  refine p_bipush cb_24 ?_
  refine p_istore_n (Nat.le_of_ble_eq_true rfl) rfl ?_
  exact p_fg (S_X10_guard_0_9 hl FUEL h) ⟨Or.inr rfl, Or.inr rfl, Or.inr rfl, Or.inr rfl, Or.inl rfl, trivial⟩
set_option maxRecDepth 100000 in
theorem pc_X10_guard_0 {l : Launch} (hl : l.stackTraces = false) {M : PM} {a1 : Int32} {a2 : Int32} {r : PR} (h : F_X10_guard_0 M a1 a2 = some r) : PC l 9 Y_X10_guard [vR 0, vI a1, vI a2] M r := pc_of hl (by decide +kernel) cok_X10_guard (Nat.le_of_ble_eq_true rfl) rfl (S_X10_guard_0 hl  h) rfl
