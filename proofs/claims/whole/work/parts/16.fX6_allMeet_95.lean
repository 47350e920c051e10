def F_X6_allMeet_95_36 (k2 : PM → Int32 → Int32 → Option PR) (M : PM) (x1 : Int32) (x2 : Int32) : Option PR := lt (x2 + 1) fun y592 => k2 M x1 y592
def F_X6_allMeet_95_2 : Nat → PM → Int32 → Int32 → Option PR
  | 0, _, _, _ => none
  | n + 1, M, x1, x2 => (if 6 ≤ x2 then (if (1 : Int32) &&& 1 = 1 then some (.inl (some (.int 1)), M) else none) else cI (F_X10_isIn M x2 x1) fun v594 M593 => (if v594 = 0 then F_X6_allMeet_95_36 (F_X6_allMeet_95_2 n) M593 x1 x2 else cI (F_X10_all M593 x2) fun v596 M595 => if ixOK x2 6 = true then (if (x1 &&& v596) &&& ((mA M595 98 x2.toNatClampNeg) ^^^ (-1)) = 0 then F_X6_allMeet_95_36 (F_X6_allMeet_95_2 n) M595 x1 x2 else (if (0 : Int32) &&& 1 = 0 then some (.inl (some (.int 0)), M595) else none)) else none))
def F_X6_allMeet_95 (M : PM) (a1 : Int32) : Option PR := F_X6_allMeet_95_2 FUEL M a1 0
set_option maxRecDepth 100000 in
theorem S_X6_allMeet_95_36 {l : Launch} (hl : l.stackTraces = false) {k2 : PM → Int32 → Int32 → Option PR} (hk2 : ∀ {M : PM} {x1 : Int32} {x2 : Int32} {r : PR}, k2 M x1 x2 = some r → PW l 1 Y_X6_allMeet k_X6_allMeet_2 [vR 95, vI x1, vI x2] [] M r) {M : PM} {x1 : Int32} {x2 : Int32} {r : PR} (h : F_X6_allMeet_95_36 k2 M x1 x2 = some r) : PW l 1 Y_X6_allMeet k_X6_allMeet_36 [vR 95, vI x1, vI x2] [] M r := by
  unfold F_X6_allMeet_95_36 at h
  have h := lt_h h
  refine p_iinc (Nat.le_of_ble_eq_true rfl) rfl (ci_1 _) rfl ?_
  refine p_goto 2 rfl rfl ?_
  exact p_fg (hk2 h) ⟨Or.inr rfl, Or.inr rfl, Or.inr rfl, trivial⟩
set_option maxRecDepth 100000 in
theorem S_X6_allMeet_95_2 {l : Launch} (hl : l.stackTraces = false) : ∀ (n : Nat) {M : PM} {x1 : Int32} {x2 : Int32} {r : PR}, F_X6_allMeet_95_2  n M x1 x2 = some r → PW l 1 Y_X6_allMeet k_X6_allMeet_2 [vR 95, vI x1, vI x2] [] M r := by
  intro n
  induction n with
  | zero => intro M x1 x2 r h; exact nomatch (show (none : Option PR) = some r from h)
  | succ n ih =>
    intro M x1 x2 r h
    rw [F_X6_allMeet_95_2] at h
    refine p_iload_n rfl ?_
    refine p_bipush cb_6 ?_
    refine p_icmp_ge h 25 rfl rfl (fun _ h => ?_) (fun _ h => ?_)
    · refine p_iconst cn_1 ?_
      exact p_zret rfl h
    · refine p_iload_n rfl ?_
      refine p_iload_n rfl ?_
      refine p_cI (av := [_, _]) ⟨mok_X10_isIn, Or.inr ⟨67, rfl, rfl, sta_X10_isIn, Or.inr lk_X6_67⟩⟩ (Nat.le_of_ble_eq_true rfl) (Nat.le_of_ble_eq_true rfl) rfl (fun _ h => pc_X10_isIn hl h) h (fun v594 M593 h => ?_)
      refine p_if_eq h 23 rfl rfl (fun _ h => ?_) (fun _ h => ?_)
      · exact p_fg (S_X6_allMeet_95_36 hl (fun h => ih h) h) ⟨Or.inr rfl, Or.inr rfl, Or.inr rfl, trivial⟩
      · refine p_iload_n rfl ?_
        refine p_iload_n rfl ?_
        refine p_cI (av := [_]) ⟨mok_X10_all, Or.inr ⟨70, rfl, rfl, sta_X10_all, Or.inr lk_X6_70⟩⟩ (Nat.le_of_ble_eq_true rfl) (Nat.le_of_ble_eq_true rfl) rfl (fun _ h => pc_X10_all hl h) h (fun v596 M595 h => ?_)
        refine p_iand ?_
        refine p_aload_n rfl ?_
        refine p_getR fk_X6_18 gt_95 rfl rfl ?_
        refine p_iload_n rfl ?_
        refine p_iald gt_98 h (fun h => ?_)
        refine p_iconst cn_m1 ?_
        refine p_ixor ?_
        refine p_iand ?_
        refine p_if_eq h 23 rfl rfl (fun _ h => ?_) (fun _ h => ?_)
        · exact p_fg (S_X6_allMeet_95_36 hl (fun h => ih h) h) ⟨Or.inr rfl, Or.inr rfl, Or.inr rfl, trivial⟩
        · refine p_iconst cn_0 ?_
          exact p_zret rfl h
set_option maxRecDepth 100000 in
theorem S_X6_allMeet_95 {l : Launch} (hl : l.stackTraces = false) {M : PM} {a1 : Int32} {r : PR} (h : F_X6_allMeet_95 M a1 = some r) : PW l 1 Y_X6_allMeet k_X6_allMeet [vR 95, vI a1, jk] [] M r := by
  unfold F_X6_allMeet_95 at h
  refine p_iconst cn_0 ?_
  refine p_istore_n (Nat.le_of_ble_eq_true rfl) rfl ?_
  exact p_fg (S_X6_allMeet_95_2 hl FUEL h) ⟨Or.inr rfl, Or.inr rfl, Or.inr rfl, trivial⟩
set_option maxRecDepth 100000 in
theorem pc_X6_allMeet_95 {l : Launch} (hl : l.stackTraces = false) {M : PM} {a1 : Int32} {r : PR} (h : F_X6_allMeet_95 M a1 = some r) : PC l 1 Y_X6_allMeet [vR 95, vI a1] M r := pc_of hl (by decide +kernel) cok_X6_allMeet (Nat.le_of_ble_eq_true rfl) rfl (S_X6_allMeet_95 hl  h) rfl
def F_X6_meetsTooMany_95_113 (k78 : PM → Int32 → Int32 → Int32 → Option PR) (M : PM) (x2 : Int32) (x3 : Int32) (x4 : Int32) : Option PR := lt (x4 + 1) fun y597 => k78 M x2 x3 y597
def F_X6_meetsTooMany_95_78 : Nat → PM → Int32 → Int32 → Int32 → Option PR
  | 0, _, _, _, _ => none
  | n + 1, M, x2, x3, x4 => (if x3 < x4 then (if (0 : Int32) &&& 1 = 0 then some (.inl (some (.int 0)), M) else none) else (if x4 &&& (x3 ^^^ (-1)) = 0 then cI (F_J6_bitCount_0f7a4 M x4) fun v599 M598 => (if v599 = x2 then cI (F_X6_allMeet_95 M598 x4) fun v601 M600 => (if v601 = 0 then F_X6_meetsTooMany_95_113 (F_X6_meetsTooMany_95_78 n) M600 x2 x3 x4 else (if (1 : Int32) &&& 1 = 1 then some (.inl (some (.int 1)), M600) else none)) else F_X6_meetsTooMany_95_113 (F_X6_meetsTooMany_95_78 n) M598 x2 x3 x4) else F_X6_meetsTooMany_95_113 (F_X6_meetsTooMany_95_78 n) M x2 x3 x4))
def F_X6_meetsTooMany_95_60 (k5 : PM → Int32 → Int32 → Int32 → Int32 → Option PR) (M : PM) (x1 : Int32) (x2 : Int32) (x4 : Int32) (t0 : Int32) (t1 : Int32) : Option PR := lt (t0 ||| t1) fun y602 => lt (x4 + 1) fun y603 => k5 M x1 x2 y602 y603
def F_X6_meetsTooMany_95_5 : Nat → PM → Int32 → Int32 → Int32 → Int32 → Option PR
  | 0, _, _, _, _, _ => none
  | n + 1, M, x1, x2, x3, x4 => (if x1 ≤ x4 then if ixOK x1 6 = true then F_X6_meetsTooMany_95_78 FUEL (sA M 98 x1.toNatClampNeg x3) x2 x3 0 else none else if ixOK x4 6 = true then if ixOK x1 6 = true then cI (F_X10_commonDivisor M (mA M 96 x4.toNatClampNeg) (mA M 96 x1.toNatClampNeg)) fun v605 M604 => if ixOK x4 6 = true then if ixOK x1 6 = true then cI (F_X10_left M604 ((mA M604 97 x4.toNatClampNeg) - (mA M604 97 x1.toNatClampNeg)) v605) fun v607 M606 => (if v607 = 0 then F_X6_meetsTooMany_95_60 (F_X6_meetsTooMany_95_5 n) M606 x1 x2 x4 x3 (1 <<< (x4 &&& 31)) else F_X6_meetsTooMany_95_60 (F_X6_meetsTooMany_95_5 n) M606 x1 x2 x4 x3 0) else none else none else none else none)
def F_X6_meetsTooMany_95 (M : PM) (a1 : Int32) (a2 : Int32) : Option PR := F_X6_meetsTooMany_95_5 FUEL M a1 a2 0 0
set_option maxRecDepth 100000 in
theorem S_X6_meetsTooMany_95_113 {l : Launch} (hl : l.stackTraces = false) {k78 : PM → Int32 → Int32 → Int32 → Option PR} (hk78 : ∀ {M : PM} {x2 : Int32} {x3 : Int32} {x4 : Int32} {r : PR}, k78 M x2 x3 x4 = some r → PW l 2 Y_X6_meetsTooMany k_X6_meetsTooMany_78 [vR 95, jk, vI x2, vI x3, vI x4, jk] [] M r) {M : PM} {x2 : Int32} {x3 : Int32} {x4 : Int32} {r : PR} (h : F_X6_meetsTooMany_95_113 k78 M x2 x3 x4 = some r) : PW l 2 Y_X6_meetsTooMany k_X6_meetsTooMany_113 [vR 95, jk, vI x2, vI x3, vI x4, jk] [] M r := by
  unfold F_X6_meetsTooMany_95_113 at h
  have h := lt_h h
  refine p_iinc (Nat.le_of_ble_eq_true rfl) rfl (ci_1 _) rfl ?_
  refine p_goto 46 rfl rfl ?_
  exact p_fg (hk78 h) ⟨Or.inr rfl, Or.inl rfl, Or.inr rfl, Or.inr rfl, Or.inr rfl, Or.inl rfl, trivial⟩
set_option maxRecDepth 100000 in
theorem S_X6_meetsTooMany_95_78 {l : Launch} (hl : l.stackTraces = false) : ∀ (n : Nat) {M : PM} {x2 : Int32} {x3 : Int32} {x4 : Int32} {r : PR}, F_X6_meetsTooMany_95_78  n M x2 x3 x4 = some r → PW l 2 Y_X6_meetsTooMany k_X6_meetsTooMany_78 [vR 95, jk, vI x2, vI x3, vI x4, jk] [] M r := by
  intro n
  induction n with
  | zero => intro M x2 x3 x4 r h; exact nomatch (show (none : Option PR) = some r from h)
  | succ n ih =>
    intro M x2 x3 x4 r h
    rw [F_X6_meetsTooMany_95_78] at h
    refine p_iload rfl ?_
    refine p_iload_n rfl ?_
    refine p_icmp_gt h 67 rfl rfl (fun _ h => ?_) (fun _ h => ?_)
    · refine p_iconst cn_0 ?_
      exact p_zret rfl h
    · refine p_iload rfl ?_
      refine p_iload_n rfl ?_
      refine p_iconst cn_m1 ?_
      refine p_ixor ?_
      refine p_iand ?_
      refine p_if_ne h 65 rfl rfl (fun _ h => ?_) (fun _ h => ?_)
      · refine p_iload rfl ?_
        refine p_cI (av := [_]) ⟨mok_J6_bitCount_0f7a4, Or.inr ⟨58, rfl, rfl, sta_J6_bitCount_0f7a4, Or.inl lk_X6_58⟩⟩ (Nat.le_of_ble_eq_true rfl) (Nat.le_of_ble_eq_true rfl) rfl (fun _ h => pc_J6_bitCount_0f7a4 hl h) h (fun v599 M598 h => ?_)
        refine p_iload_n rfl ?_
        refine p_icmp_ne h 65 rfl rfl (fun _ h => ?_) (fun _ h => ?_)
        · refine p_aload_n rfl ?_
          refine p_iload rfl ?_
          refine p_cI (av := [_, _]) ⟨mok_X6_allMeet, Or.inl ⟨63, 95, 6, 0, _, rfl, rfl, rfl, gt_95, rfl, ins_X6_allMeet, Or.inl lk_X6_63⟩⟩ (Nat.le_of_ble_eq_true rfl) (Nat.le_of_ble_eq_true rfl) rfl (fun _ h => pc_X6_allMeet_95 hl h) h (fun v601 M600 h => ?_)
          refine p_if_eq h 65 rfl rfl (fun _ h => ?_) (fun _ h => ?_)
          · exact p_fg (S_X6_meetsTooMany_95_113 hl (fun h => ih h) h) ⟨Or.inr rfl, Or.inl rfl, Or.inr rfl, Or.inr rfl, Or.inr rfl, Or.inl rfl, trivial⟩
          · refine p_iconst cn_1 ?_
            exact p_zret rfl h
        · exact p_fg (S_X6_meetsTooMany_95_113 hl (fun h => ih h) h) ⟨Or.inr rfl, Or.inl rfl, Or.inr rfl, Or.inr rfl, Or.inr rfl, Or.inl rfl, trivial⟩
      · exact p_fg (S_X6_meetsTooMany_95_113 hl (fun h => ih h) h) ⟨Or.inr rfl, Or.inl rfl, Or.inr rfl, Or.inr rfl, Or.inr rfl, Or.inl rfl, trivial⟩
set_option maxRecDepth 100000 in
theorem S_X6_meetsTooMany_95_60 {l : Launch} (hl : l.stackTraces = false) {k5 : PM → Int32 → Int32 → Int32 → Int32 → Option PR} (hk5 : ∀ {M : PM} {x1 : Int32} {x2 : Int32} {x3 : Int32} {x4 : Int32} {r : PR}, k5 M x1 x2 x3 x4 = some r → PW l 2 Y_X6_meetsTooMany k_X6_meetsTooMany_5 [vR 95, vI x1, vI x2, vI x3, vI x4, jk] [] M r) {M : PM} {x1 : Int32} {x2 : Int32} {x4 : Int32} {t0 : Int32} {t1 : Int32} {r : PR} (h : F_X6_meetsTooMany_95_60 k5 M x1 x2 x4 t0 t1 = some r) : PW l 2 Y_X6_meetsTooMany k_X6_meetsTooMany_60 [vR 95, vI x1, vI x2, jk, vI x4, jk] [vI t1, vI t0] M r := by
  unfold F_X6_meetsTooMany_95_60 at h
  refine p_ior ?_
  have h := lt_h h
  refine p_istore_n (Nat.le_of_ble_eq_true rfl) rfl ?_
  have h := lt_h h
  refine p_iinc (Nat.le_of_ble_eq_true rfl) rfl (ci_1 _) rfl ?_
  refine p_goto 4 rfl rfl ?_
  exact p_fg (hk5 h) ⟨Or.inr rfl, Or.inr rfl, Or.inr rfl, Or.inr rfl, Or.inr rfl, Or.inl rfl, trivial⟩
set_option maxRecDepth 100000 in
theorem S_X6_meetsTooMany_95_5 {l : Launch} (hl : l.stackTraces = false) : ∀ (n : Nat) {M : PM} {x1 : Int32} {x2 : Int32} {x3 : Int32} {x4 : Int32} {r : PR}, F_X6_meetsTooMany_95_5  n M x1 x2 x3 x4 = some r → PW l 2 Y_X6_meetsTooMany k_X6_meetsTooMany_5 [vR 95, vI x1, vI x2, vI x3, vI x4, jk] [] M r := by
  intro n
  induction n with
  | zero => intro M x1 x2 x3 x4 r h; exact nomatch (show (none : Option PR) = some r from h)
  | succ n ih =>
    intro M x1 x2 x3 x4 r h
    rw [F_X6_meetsTooMany_95_5] at h
    refine p_iload rfl ?_
    refine p_iload_n rfl ?_
    refine p_icmp_ge h 39 rfl rfl (fun _ h => ?_) (fun _ h => ?_)
    · refine p_aload_n rfl ?_
      refine p_getR fk_X6_18 gt_95 rfl rfl ?_
      refine p_iload_n rfl ?_
      refine p_iload_n rfl ?_
      refine p_iast gt_98 h (fun h => ?_)
      refine p_iconst cn_0 ?_
      refine p_istore (Nat.le_of_ble_eq_true rfl) rfl ?_
      exact p_fg (S_X6_meetsTooMany_95_78 hl FUEL h) ⟨Or.inr rfl, Or.inl rfl, Or.inr rfl, Or.inr rfl, Or.inr rfl, Or.inl rfl, trivial⟩
    · refine p_aload_n rfl ?_
      refine p_getR fk_X6_11 gt_95 rfl rfl ?_
      refine p_iload rfl ?_
      refine p_iald gt_96 h (fun h => ?_)
      refine p_aload_n rfl ?_
      refine p_getR fk_X6_11 gt_95 rfl rfl ?_
      refine p_iload_n rfl ?_
      refine p_iald gt_96 h (fun h => ?_)
      refine p_cI (av := [_, _]) ⟨mok_X10_commonDivisor, Or.inr ⟨43, rfl, rfl, sta_X10_commonDivisor, Or.inr lk_X6_43⟩⟩ (Nat.le_of_ble_eq_true rfl) (Nat.le_of_ble_eq_true rfl) rfl (fun _ h => pc_X10_commonDivisor hl h) h (fun v605 M604 h => ?_)
      refine p_istore (Nat.le_of_ble_eq_true rfl) rfl ?_
      refine p_iload_n rfl ?_
      refine p_aload_n rfl ?_
      refine p_getR fk_X6_15 gt_95 rfl rfl ?_
      refine p_iload rfl ?_
      refine p_iald gt_97 h (fun h => ?_)
      refine p_aload_n rfl ?_
      refine p_getR fk_X6_15 gt_95 rfl rfl ?_
      refine p_iload_n rfl ?_
      refine p_iald gt_97 h (fun h => ?_)
      refine p_isub ?_
      refine p_iload rfl ?_
      refine p_cI (av := [_, _]) ⟨mok_X10_left, Or.inr ⟨55, rfl, rfl, sta_X10_left, Or.inr lk_X6_55⟩⟩ (Nat.le_of_ble_eq_true rfl) (Nat.le_of_ble_eq_true rfl) rfl (fun _ h => pc_X10_left hl h) h (fun v607 M606 h => ?_)
      refine p_if_ne h 34 rfl rfl (fun _ h => ?_) (fun _ h => ?_)
      · refine p_iconst cn_1 ?_
        refine p_iload rfl ?_
        refine p_ishl ?_
        refine p_goto 35 rfl rfl ?_
        exact p_fg (S_X6_meetsTooMany_95_60 hl (fun h => ih h) h) ⟨Or.inr rfl, Or.inr rfl, Or.inr rfl, Or.inl rfl, Or.inr rfl, Or.inl rfl, trivial⟩
      · refine p_iconst cn_0 ?_
        exact p_fg (S_X6_meetsTooMany_95_60 hl (fun h => ih h) h) ⟨Or.inr rfl, Or.inr rfl, Or.inr rfl, Or.inl rfl, Or.inr rfl, Or.inl rfl, trivial⟩
set_option maxRecDepth 100000 in
theorem S_X6_meetsTooMany_95 {l : Launch} (hl : l.stackTraces = false) {M : PM} {a1 : Int32} {a2 : Int32} {r : PR} (h : F_X6_meetsTooMany_95 M a1 a2 = some r) : PW l 2 Y_X6_meetsTooMany k_X6_meetsTooMany [vR 95, vI a1, vI a2, jk, jk, jk] [] M r := by
  unfold F_X6_meetsTooMany_95 at h
  refine p_iconst cn_0 ?_
  refine p_istore_n (Nat.le_of_ble_eq_true rfl) rfl ?_
  refine p_iconst cn_0 ?_
  refine p_istore (Nat.le_of_ble_eq_true rfl) rfl ?_
  exact p_fg (S_X6_meetsTooMany_95_5 hl FUEL h) ⟨Or.inr rfl, Or.inr rfl, Or.inr rfl, Or.inr rfl, Or.inr rfl, Or.inl rfl, trivial⟩
set_option maxRecDepth 100000 in
theorem pc_X6_meetsTooMany_95 {l : Launch} (hl : l.stackTraces = false) {M : PM} {a1 : Int32} {a2 : Int32} {r : PR} (h : F_X6_meetsTooMany_95 M a1 a2 = some r) : PC l 2 Y_X6_meetsTooMany [vR 95, vI a1, vI a2] M r := pc_of hl (by decide +kernel) cok_X6_meetsTooMany (Nat.le_of_ble_eq_true rfl) rfl (S_X6_meetsTooMany_95 hl  h) rfl
def F_X6_isSet_95_97 (rc : Nat → PM → Int32 → Int32 → Int32 → Option PR) (k58 : PM → Int32 → Int32 → Int32 → Int32 → Int32 → Option PR) (M : PM) (x1 : Int32) (x2 : Int32) (x4 : Int32) (x5 : Int32) (x6 : Int32) : Option PR := lt (x6 + 1) fun y608 => k58 M x1 x2 x4 x5 y608
def F_X6_isSet_95_58 (rc : Nat → PM → Int32 → Int32 → Int32 → Option PR) : Nat → PM → Int32 → Int32 → Int32 → Int32 → Int32 → Option PR
  | 0, _, _, _, _, _, _ => none
  | n + 1, M, x1, x2, x4, x5, x6 => (if x4 ≤ x6 then (if (0 : Int32) &&& 1 = 0 then some (.inl (some (.int 0)), M) else none) else if ixOK x1 6 = true then cI (F_X6_meetsTooMany_95 (sA M 97 x1.toNatClampNeg x6) x1 x2) fun v610 M609 => (if v610 = 0 then cI (rc 0 M609 (x1 + 1) x2 x5) fun v612 M611 => (if v612 = 0 then F_X6_isSet_95_97 rc (F_X6_isSet_95_58 rc n) M611 x1 x2 x4 x5 x6 else (if (1 : Int32) &&& 1 = 1 then some (.inl (some (.int 1)), M611) else none)) else F_X6_isSet_95_97 rc (F_X6_isSet_95_58 rc n) M609 x1 x2 x4 x5 x6) else none)
def F_X6_isSet_95_49 (rc : Nat → PM → Int32 → Int32 → Int32 → Option PR) (M : PM) (x1 : Int32) (x2 : Int32) (x4 : Int32) (t0 : Int32) : Option PR := cI (F_X6_leastDay_95 M x1) fun v614 M613 => F_X6_isSet_95_58 rc FUEL M613 x1 x2 x4 t0 v614
def F_X6_isSet_95 (rc : Nat → PM → Int32 → Int32 → Int32 → Option PR) (M : PM) (a1 : Int32) (a2 : Int32) (a3 : Int32) : Option PR := (if mI M 95 3 ≤ a1 then (if (1 : Int32) &&& 1 = 1 then some (.inl (some (.int 1)), M) else none) else (if a1 < 6 then if ixOK a1 6 = true then cI (F_X10_commonDivisor M a3 (mA M 96 a1.toNatClampNeg)) fun v616 M615 => (if 1 ≤ v616 then if v616 = 0 then none else if ixOK a1 6 = true then F_X6_isSet_95_49 rc M615 a1 a2 v616 ((a3 / v616) * (mA M615 96 a1.toNatClampNeg)) else none else F_X6_isSet_95_49 rc M615 a1 a2 v616 a3) else none else (if (1 : Int32) &&& 1 = 1 then some (.inl (some (.int 1)), M) else none)))
set_option maxRecDepth 100000 in
theorem S_X6_isSet_95_97 {l : Launch} (hl : l.stackTraces = false) {rc : Nat → PM → Int32 → Int32 → Int32 → Option PR} {gn : Nat} (hg : 3 ≤ gn) (hr0 : ∀ {M : PM} {a1 : Int32} {a2 : Int32} {a3 : Int32} {r : PR}, rc 0 M a1 a2 a3 = some r → PC l gn Y_X6_isSet [vR 95, vI a1, vI a2, vI a3] M r) {k58 : PM → Int32 → Int32 → Int32 → Int32 → Int32 → Option PR} (hk58 : ∀ {M : PM} {x1 : Int32} {x2 : Int32} {x4 : Int32} {x5 : Int32} {x6 : Int32} {r : PR}, k58 M x1 x2 x4 x5 x6 = some r → PW l (gn + 1) Y_X6_isSet k_X6_isSet_58 [vR 95, vI x1, vI x2, jk, vI x4, vI x5, vI x6] [] M r) {M : PM} {x1 : Int32} {x2 : Int32} {x4 : Int32} {x5 : Int32} {x6 : Int32} {r : PR} (h : F_X6_isSet_95_97 rc k58 M x1 x2 x4 x5 x6 = some r) : PW l (gn + 1) Y_X6_isSet k_X6_isSet_97 [vR 95, vI x1, vI x2, jk, vI x4, vI x5, vI x6] [] M r := by
  unfold F_X6_isSet_95_97 at h
  have h := lt_h h
  refine p_iinc (Nat.le_of_ble_eq_true rfl) rfl (ci_1 _) rfl ?_
  refine p_goto 34 rfl rfl ?_
  exact p_fg (hk58 h) ⟨Or.inr rfl, Or.inr rfl, Or.inr rfl, Or.inl rfl, Or.inr rfl, Or.inr rfl, Or.inr rfl, trivial⟩
set_option maxRecDepth 100000 in
theorem S_X6_isSet_95_58 {l : Launch} (hl : l.stackTraces = false) {rc : Nat → PM → Int32 → Int32 → Int32 → Option PR} {gn : Nat} (hg : 3 ≤ gn) (hr0 : ∀ {M : PM} {a1 : Int32} {a2 : Int32} {a3 : Int32} {r : PR}, rc 0 M a1 a2 a3 = some r → PC l gn Y_X6_isSet [vR 95, vI a1, vI a2, vI a3] M r) : ∀ (n : Nat) {M : PM} {x1 : Int32} {x2 : Int32} {x4 : Int32} {x5 : Int32} {x6 : Int32} {r : PR}, F_X6_isSet_95_58 rc n M x1 x2 x4 x5 x6 = some r → PW l (gn + 1) Y_X6_isSet k_X6_isSet_58 [vR 95, vI x1, vI x2, jk, vI x4, vI x5, vI x6] [] M r := by
  intro n
  induction n with
  | zero => intro M x1 x2 x4 x5 x6 r h; exact nomatch (show (none : Option PR) = some r from h)
  | succ n ih =>
    intro M x1 x2 x4 x5 x6 r h
    rw [F_X6_isSet_95_58] at h
    refine p_iload rfl ?_
    refine p_iload rfl ?_
    refine p_icmp_ge h 59 rfl rfl (fun _ h => ?_) (fun _ h => ?_)
    · refine p_iconst cn_0 ?_
      exact p_zret rfl h
    · refine p_aload_n rfl ?_
      refine p_getR fk_X6_15 gt_95 rfl rfl ?_
      refine p_iload_n rfl ?_
      refine p_iload rfl ?_
      refine p_iast gt_97 h (fun h => ?_)
      refine p_aload_n rfl ?_
      refine p_iload_n rfl ?_
      refine p_iload_n rfl ?_
      refine p_cI (av := [_, _, _]) ⟨mok_X6_meetsTooMany, Or.inl ⟨51, 95, 6, 0, _, rfl, rfl, rfl, gt_95, rfl, ins_X6_meetsTooMany, Or.inl lk_X6_51⟩⟩ (by omega) (Nat.le_of_ble_eq_true rfl) rfl (fun _ h => pc_X6_meetsTooMany_95 hl h) h (fun v610 M609 h => ?_)
      refine p_if_ne h 57 rfl rfl (fun _ h => ?_) (fun _ h => ?_)
      · refine p_aload_n rfl ?_
        refine p_iload_n rfl ?_
        refine p_iconst cn_1 ?_
        refine p_iadd ?_
        refine p_iload_n rfl ?_
        refine p_iload rfl ?_
        refine p_cI (av := [_, _, _, _]) ⟨mok_X6_isSet, Or.inl ⟨37, 95, 6, 0, _, rfl, rfl, rfl, gt_95, rfl, ins_X6_isSet, Or.inl lk_X6_37⟩⟩ (Nat.le_refl _) (Nat.le_of_ble_eq_true rfl) rfl (fun _ h => hr0 h) h (fun v612 M611 h => ?_)
        refine p_if_eq h 57 rfl rfl (fun _ h => ?_) (fun _ h => ?_)
        · exact p_fg (S_X6_isSet_95_97 hl hg hr0 (fun h => ih h) h) ⟨Or.inr rfl, Or.inr rfl, Or.inr rfl, Or.inl rfl, Or.inr rfl, Or.inr rfl, Or.inr rfl, trivial⟩
        · refine p_iconst cn_1 ?_
          exact p_zret rfl h
      · exact p_fg (S_X6_isSet_95_97 hl hg hr0 (fun h => ih h) h) ⟨Or.inr rfl, Or.inr rfl, Or.inr rfl, Or.inl rfl, Or.inr rfl, Or.inr rfl, Or.inr rfl, trivial⟩
set_option maxRecDepth 100000 in
theorem S_X6_isSet_95_49 {l : Launch} (hl : l.stackTraces = false) {rc : Nat → PM → Int32 → Int32 → Int32 → Option PR} {gn : Nat} (hg : 3 ≤ gn) (hr0 : ∀ {M : PM} {a1 : Int32} {a2 : Int32} {a3 : Int32} {r : PR}, rc 0 M a1 a2 a3 = some r → PC l gn Y_X6_isSet [vR 95, vI a1, vI a2, vI a3] M r) {M : PM} {x1 : Int32} {x2 : Int32} {x4 : Int32} {t0 : Int32} {r : PR} (h : F_X6_isSet_95_49 rc M x1 x2 x4 t0 = some r) : PW l (gn + 1) Y_X6_isSet k_X6_isSet_49 [vR 95, vI x1, vI x2, jk, vI x4, jk, jk] [vI t0] M r := by
  unfold F_X6_isSet_95_49 at h
  refine p_istore (Nat.le_of_ble_eq_true rfl) rfl ?_
  refine p_aload_n rfl ?_
  refine p_iload_n rfl ?_
  refine p_cI (av := [_, _]) ⟨mok_X6_leastDay, Or.inl ⟨47, 95, 6, 0, _, rfl, rfl, rfl, gt_95, rfl, ins_X6_leastDay, Or.inl lk_X6_47⟩⟩ (by omega) (Nat.le_of_ble_eq_true rfl) rfl (fun _ h => pc_X6_leastDay_95 hl h) h (fun v614 M613 h => ?_)
  refine p_istore (Nat.le_of_ble_eq_true rfl) rfl ?_
  exact p_fg (S_X6_isSet_95_58 hl hg hr0 FUEL h) ⟨Or.inr rfl, Or.inr rfl, Or.inr rfl, Or.inl rfl, Or.inr rfl, Or.inr rfl, Or.inr rfl, trivial⟩
set_option maxRecDepth 100000 in
theorem S_X6_isSet_95 {l : Launch} (hl : l.stackTraces = false) {rc : Nat → PM → Int32 → Int32 → Int32 → Option PR} {gn : Nat} (hg : 3 ≤ gn) (hr0 : ∀ {M : PM} {a1 : Int32} {a2 : Int32} {a3 : Int32} {r : PR}, rc 0 M a1 a2 a3 = some r → PC l gn Y_X6_isSet [vR 95, vI a1, vI a2, vI a3] M r) {M : PM} {a1 : Int32} {a2 : Int32} {a3 : Int32} {r : PR} (h : F_X6_isSet_95 rc M a1 a2 a3 = some r) : PW l (gn + 1) Y_X6_isSet k_X6_isSet [vR 95, vI a1, vI a2, vI a3, jk, jk, jk] [] M r := by
  unfold F_X6_isSet_95 at h
  refine p_iload_n rfl ?_
  refine p_aload_n rfl ?_
  refine p_getI fk_X6_21 gt_95 rfl ?_
  refine p_icmp_ge h 7 rfl rfl (fun _ h => ?_) (fun _ h => ?_)
  · refine p_iconst cn_1 ?_
    exact p_zret rfl h
  · refine p_iload_n rfl ?_
    refine p_bipush cb_6 ?_
    refine p_icmp_lt h 9 rfl rfl (fun _ h => ?_) (fun _ h => ?_)
    · refine p_iload_n rfl ?_
      refine p_aload_n rfl ?_
      refine p_getR fk_X6_11 gt_95 rfl rfl ?_
      refine p_iload_n rfl ?_
      refine p_iald gt_96 h (fun h => ?_)
      refine p_cI (av := [_, _]) ⟨mok_X10_commonDivisor, Or.inr ⟨43, rfl, rfl, sta_X10_commonDivisor, Or.inr lk_X6_43⟩⟩ (by omega) (Nat.le_of_ble_eq_true rfl) rfl (fun _ h => pc_X10_commonDivisor hl h) h (fun v616 M615 h => ?_)
      refine p_istore (Nat.le_of_ble_eq_true rfl) rfl ?_
      refine p_iload rfl ?_
      refine p_iconst cn_1 ?_
      refine p_icmp_ge h 21 rfl rfl (fun _ h => ?_) (fun _ h => ?_)
      · refine p_iload_n rfl ?_
        refine p_iload rfl ?_
        refine p_idiv h (fun h => ?_)
        refine p_aload_n rfl ?_
        refine p_getR fk_X6_11 gt_95 rfl rfl ?_
        refine p_iload_n rfl ?_
        refine p_iald gt_96 h (fun h => ?_)
        refine p_imul ?_
        exact p_fg (S_X6_isSet_95_49 hl hg hr0 h) ⟨Or.inr rfl, Or.inr rfl, Or.inr rfl, Or.inl rfl, Or.inr rfl, Or.inl rfl, Or.inl rfl, trivial⟩
      · refine p_iload_n rfl ?_
        refine p_goto 29 rfl rfl ?_
        exact p_fg (S_X6_isSet_95_49 hl hg hr0 h) ⟨Or.inr rfl, Or.inr rfl, Or.inr rfl, Or.inl rfl, Or.inr rfl, Or.inl rfl, Or.inl rfl, trivial⟩
    · refine p_iconst cn_1 ?_
      exact p_zret rfl h
set_option maxRecDepth 100000 in
theorem pc_X6_isSet_95 {l : Launch} (hl : l.stackTraces = false) {rc : Nat → PM → Int32 → Int32 → Int32 → Option PR} {gn : Nat} (hg : 3 ≤ gn) (hr0 : ∀ {M : PM} {a1 : Int32} {a2 : Int32} {a3 : Int32} {r : PR}, rc 0 M a1 a2 a3 = some r → PC l gn Y_X6_isSet [vR 95, vI a1, vI a2, vI a3] M r) {M : PM} {a1 : Int32} {a2 : Int32} {a3 : Int32} {r : PR} (h : F_X6_isSet_95 rc M a1 a2 a3 = some r) : PC l (gn + 1) Y_X6_isSet [vR 95, vI a1, vI a2, vI a3] M r := pc_of hl (by decide +kernel) cok_X6_isSet (Nat.le_of_ble_eq_true rfl) rfl (S_X6_isSet_95 hl hg hr0 h) rfl
def G_isSet : Nat → Nat → PM → Int32 → Int32 → Int32 → Option PR
  | 0, _, _, _, _, _ => none
  | n + 1, 0, M, a1, a2, a3 => F_X6_isSet_95 (G_isSet n) M a1 a2 a3
  | _ + 1, _, _, _, _, _ => none
set_option maxRecDepth 100000 in
theorem pcG_isSet {l : Launch} (hl : l.stackTraces = false) : ∀ n : Nat, (∀ {M : PM} {a1 : Int32} {a2 : Int32} {a3 : Int32} {r : PR}, G_isSet n 0 M a1 a2 a3 = some r → PC l (3 + n) Y_X6_isSet [vR 95, vI a1, vI a2, vI a3] M r) := by
  intro n
  induction n with
  | zero => exact (by intros; rename_i h; exact nomatch (show (none : Option PR) = some _ from h))
  | succ n ih =>
    have i0 := @ih
    exact (by intros; rename_i h; exact pc_X6_isSet_95 hl (rc := G_isSet n) (gn := 3 + n) (Nat.le_add_right _ _) (fun h => i0 h) h)
set_option maxRecDepth 100000 in
theorem pcg_isSet_0 {l : Launch} (hl : l.stackTraces = false) {M : PM} {a1 : Int32} {a2 : Int32} {a3 : Int32} {r : PR} (h : G_isSet 10 0 M a1 a2 a3 = some r) : PC l 13 Y_X6_isSet [vR 95, vI a1, vI a2, vI a3] M r := (pcG_isSet hl 10) h
def F_X6_firstDays_95_19 : Nat → PM → Int64 → Int32 → Option PR
  | 0, _, _, _ => none
  | n + 1, M, x2, x4 => (if mI M 95 3 ≤ x4 then some (.inl (some (.long x2)), M) else if ixOK x4 6 = true then lt (((100 : Int64) * x2) + ((mA M 97 x4.toNatClampNeg).toInt64)) fun y617 => lt (x4 + 1) fun y618 => F_X6_firstDays_95_19 n M y617 y618 else none)
def F_X6_firstDays_95 (M : PM) (a1 : Int32) : Option PR := cI (G_isSet 10 0 M 0 a1 1) fun v620 M619 => (if v620 = 0 then some (.inl (some (.long (-1 : Int64))), M619) else lt ((0 : Int64)) fun y621 => F_X6_firstDays_95_19 FUEL M619 y621 0)
set_option maxRecDepth 100000 in
theorem S_X6_firstDays_95_19 {l : Launch} (hl : l.stackTraces = false) : ∀ (n : Nat) {M : PM} {x2 : Int64} {x4 : Int32} {r : PR}, F_X6_firstDays_95_19  n M x2 x4 = some r → PW l 14 Y_X6_firstDays k_X6_firstDays_19 [vR 95, jk, vJ x2, jk, vI x4] [] M r := by
  intro n
  induction n with
  | zero => intro M x2 x4 r h; exact nomatch (show (none : Option PR) = some r from h)
  | succ n ih =>
    intro M x2 x4 r h
    rw [F_X6_firstDays_95_19] at h
    refine p_iload rfl ?_
    refine p_aload_n rfl ?_
    refine p_getI fk_X6_21 gt_95 rfl ?_
    refine p_icmp_ge h 28 rfl rfl (fun _ h => ?_) (fun _ h => ?_)
    · refine p_lload_n rfl ?_
      exact p_lret rfl h
    · refine p_ldc2_w co_X6_25 ?_
      refine p_lload_n rfl ?_
      refine p_lmul ?_
      refine p_aload_n rfl ?_
      refine p_getR fk_X6_15 gt_95 rfl rfl ?_
      refine p_iload rfl ?_
      refine p_iald gt_97 h (fun h => ?_)
      refine p_i2l ?_
      refine p_ladd ?_
      have h := lt_h h
      refine p_lstore_n (Nat.le_of_ble_eq_true rfl) rfl ?_
      have h := lt_h h
      refine p_iinc (Nat.le_of_ble_eq_true rfl) rfl (ci_1 _) rfl ?_
      refine p_goto 12 rfl rfl ?_
      exact p_fg (ih h) ⟨Or.inr rfl, Or.inl rfl, Or.inr rfl, Or.inl rfl, Or.inr rfl, trivial⟩
set_option maxRecDepth 100000 in
theorem S_X6_firstDays_95 {l : Launch} (hl : l.stackTraces = false) {M : PM} {a1 : Int32} {r : PR} (h : F_X6_firstDays_95 M a1 = some r) : PW l 14 Y_X6_firstDays k_X6_firstDays [vR 95, vI a1, jk, jk, jk] [] M r := by
  unfold F_X6_firstDays_95 at h
  refine p_aload_n rfl ?_
  refine p_iconst cn_0 ?_
  refine p_iload_n rfl ?_
  refine p_iconst cn_1 ?_
  refine p_cI (av := [_, _, _, _]) ⟨mok_X6_isSet, Or.inl ⟨37, 95, 6, 0, _, rfl, rfl, rfl, gt_95, rfl, ins_X6_isSet, Or.inl lk_X6_37⟩⟩ (Nat.le_of_ble_eq_true rfl) (Nat.le_of_ble_eq_true rfl) rfl (fun _ h => pcg_isSet_0 hl h) h (fun v620 M619 h => ?_)
  refine p_if_ne h 8 rfl rfl (fun _ h => ?_) (fun _ h => ?_)
  · refine p_ldc2_w co_X6_41 ?_
    exact p_lret rfl h
  · refine p_lconst cl_0 ?_
    have h := lt_h h
    refine p_lstore_n (Nat.le_of_ble_eq_true rfl) rfl ?_
    refine p_iconst cn_0 ?_
    refine p_istore (Nat.le_of_ble_eq_true rfl) rfl ?_
    exact p_fg (S_X6_firstDays_95_19 hl FUEL h) ⟨Or.inr rfl, Or.inl rfl, Or.inr rfl, Or.inl rfl, Or.inr rfl, trivial⟩
set_option maxRecDepth 100000 in
theorem pc_X6_firstDays_95 {l : Launch} (hl : l.stackTraces = false) {M : PM} {a1 : Int32} {r : PR} (h : F_X6_firstDays_95 M a1 = some r) : PC l 14 Y_X6_firstDays [vR 95, vI a1] M r := pc_of hl (by decide +kernel) cok_X6_firstDays (Nat.le_of_ble_eq_true rfl) rfl (S_X6_firstDays_95 hl  h) rfl
def F_X10_weeks_0_28 (M : PM) (x3 : Int32) (t1 : Int32) : Option PR := bV (F_X10_need_0 M t1) fun M622 => cJ (F_X6_firstDays_95 M622 x3) fun v624 M623 => some (.inl (some (.long v624)), M623)
def F_X10_weeks_0_27 (M : PM) (x3 : Int32) : Option PR := F_X10_weeks_0_28 M x3 0
def F_X10_weeks_0 (M : PM) (a1 : Int64) (a2 : Int32) : Option PR := cI (F_X6_take_95 M a1) fun v626 M625 => (if v626 = 0 then F_X10_weeks_0_27 M625 a2 else (if a2 < 1 then F_X10_weeks_0_27 M625 a2 else (if 6 < a2 then F_X10_weeks_0_27 M625 a2 else F_X10_weeks_0_28 M625 a2 1)))
set_option maxRecDepth 100000 in
theorem S_X10_weeks_0_28 {l : Launch} (hl : l.stackTraces = false) {M : PM} {x3 : Int32} {t1 : Int32} {r : PR} (h : F_X10_weeks_0_28  M x3 t1 = some r) : PW l 15 Y_X10_weeks k_X10_weeks_28 [vR 0, jk, jk, vI x3] [vI t1, vR 0] M r := by
  unfold F_X10_weeks_0_28 at h
  refine p_bV mok_X10_need rfl gt_0 rfl ins_X10_need lk_X10_101 (Nat.le_of_ble_eq_true rfl) (Nat.le_of_ble_eq_true rfl) rfl (fun _ h => pc_X10_need_0 hl h) h (fun M622 h => ?_)
  refine p_aload_n rfl ?_
  refine p_getR fk_X10_86 gt_0 rfl rfl ?_
  refine p_iload_n rfl ?_
  refine p_cJ (av := [_, _]) ⟨mok_X6_firstDays, Or.inl ⟨261, 95, 6, 0, _, rfl, rfl, rfl, gt_95, rfl, ins_X6_firstDays, Or.inr lk_X10_261⟩⟩ (Nat.le_of_ble_eq_true rfl) (Nat.le_of_ble_eq_true rfl) rfl (fun _ h => pc_X6_firstDays_95 hl h) h (fun v624 M623 h => ?_)
  exact p_lret rfl h
set_option maxRecDepth 100000 in
theorem S_X10_weeks_0_27 {l : Launch} (hl : l.stackTraces = false) {M : PM} {x3 : Int32} {r : PR} (h : F_X10_weeks_0_27  M x3 = some r) : PW l 15 Y_X10_weeks k_X10_weeks_27 [vR 0, jk, jk, vI x3] [vR 0] M r := by
  unfold F_X10_weeks_0_27 at h
  refine p_iconst cn_0 ?_
  exact p_fg (S_X10_weeks_0_28 hl h) ⟨Or.inr rfl, Or.inl rfl, Or.inl rfl, Or.inr rfl, trivial⟩
set_option maxRecDepth 100000 in
theorem S_X10_weeks_0 {l : Launch} (hl : l.stackTraces = false) {M : PM} {a1 : Int64} {a2 : Int32} {r : PR} (h : F_X10_weeks_0 M a1 a2 = some r) : PW l 15 Y_X10_weeks k_X10_weeks [vR 0, vJ a1, jk, vI a2] [] M r := by
  unfold F_X10_weeks_0 at h
  refine p_aload_n rfl ?_
  refine p_aload_n rfl ?_
  refine p_getR fk_X10_86 gt_0 rfl rfl ?_
  refine p_lload_n rfl ?_
  refine p_cI (av := [_, _]) ⟨mok_X6_take, Or.inl ⟨258, 95, 6, 0, _, rfl, rfl, rfl, gt_95, rfl, ins_X6_take, Or.inr lk_X10_258⟩⟩ (Nat.le_of_ble_eq_true rfl) (Nat.le_of_ble_eq_true rfl) rfl (fun _ h => pc_X6_take_95 hl h) h (fun v626 M625 h => ?_)
  refine p_if_eq h 14 rfl rfl (fun _ h => ?_) (fun _ h => ?_)
  · exact p_fg (S_X10_weeks_0_27 hl h) ⟨Or.inr rfl, Or.inl rfl, Or.inl rfl, Or.inr rfl, trivial⟩
  · refine p_iload_n rfl ?_
    refine p_iconst cn_1 ?_
    refine p_icmp_lt h 14 rfl rfl (fun _ h => ?_) (fun _ h => ?_)
    · exact p_fg (S_X10_weeks_0_27 hl h) ⟨Or.inr rfl, Or.inl rfl, Or.inl rfl, Or.inr rfl, trivial⟩
    · refine p_iload_n rfl ?_
      refine p_bipush cb_6 ?_
      refine p_icmp_gt h 14 rfl rfl (fun _ h => ?_) (fun _ h => ?_)
      · exact p_fg (S_X10_weeks_0_27 hl h) ⟨Or.inr rfl, Or.inl rfl, Or.inl rfl, Or.inr rfl, trivial⟩
      · refine p_iconst cn_1 ?_
        refine p_goto 15 rfl rfl ?_
        exact p_fg (S_X10_weeks_0_28 hl h) ⟨Or.inr rfl, Or.inl rfl, Or.inl rfl, Or.inr rfl, trivial⟩
set_option maxRecDepth 100000 in
theorem pc_X10_weeks_0 {l : Launch} (hl : l.stackTraces = false) {M : PM} {a1 : Int64} {a2 : Int32} {r : PR} (h : F_X10_weeks_0 M a1 a2 = some r) : PC l 15 Y_X10_weeks [vR 0, vJ a1, vI a2] M r := pc_of hl (by decide +kernel) cok_X10_weeks (Nat.le_of_ble_eq_true rfl) rfl (S_X10_weeks_0 hl  h) rfl
def F_X3_addSight_16 (M : PM) (a1 : Int32) (a2 : Int32) (a3 : Int32) : Option PR := (if mI M 16 4 < 20 then if ixOK (mI M 16 4) 20 = true then if ixOK (mI (sA M 18 (mI M 16 4).toNatClampNeg a1) 16 4) 20 = true then if ixOK (mI (sA (sA M 18 (mI M 16 4).toNatClampNeg a1) 19 (mI (sA M 18 (mI M 16 4).toNatClampNeg a1) 16 4).toNatClampNeg a2) 16 4) 20 = true then lt (sA (sA (sA M 18 (mI M 16 4).toNatClampNeg a1) 19 (mI (sA M 18 (mI M 16 4).toNatClampNeg a1) 16 4).toNatClampNeg a2) 20 (mI (sA (sA M 18 (mI M 16 4).toNatClampNeg a1) 19 (mI (sA M 18 (mI M 16 4).toNatClampNeg a1) 16 4).toNatClampNeg a2) 16 4).toNatClampNeg (a3 &&& 1)) fun M627 => some (.inl (some (.int (mI (sI M627 16 4 ((mI M627 16 4) + 1)) 16 4))), sI M627 16 4 ((mI M627 16 4) + 1)) else none else none else none else some (.inl (some (.int (-1))), M))
set_option maxRecDepth 100000 in
theorem S_X3_addSight_16 {l : Launch} (hl : l.stackTraces = false) {M : PM} {a1 : Int32} {a2 : Int32} {a3 : Int32} {r : PR} (h : F_X3_addSight_16 M a1 a2 a3 = some r) : PW l 0 Y_X3_addSight k_X3_addSight [vR 16, vI a1, vI a2, vI a3] [] M r := by
  unfold F_X3_addSight_16 at h
  refine p_aload_n rfl ?_
  refine p_getI fk_X3_52 gt_16 rfl ?_
  refine p_bipush cb_20 ?_
  refine p_icmp_lt h 6 rfl rfl (fun _ h => ?_) (fun _ h => ?_)
  · refine p_aload_n rfl ?_
    refine p_getR fk_X3_15 gt_16 rfl rfl ?_
    refine p_aload_n rfl ?_
    refine p_getI fk_X3_52 gt_16 rfl ?_
    refine p_iload_n rfl ?_
    refine p_iast gt_18 h (fun h => ?_)
    refine p_aload_n rfl ?_
    refine p_getR fk_X3_18 gt_16 rfl rfl ?_
    refine p_aload_n rfl ?_
    refine p_getI fk_X3_52 gt_16 rfl ?_
    refine p_iload_n rfl ?_
    refine p_iast gt_19 h (fun h => ?_)
    refine p_aload_n rfl ?_
    refine p_getR fk_X3_21 gt_16 rfl rfl ?_
    refine p_aload_n rfl ?_
    refine p_getI fk_X3_52 gt_16 rfl ?_
    refine p_iload_n rfl ?_
    refine p_zast gt_20 h (fun h => ?_)
    have h := lt_h h
    refine p_aload_n rfl ?_
    refine p_dup rfl ?_
    refine p_getI fk_X3_52 gt_16 rfl ?_
    refine p_iconst cn_1 ?_
    refine p_iadd ?_
    refine p_putI fk_X3_52 gt_16 rfl ?_
    refine p_aload_n rfl ?_
    refine p_getI fk_X3_52 gt_16 rfl ?_
    exact p_iret rfl h
  · refine p_iconst cn_m1 ?_
    exact p_iret rfl h
set_option maxRecDepth 100000 in
theorem pc_X3_addSight_16 {l : Launch} (hl : l.stackTraces = false) {M : PM} {a1 : Int32} {a2 : Int32} {a3 : Int32} {r : PR} (h : F_X3_addSight_16 M a1 a2 a3 = some r) : PC l 0 Y_X3_addSight [vR 16, vI a1, vI a2, vI a3] M r := pc_of hl (by decide +kernel) cok_X3_addSight (Nat.le_of_ble_eq_true rfl) rfl (S_X3_addSight_16 hl  h) rfl
def F_X10_seen_0_21 (M : PM) (x1 : Int32) (x2 : Int32) (x3 : Int32) (t1 : Int32) : Option PR := bV (F_X10_need_0 M t1) fun M628 => cI (F_X3_addSight_16 M628 x1 x2 x3) fun v630 M629 => some (.inl (some (.int v630)), M629)
def F_X10_seen_0_20 (M : PM) (x1 : Int32) (x2 : Int32) (x3 : Int32) : Option PR := F_X10_seen_0_21 M x1 x2 x3 0
def F_X10_seen_0 (M : PM) (a1 : Int32) (a2 : Int32) (a3 : Int32) : Option PR := bV (F_X10_needLaw_0 M a1) fun M631 => (if a2 < 0 then F_X10_seen_0_20 M631 a1 a2 a3 else (if 9 < a2 then F_X10_seen_0_20 M631 a1 a2 a3 else F_X10_seen_0_21 M631 a1 a2 a3 1))
set_option maxRecDepth 100000 in
theorem S_X10_seen_0_21 {l : Launch} (hl : l.stackTraces = false) {M : PM} {x1 : Int32} {x2 : Int32} {x3 : Int32} {t1 : Int32} {r : PR} (h : F_X10_seen_0_21  M x1 x2 x3 t1 = some r) : PW l 8 Y_X10_seen k_X10_seen_21 [vR 0, vI x1, vI x2, vI x3] [vI t1, vR 0] M r := by
  unfold F_X10_seen_0_21 at h
  refine p_bV mok_X10_need rfl gt_0 rfl ins_X10_need lk_X10_101 (Nat.le_of_ble_eq_true rfl) (Nat.le_of_ble_eq_true rfl) rfl (fun _ h => pc_X10_need_0 hl h) h (fun M628 h => ?_)
  refine p_aload_n rfl ?_
  refine p_getR fk_X10_34 gt_0 rfl rfl ?_
  refine p_iload_n rfl ?_
  refine p_iload_n rfl ?_
  refine p_iload_n rfl ?_
  refine p_cI (av := [_, _, _, _]) ⟨mok_X3_addSight, Or.inl ⟨264, 16, 3, 0, _, rfl, rfl, rfl, gt_16, rfl, ins_X3_addSight, Or.inr lk_X10_264⟩⟩ (Nat.le_of_ble_eq_true rfl) (Nat.le_of_ble_eq_true rfl) rfl (fun _ h => pc_X3_addSight_16 hl h) h (fun v630 M629 h => ?_)
  exact p_iret rfl h
set_option maxRecDepth 100000 in
theorem S_X10_seen_0_20 {l : Launch} (hl : l.stackTraces = false) {M : PM} {x1 : Int32} {x2 : Int32} {x3 : Int32} {r : PR} (h : F_X10_seen_0_20  M x1 x2 x3 = some r) : PW l 8 Y_X10_seen k_X10_seen_20 [vR 0, vI x1, vI x2, vI x3] [vR 0] M r := by
  unfold F_X10_seen_0_20 at h
  refine p_iconst cn_0 ?_
  exact p_fg (S_X10_seen_0_21 hl h) ⟨Or.inr rfl, Or.inr rfl, Or.inr rfl, Or.inr rfl, trivial⟩
set_option maxRecDepth 100000 in
theorem S_X10_seen_0 {l : Launch} (hl : l.stackTraces = false) {M : PM} {a1 : Int32} {a2 : Int32} {a3 : Int32} {r : PR} (h : F_X10_seen_0 M a1 a2 a3 = some r) : PW l 8 Y_X10_seen k_X10_seen [vR 0, vI a1, vI a2, vI a3] [] M r := by
  unfold F_X10_seen_0 at h
  refine p_aload_n rfl ?_
  refine p_iload_n rfl ?_
  refine p_bV mok_X10_needLaw rfl gt_0 rfl ins_X10_needLaw lk_X10_155 (Nat.le_of_ble_eq_true rfl) (Nat.le_of_ble_eq_true rfl) rfl (fun _ h => pc_X10_needLaw_0 hl h) h (fun M631 h => ?_)
  refine p_aload_n rfl ?_
  refine p_iload_n rfl ?_
  refine p_if_lt h 11 rfl rfl (fun _ h => ?_) (fun _ h => ?_)
  · exact p_fg (S_X10_seen_0_20 hl h) ⟨Or.inr rfl, Or.inr rfl, Or.inr rfl, Or.inr rfl, trivial⟩
  · refine p_iload_n rfl ?_
    refine p_bipush cb_9 ?_
    refine p_icmp_gt h 11 rfl rfl (fun _ h => ?_) (fun _ h => ?_)
    · exact p_fg (S_X10_seen_0_20 hl h) ⟨Or.inr rfl, Or.inr rfl, Or.inr rfl, Or.inr rfl, trivial⟩
    · refine p_iconst cn_1 ?_
      refine p_goto 12 rfl rfl ?_
      exact p_fg (S_X10_seen_0_21 hl h) ⟨Or.inr rfl, Or.inr rfl, Or.inr rfl, Or.inr rfl, trivial⟩
set_option maxRecDepth 100000 in
theorem pc_X10_seen_0 {l : Launch} (hl : l.stackTraces = false) {M : PM} {a1 : Int32} {a2 : Int32} {a3 : Int32} {r : PR} (h : F_X10_seen_0 M a1 a2 a3 = some r) : PC l 8 Y_X10_seen [vR 0, vI a1, vI a2, vI a3] M r := pc_of hl (by decide +kernel) cok_X10_seen (Nat.le_of_ble_eq_true rfl) rfl (S_X10_seen_0 hl  h) rfl
def F_X5_fittingFrom_93_78 (k7 : PM → Int32 → Int64 → Int32 → Option PR) (M : PM) (x1 : Int32) (x4 : Int32) (t0 : Int64) (t1 : Int64) : Option PR := lt (t0 &&& t1) fun y632 => lt (x4 + 1) fun y633 => k7 M x1 y632 y633
def F_X5_fittingFrom_93_7 : Nat → PM → Int32 → Int64 → Int32 → Option PR
  | 0, _, _, _, _ => none
  | n + 1, M, x1, x2, x4 => (if mI M 16 4 ≤ x4 then some (.inl (some (.long x2)), M) else if ixOK x4 20 = true then if ixOK x4 20 = true then cJ (F_X2_heldFrom_4 M (mA M 18 x4.toNatClampNeg) (x1 - (mA M 19 x4.toNatClampNeg))) fun v635 M634 => if ixOK x4 20 = true then (if mA M634 20 x4.toNatClampNeg = 0 then F_X5_fittingFrom_93_78 (F_X5_fittingFrom_93_7 n) M634 x1 x4 x2 (v635 ^^^ (-1 : Int64)) else F_X5_fittingFrom_93_78 (F_X5_fittingFrom_93_7 n) M634 x1 x4 x2 v635) else none else none else none)
def F_X5_fittingFrom_93 (M : PM) (a1 : Int32) : Option PR := lt ((-1 : Int64)) fun y636 => F_X5_fittingFrom_93_7 FUEL M a1 y636 0
set_option maxRecDepth 100000 in
theorem S_X5_fittingFrom_93_78 {l : Launch} (hl : l.stackTraces = false) {k7 : PM → Int32 → Int64 → Int32 → Option PR} (hk7 : ∀ {M : PM} {x1 : Int32} {x2 : Int64} {x4 : Int32} {r : PR}, k7 M x1 x2 x4 = some r → PW l 3 Y_X5_fittingFrom k_X5_fittingFrom_7 [vR 93, vI x1, vJ x2, jk, vI x4, jk, jk] [] M r) {M : PM} {x1 : Int32} {x4 : Int32} {t0 : Int64} {t1 : Int64} {r : PR} (h : F_X5_fittingFrom_93_78 k7 M x1 x4 t0 t1 = some r) : PW l 3 Y_X5_fittingFrom k_X5_fittingFrom_78 [vR 93, vI x1, jk, jk, vI x4, jk, jk] [vJ t1, vJ t0] M r := by
  unfold F_X5_fittingFrom_93_78 at h
  refine p_land ?_
  have h := lt_h h
  refine p_lstore_n (Nat.le_of_ble_eq_true rfl) rfl ?_
  have h := lt_h h
  refine p_iinc (Nat.le_of_ble_eq_true rfl) rfl (ci_1 _) rfl ?_
  refine p_goto 4 rfl rfl ?_
  exact p_fg (hk7 h) ⟨Or.inr rfl, Or.inr rfl, Or.inr rfl, Or.inl rfl, Or.inr rfl, Or.inl rfl, Or.inl rfl, trivial⟩
set_option maxRecDepth 100000 in
theorem S_X5_fittingFrom_93_7 {l : Launch} (hl : l.stackTraces = false) : ∀ (n : Nat) {M : PM} {x1 : Int32} {x2 : Int64} {x4 : Int32} {r : PR}, F_X5_fittingFrom_93_7  n M x1 x2 x4 = some r → PW l 3 Y_X5_fittingFrom k_X5_fittingFrom_7 [vR 93, vI x1, vJ x2, jk, vI x4, jk, jk] [] M r := by
  intro n
  induction n with
  | zero => intro M x1 x2 x4 r h; exact nomatch (show (none : Option PR) = some r from h)
  | succ n ih =>
    intro M x1 x2 x4 r h
    rw [F_X5_fittingFrom_93_7] at h
    refine p_iload rfl ?_
    refine p_aload_n rfl ?_
    refine p_getR fk_X5_19 gt_93 rfl rfl ?_
    refine p_getI fk_X5_51 gt_16 rfl ?_
    refine p_icmp_ge h 42 rfl rfl (fun _ h => ?_) (fun _ h => ?_)
    · refine p_lload_n rfl ?_
      exact p_lret rfl h
    · refine p_aload_n rfl ?_
      refine p_getR fk_X5_15 gt_93 rfl rfl ?_
      refine p_getR fk_X5_56 gt_3 rfl rfl ?_
      refine p_aload_n rfl ?_
      refine p_getR fk_X5_19 gt_93 rfl rfl ?_
      refine p_getR fk_X5_60 gt_16 rfl rfl ?_
      refine p_iload rfl ?_
      refine p_iald gt_18 h (fun h => ?_)
      refine p_iload_n rfl ?_
      refine p_aload_n rfl ?_
      refine p_getR fk_X5_19 gt_93 rfl rfl ?_
      refine p_getR fk_X5_63 gt_16 rfl rfl ?_
      refine p_iload rfl ?_
      refine p_iald gt_19 h (fun h => ?_)
      refine p_isub ?_
      refine p_cJ (av := [_, _, _]) ⟨mok_X2_heldFrom, Or.inl ⟨66, 4, 2, 0, _, rfl, rfl, rfl, gt_4, rfl, ins_X2_heldFrom, Or.inr lk_X5_66⟩⟩ (Nat.le_of_ble_eq_true rfl) (Nat.le_of_ble_eq_true rfl) rfl (fun _ h => pc_X2_heldFrom_4 hl h) h (fun v635 M634 h => ?_)
      refine p_lstore (Nat.le_of_ble_eq_true rfl) rfl ?_
      refine p_lload_n rfl ?_
      refine p_aload_n rfl ?_
      refine p_getR fk_X5_19 gt_93 rfl rfl ?_
      refine p_getR fk_X5_72 gt_16 rfl rfl ?_
      refine p_iload rfl ?_
      refine p_zald gt_20 h (fun h => ?_)
      refine p_if_eq h 35 rfl rfl (fun _ h => ?_) (fun _ h => ?_)
      · refine p_lload rfl ?_
        refine p_ldc2_w co_X5_49 ?_
        refine p_lxor ?_
        exact p_fg (S_X5_fittingFrom_93_78 hl (fun h => ih h) h) ⟨Or.inr rfl, Or.inr rfl, Or.inl rfl, Or.inl rfl, Or.inr rfl, Or.inl rfl, Or.inl rfl, trivial⟩
      · refine p_lload rfl ?_
        refine p_goto 38 rfl rfl ?_
        exact p_fg (S_X5_fittingFrom_93_78 hl (fun h => ih h) h) ⟨Or.inr rfl, Or.inr rfl, Or.inl rfl, Or.inl rfl, Or.inr rfl, Or.inl rfl, Or.inl rfl, trivial⟩
set_option maxRecDepth 100000 in
theorem S_X5_fittingFrom_93 {l : Launch} (hl : l.stackTraces = false) {M : PM} {a1 : Int32} {r : PR} (h : F_X5_fittingFrom_93 M a1 = some r) : PW l 3 Y_X5_fittingFrom k_X5_fittingFrom [vR 93, vI a1, jk, jk, jk, jk, jk] [] M r := by
  unfold F_X5_fittingFrom_93 at h
  refine p_ldc2_w co_X5_49 ?_
  have h := lt_h h
  refine p_lstore_n (Nat.le_of_ble_eq_true rfl) rfl ?_
  refine p_iconst cn_0 ?_
  refine p_istore (Nat.le_of_ble_eq_true rfl) rfl ?_
  exact p_fg (S_X5_fittingFrom_93_7 hl FUEL h) ⟨Or.inr rfl, Or.inr rfl, Or.inr rfl, Or.inl rfl, Or.inr rfl, Or.inl rfl, Or.inl rfl, trivial⟩
set_option maxRecDepth 100000 in
theorem pc_X5_fittingFrom_93 {l : Launch} (hl : l.stackTraces = false) {M : PM} {a1 : Int32} {r : PR} (h : F_X5_fittingFrom_93 M a1 = some r) : PC l 3 Y_X5_fittingFrom [vR 93, vI a1] M r := pc_of hl (by decide +kernel) cok_X5_fittingFrom (Nat.le_of_ble_eq_true rfl) rfl (S_X5_fittingFrom_93 hl  h) rfl
def F_X10_nthLowest_5 : Nat → PM → Int32 → Int64 → Int32 → Option PR
  | 0, _, _, _, _ => none
  | n + 1, M, x2, x3, x5 => (if x2 ≤ x5 then cI (F_X10_lowest M x3) fun v638 M637 => some (.inl (some (.int v638)), M637) else lt (x3 &&& (x3 - (1 : Int64))) fun y639 => lt (x5 + 1) fun y640 => F_X10_nthLowest_5 n M x2 y639 y640)
def F_X10_nthLowest (M : PM) (a0 : Int64) (a1 : Int32) : Option PR := F_X10_nthLowest_5 FUEL M a1 a0 1
set_option maxRecDepth 100000 in
theorem S_X10_nthLowest_5 {l : Launch} (hl : l.stackTraces = false) : ∀ (n : Nat) {M : PM} {x2 : Int32} {x3 : Int64} {x5 : Int32} {r : PR}, F_X10_nthLowest_5  n M x2 x3 x5 = some r → PW l 2 Y_X10_nthLowest k_X10_nthLowest_5 [jk, jk, vI x2, vJ x3, jk, vI x5] [] M r := by
  intro n
  induction n with
  | zero => intro M x2 x3 x5 r h; exact nomatch (show (none : Option PR) = some r from h)
  | succ n ih =>
    intro M x2 x3 x5 r h
    rw [F_X10_nthLowest_5] at h
    refine p_iload rfl ?_
    refine p_iload_n rfl ?_
    refine p_icmp_ge h 15 rfl rfl (fun _ h => ?_) (fun _ h => ?_)
    · refine p_lload_n rfl ?_
      refine p_cI (av := [_]) ⟨mok_X10_lowest, Or.inr ⟨418, rfl, rfl, sta_X10_lowest, Or.inl lk_X10_418⟩⟩ (Nat.le_of_ble_eq_true rfl) (Nat.le_of_ble_eq_true rfl) rfl (fun _ h => pc_X10_lowest hl h) h (fun v638 M637 h => ?_)
      exact p_iret rfl h
    · refine p_lload_n rfl ?_
      refine p_lload_n rfl ?_
      refine p_lconst cl_1 ?_
      refine p_lsub ?_
      refine p_land ?_
      have h := lt_h h
      refine p_lstore_n (Nat.le_of_ble_eq_true rfl) rfl ?_
      have h := lt_h h
      refine p_iinc (Nat.le_of_ble_eq_true rfl) rfl (ci_1 _) rfl ?_
      refine p_goto 4 rfl rfl ?_
      exact p_fg (ih h) ⟨Or.inl rfl, Or.inl rfl, Or.inr rfl, Or.inr rfl, Or.inl rfl, Or.inr rfl, trivial⟩
set_option maxRecDepth 100000 in
theorem S_X10_nthLowest {l : Launch} (hl : l.stackTraces = false) {M : PM} {a0 : Int64} {a1 : Int32} {r : PR} (h : F_X10_nthLowest M a0 a1 = some r) : PW l 2 Y_X10_nthLowest k_X10_nthLowest [vJ a0, jk, vI a1, jk, jk, jk] [] M r := by
  unfold F_X10_nthLowest at h
  refine p_lload_n rfl ?_
  refine p_lstore_n (Nat.le_of_ble_eq_true rfl) rfl ?_
  refine p_iconst cn_1 ?_
  refine p_istore (Nat.le_of_ble_eq_true rfl) rfl ?_
  exact p_fg (S_X10_nthLowest_5 hl FUEL h) ⟨Or.inl rfl, Or.inl rfl, Or.inr rfl, Or.inr rfl, Or.inl rfl, Or.inr rfl, trivial⟩
set_option maxRecDepth 100000 in
theorem pc_X10_nthLowest {l : Launch} (hl : l.stackTraces = false) {M : PM} {a0 : Int64} {a1 : Int32} {r : PR} (h : F_X10_nthLowest M a0 a1 = some r) : PC l 2 Y_X10_nthLowest [vJ a0, vI a1] M r := pc_of hl (by decide +kernel) cok_X10_nthLowest (Nat.le_of_ble_eq_true rfl) rfl (S_X10_nthLowest hl  h) rfl
def F_X5_note_93_57 : Nat → PM → Int32 → Int64 → Int32 → Option PR
  | 0, _, _, _, _ => none
  | n + 1, M, x1, x2, x5 => (if mI M 4 4 ≤ x5 then some (.inl none, M) else (if 12 ≤ x5 then some (.inl none, M) else if ixOK x5 12 = true then cJ (F_X2_heldFrom_4 M x5 x1) fun v642 M641 => cI (F_J13_bitCount_95d88 M641 (x2 &&& v642)) fun v644 M643 => if ixOK x5 12 = true then lt (x5 + 1) fun y645 => F_X5_note_93_57 n (sA M643 94 x5.toNatClampNeg ((mA M 94 x5.toNatClampNeg) + v644)) x1 x2 y645 else none else none))
def F_X5_note_93_39 (M : PM) (x1 : Int32) (x2 : Int64) (x4 : Int32) (t1 : Int32) : Option PR := cI (F_X10_nthLowest (sI M 93 4 t1) x2 x4) fun v647 M646 => F_X5_note_93_57 FUEL (sI M646 93 5 (x1 + v647)) x1 x2 0
def F_X5_note_93 (M : PM) (a1 : Int32) (a2 : Int64) : Option PR := cI (F_J13_bitCount_95d88 M a2) fun v649 M648 => (if mI (sI M648 93 3 ((mI M648 93 3) + v649)) 93 4 = (-1) then cI (F_X10_lowest (sI M648 93 3 ((mI M648 93 3) + v649)) a2) fun v651 M650 => F_X5_note_93_39 M650 a1 a2 v649 (a1 + v651) else F_X5_note_93_39 (sI M648 93 3 ((mI M648 93 3) + v649)) a1 a2 v649 (mI (sI M648 93 3 ((mI M648 93 3) + v649)) 93 4))
set_option maxRecDepth 100000 in
theorem S_X5_note_93_57 {l : Launch} (hl : l.stackTraces = false) : ∀ (n : Nat) {M : PM} {x1 : Int32} {x2 : Int64} {x5 : Int32} {r : PR}, F_X5_note_93_57  n M x1 x2 x5 = some r → PW l 3 Y_X5_note k_X5_note_57 [vR 93, vI x1, vJ x2, jk, jk, vI x5] [] M r := by
  intro n
  induction n with
  | zero => intro M x1 x2 x5 r h; exact nomatch (show (none : Option PR) = some r from h)
  | succ n ih =>
    intro M x1 x2 x5 r h
    rw [F_X5_note_93_57] at h
    refine p_iload rfl ?_
    refine p_aload_n rfl ?_
    refine p_getR fk_X5_15 gt_93 rfl rfl ?_
    refine p_getR fk_X5_56 gt_3 rfl rfl ?_
    refine p_getI fk_X5_89 gt_4 rfl ?_
    refine p_icmp_ge h 60 rfl rfl (fun _ h => ?_) (fun _ h => ?_)
    · exact p_ret rfl h
    · refine p_iload rfl ?_
      refine p_aload_n rfl ?_
      refine p_getR fk_X5_9 gt_93 rfl rfl ?_
      refine p_alen gt_94 (by simp) al_12 ?_
      refine p_icmp_ge h 60 rfl rfl (fun _ h => ?_) (fun _ h => ?_)
      · exact p_ret rfl h
      · refine p_aload_n rfl ?_
        refine p_getR fk_X5_9 gt_93 rfl rfl ?_
        refine p_iload rfl ?_
        refine p_dup2 rfl rfl ?_
        refine p_iald gt_94 h (fun h => ?_)
        refine p_lload_n rfl ?_
        refine p_aload_n rfl ?_
        refine p_getR fk_X5_15 gt_93 rfl rfl ?_
        refine p_getR fk_X5_56 gt_3 rfl rfl ?_
        refine p_iload rfl ?_
        refine p_iload_n rfl ?_
        refine p_cJ (av := [_, _, _]) ⟨mok_X2_heldFrom, Or.inl ⟨66, 4, 2, 0, _, rfl, rfl, rfl, gt_4, rfl, ins_X2_heldFrom, Or.inr lk_X5_66⟩⟩ (Nat.le_of_ble_eq_true rfl) (Nat.le_of_ble_eq_true rfl) rfl (fun _ h => pc_X2_heldFrom_4 hl h) h (fun v642 M641 h => ?_)
        refine p_land ?_
        refine p_cI (av := [_]) ⟨mok_J13_bitCount_95d88, Or.inr ⟨76, rfl, rfl, sta_J13_bitCount_95d88, Or.inl lk_X5_76⟩⟩ (Nat.le_of_ble_eq_true rfl) (Nat.le_of_ble_eq_true rfl) rfl (fun _ h => pc_J13_bitCount_95d88 hl h) h (fun v644 M643 h => ?_)
        refine p_iadd ?_
        refine p_iast gt_94 h (fun h => ?_)
        have h := lt_h h
        refine p_iinc (Nat.le_of_ble_eq_true rfl) rfl (ci_1 _) rfl ?_
        refine p_goto 31 rfl rfl ?_
        exact p_fg (ih h) ⟨Or.inr rfl, Or.inr rfl, Or.inr rfl, Or.inl rfl, Or.inl rfl, Or.inr rfl, trivial⟩
set_option maxRecDepth 100000 in
theorem S_X5_note_93_39 {l : Launch} (hl : l.stackTraces = false) {M : PM} {x1 : Int32} {x2 : Int64} {x4 : Int32} {t1 : Int32} {r : PR} (h : F_X5_note_93_39  M x1 x2 x4 t1 = some r) : PW l 3 Y_X5_note k_X5_note_39 [vR 93, vI x1, vJ x2, jk, vI x4, jk] [vI t1, vR 93] M r := by
  unfold F_X5_note_93_39 at h
  refine p_putI fk_X5_27 gt_93 rfl ?_
  refine p_aload_n rfl ?_
  refine p_iload_n rfl ?_
  refine p_lload_n rfl ?_
  refine p_iload rfl ?_
  refine p_cI (av := [_, _]) ⟨mok_X10_nthLowest, Or.inr ⟨85, rfl, rfl, sta_X10_nthLowest, Or.inr lk_X5_85⟩⟩ (Nat.le_of_ble_eq_true rfl) (Nat.le_of_ble_eq_true rfl) rfl (fun _ h => pc_X10_nthLowest hl h) h (fun v647 M646 h => ?_)
  refine p_iadd ?_
  refine p_putI fk_X5_30 gt_93 rfl ?_
  refine p_iconst cn_0 ?_
  refine p_istore (Nat.le_of_ble_eq_true rfl) rfl ?_
  exact p_fg (S_X5_note_93_57 hl FUEL h) ⟨Or.inr rfl, Or.inr rfl, Or.inr rfl, Or.inl rfl, Or.inl rfl, Or.inr rfl, trivial⟩
set_option maxRecDepth 100000 in
theorem S_X5_note_93 {l : Launch} (hl : l.stackTraces = false) {M : PM} {a1 : Int32} {a2 : Int64} {r : PR} (h : F_X5_note_93 M a1 a2 = some r) : PW l 3 Y_X5_note k_X5_note [vR 93, vI a1, vJ a2, jk, jk, jk] [] M r := by
  unfold F_X5_note_93 at h
  refine p_lload_n rfl ?_
  refine p_cI (av := [_]) ⟨mok_J13_bitCount_95d88, Or.inr ⟨76, rfl, rfl, sta_J13_bitCount_95d88, Or.inl lk_X5_76⟩⟩ (Nat.le_of_ble_eq_true rfl) (Nat.le_of_ble_eq_true rfl) rfl (fun _ h => pc_J13_bitCount_95d88 hl h) h (fun v649 M648 h => ?_)
  refine p_istore (Nat.le_of_ble_eq_true rfl) rfl ?_
  refine p_aload_n rfl ?_
  refine p_dup rfl ?_
  refine p_getI fk_X5_23 gt_93 rfl ?_
  refine p_iload rfl ?_
  refine p_iadd ?_
  refine p_putI fk_X5_23 gt_93 rfl ?_
  refine p_aload_n rfl ?_
  refine p_aload_n rfl ?_
  refine p_getI fk_X5_27 gt_93 rfl ?_
  refine p_iconst cn_m1 ?_
  refine p_icmp_ne h 19 rfl rfl (fun _ h => ?_) (fun _ h => ?_)
  · refine p_iload_n rfl ?_
    refine p_lload_n rfl ?_
    refine p_cI (av := [_]) ⟨mok_X10_lowest, Or.inr ⟨82, rfl, rfl, sta_X10_lowest, Or.inr lk_X5_82⟩⟩ (Nat.le_of_ble_eq_true rfl) (Nat.le_of_ble_eq_true rfl) rfl (fun _ h => pc_X10_lowest hl h) h (fun v651 M650 h => ?_)
    refine p_iadd ?_
    refine p_goto 21 rfl rfl ?_
    exact p_fg (S_X5_note_93_39 hl h) ⟨Or.inr rfl, Or.inr rfl, Or.inr rfl, Or.inl rfl, Or.inr rfl, Or.inl rfl, trivial⟩
  · refine p_aload_n rfl ?_
    refine p_getI fk_X5_27 gt_93 rfl ?_
    exact p_fg (S_X5_note_93_39 hl h) ⟨Or.inr rfl, Or.inr rfl, Or.inr rfl, Or.inl rfl, Or.inr rfl, Or.inl rfl, trivial⟩
set_option maxRecDepth 100000 in
theorem pc_X5_note_93 {l : Launch} (hl : l.stackTraces = false) {M : PM} {a1 : Int32} {a2 : Int64} {r : PR} (h : F_X5_note_93 M a1 a2 = some r) : PC l 3 Y_X5_note [vR 93, vI a1, vJ a2] M r := pc_of hl (by decide +kernel) cok_X5_note (Nat.le_of_ble_eq_true rfl) rfl (S_X5_note_93 hl  h) rfl
def F_X5_survey_93_83 (k41 : PM → Int32 → Option PR) (M : PM) (x1 : Int32) : Option PR := lt (x1 + 64) fun y652 => k41 M y652
def F_X5_survey_93_41 : Nat → PM → Int32 → Option PR
  | 0, _, _ => none
  | n + 1, M, x1 => (if mI M 3 6 ≤ x1 then some (.inl none, M) else cJ (F_X5_fittingFrom_93 M x1) fun v654 M653 => cJ (F_X10_low M653 ((mI M653 3 6) - x1)) fun v656 M655 => lt (v654 &&& v656) fun y657 => (if lg_cmp y657 (0 : Int64) = 0 then F_X5_survey_93_83 (F_X5_survey_93_41 n) M655 x1 else cV (F_X5_note_93 M655 x1 y657) fun M658 => F_X5_survey_93_83 (F_X5_survey_93_41 n) M658 x1))
def F_X5_survey_93_17 : Nat → PM → Int32 → Option PR
  | 0, _, _ => none
  | n + 1, M, x1 => (if 12 ≤ x1 then F_X5_survey_93_41 FUEL M 0 else if ixOK x1 12 = true then lt (x1 + 1) fun y659 => F_X5_survey_93_17 n (sA M 94 x1.toNatClampNeg 0) y659 else none)
def F_X5_survey_93 (M : PM)  : Option PR := F_X5_survey_93_17 FUEL (sI (sI (sI M 93 3 0) 93 4 (-1)) 93 5 (-1)) 0
set_option maxRecDepth 100000 in
theorem S_X5_survey_93_83 {l : Launch} (hl : l.stackTraces = false) {k41 : PM → Int32 → Option PR} (hk41 : ∀ {M : PM} {x1 : Int32} {r : PR}, k41 M x1 = some r → PW l 4 Y_X5_survey k_X5_survey_41 [vR 93, vI x1, jk, jk] [] M r) {M : PM} {x1 : Int32} {r : PR} (h : F_X5_survey_93_83 k41 M x1 = some r) : PW l 4 Y_X5_survey k_X5_survey_83 [vR 93, vI x1, jk, jk] [] M r := by
  unfold F_X5_survey_93_83 at h
  have h := lt_h h
  refine p_iinc (Nat.le_of_ble_eq_true rfl) rfl (ci_64 _) rfl ?_
  refine p_goto 25 rfl rfl ?_
  exact p_fg (hk41 h) ⟨Or.inr rfl, Or.inr rfl, Or.inl rfl, Or.inl rfl, trivial⟩
set_option maxRecDepth 100000 in
theorem S_X5_survey_93_41 {l : Launch} (hl : l.stackTraces = false) : ∀ (n : Nat) {M : PM} {x1 : Int32} {r : PR}, F_X5_survey_93_41  n M x1 = some r → PW l 4 Y_X5_survey k_X5_survey_41 [vR 93, vI x1, jk, jk] [] M r := by
  intro n
  induction n with
  | zero => intro M x1 r h; exact nomatch (show (none : Option PR) = some r from h)
  | succ n ih =>
    intro M x1 r h
    rw [F_X5_survey_93_41] at h
    refine p_iload_n rfl ?_
    refine p_aload_n rfl ?_
    refine p_getR fk_X5_15 gt_93 rfl rfl ?_
    refine p_getI fk_X5_33 gt_3 rfl ?_
    refine p_icmp_ge h 51 rfl rfl (fun _ h => ?_) (fun _ h => ?_)
    · exact p_ret rfl h
    · refine p_aload_n rfl ?_
      refine p_iload_n rfl ?_
      refine p_cJ (av := [_, _]) ⟨mok_X5_fittingFrom, Or.inl ⟨38, 93, 5, 0, _, rfl, rfl, rfl, gt_93, rfl, ins_X5_fittingFrom, Or.inl lk_X5_38⟩⟩ (Nat.le_of_ble_eq_true rfl) (Nat.le_of_ble_eq_true rfl) rfl (fun _ h => pc_X5_fittingFrom_93 hl h) h (fun v654 M653 h => ?_)
      refine p_aload_n rfl ?_
      refine p_getR fk_X5_15 gt_93 rfl rfl ?_
      refine p_getI fk_X5_33 gt_3 rfl ?_
      refine p_iload_n rfl ?_
      refine p_isub ?_
      refine p_cJ (av := [_]) ⟨mok_X10_low, Or.inr ⟨42, rfl, rfl, sta_X10_low, Or.inr lk_X5_42⟩⟩ (Nat.le_of_ble_eq_true rfl) (Nat.le_of_ble_eq_true rfl) rfl (fun _ h => pc_X10_low hl h) h (fun v656 M655 h => ?_)
      refine p_land ?_
      have h := lt_h h
      refine p_lstore_n (Nat.le_of_ble_eq_true rfl) rfl ?_
      refine p_lload_n rfl ?_
      refine p_lconst cl_0 ?_
      refine p_lcmp ?_
      refine p_if_eq h 49 rfl rfl (fun _ h => ?_) (fun _ h => ?_)
      · exact p_fg (S_X5_survey_93_83 hl (fun h => ih h) h) ⟨Or.inr rfl, Or.inr rfl, Or.inl rfl, Or.inl rfl, trivial⟩
      · refine p_aload_n rfl ?_
        refine p_iload_n rfl ?_
        refine p_lload_n rfl ?_
        refine p_cV (av := [_, _, _]) ⟨mok_X5_note, Or.inl ⟨45, 93, 5, 0, _, rfl, rfl, rfl, gt_93, rfl, ins_X5_note, Or.inl lk_X5_45⟩⟩ (Nat.le_of_ble_eq_true rfl) (Nat.le_of_ble_eq_true rfl) rfl (fun _ h => pc_X5_note_93 hl h) h (fun M658 h => ?_)
        exact p_fg (S_X5_survey_93_83 hl (fun h => ih h) h) ⟨Or.inr rfl, Or.inr rfl, Or.inl rfl, Or.inl rfl, trivial⟩
set_option maxRecDepth 100000 in
theorem S_X5_survey_93_17 {l : Launch} (hl : l.stackTraces = false) : ∀ (n : Nat) {M : PM} {x1 : Int32} {r : PR}, F_X5_survey_93_17  n M x1 = some r → PW l 4 Y_X5_survey k_X5_survey_17 [vR 93, vI x1, jk, jk] [] M r := by
  intro n
  induction n with
  | zero => intro M x1 r h; exact nomatch (show (none : Option PR) = some r from h)
  | succ n ih =>
    intro M x1 r h
    rw [F_X5_survey_93_17] at h
    refine p_iload_n rfl ?_
    refine p_aload_n rfl ?_
    refine p_getR fk_X5_9 gt_93 rfl rfl ?_
    refine p_alen gt_94 (by simp) al_12 ?_
    refine p_icmp_ge h 23 rfl rfl (fun _ h => ?_) (fun _ h => ?_)
    · refine p_iconst cn_0 ?_
      refine p_istore_n (Nat.le_of_ble_eq_true rfl) rfl ?_
      exact p_fg (S_X5_survey_93_41 hl FUEL h) ⟨Or.inr rfl, Or.inr rfl, Or.inl rfl, Or.inl rfl, trivial⟩
    · refine p_aload_n rfl ?_
      refine p_getR fk_X5_9 gt_93 rfl rfl ?_
      refine p_iload_n rfl ?_
      refine p_iconst cn_0 ?_
      refine p_iast gt_94 h (fun h => ?_)
      have h := lt_h h
      refine p_iinc (Nat.le_of_ble_eq_true rfl) rfl (ci_1 _) rfl ?_
      refine p_goto 11 rfl rfl ?_
      exact p_fg (ih h) ⟨Or.inr rfl, Or.inr rfl, Or.inl rfl, Or.inl rfl, trivial⟩
set_option maxRecDepth 100000 in
theorem S_X5_survey_93 {l : Launch} (hl : l.stackTraces = false) {M : PM}  {r : PR} (h : F_X5_survey_93 M  = some r) : PW l 4 Y_X5_survey k_X5_survey [vR 93, jk, jk, jk] [] M r := by
  unfold F_X5_survey_93 at h
  refine p_aload_n rfl ?_
  refine p_iconst cn_0 ?_
  refine p_putI fk_X5_23 gt_93 rfl ?_
  refine p_aload_n rfl ?_
  refine p_iconst cn_m1 ?_
  refine p_putI fk_X5_27 gt_93 rfl ?_
  refine p_aload_n rfl ?_
  refine p_iconst cn_m1 ?_
  refine p_putI fk_X5_30 gt_93 rfl ?_
  refine p_iconst cn_0 ?_
  refine p_istore_n (Nat.le_of_ble_eq_true rfl) rfl ?_
  exact p_fg (S_X5_survey_93_17 hl FUEL h) ⟨Or.inr rfl, Or.inr rfl, Or.inl rfl, Or.inl rfl, trivial⟩
set_option maxRecDepth 100000 in
theorem pc_X5_survey_93 {l : Launch} (hl : l.stackTraces = false) {M : PM}  {r : PR} (h : F_X5_survey_93 M  = some r) : PC l 4 Y_X5_survey [vR 93] M r := pc_of hl (by decide +kernel) cok_X5_survey (Nat.le_of_ble_eq_true rfl) rfl (S_X5_survey_93 hl  h) rfl
def F_X10_fits_0_15 (M : PM) (x1 : Int32) (t1 : Int32) : Option PR := bV (F_X10_need_0 M t1) fun M660 => cV (F_X5_survey_93 M660) fun M661 => (if x1 = 0 then some (.inl (some (.int (mI M661 93 3))), M661) else if x1 = 1 then some (.inl (some (.int (mI M661 93 4))), M661) else some (.inl (some (.int (mI M661 93 5))), M661))
def F_X10_fits_0_14 (M : PM) (x1 : Int32) : Option PR := F_X10_fits_0_15 M x1 0
def F_X10_fits_0 (M : PM) (a1 : Int32) : Option PR := (if a1 < 0 then F_X10_fits_0_14 M a1 else (if 2 < a1 then F_X10_fits_0_14 M a1 else F_X10_fits_0_15 M a1 1))
set_option maxRecDepth 100000 in
theorem S_X10_fits_0_15 {l : Launch} (hl : l.stackTraces = false) {M : PM} {x1 : Int32} {t1 : Int32} {r : PR} (h : F_X10_fits_0_15  M x1 t1 = some r) : PW l 7 Y_X10_fits k_X10_fits_15 [vR 0, vI x1] [vI t1, vR 0] M r := by
  unfold F_X10_fits_0_15 at h
  refine p_bV mok_X10_need rfl gt_0 rfl ins_X10_need lk_X10_101 (Nat.le_of_ble_eq_true rfl) (Nat.le_of_ble_eq_true rfl) rfl (fun _ h => pc_X10_need_0 hl h) h (fun M660 h => ?_)
  refine p_aload_n rfl ?_
  refine p_getR fk_X10_79 gt_0 rfl rfl ?_
  refine p_cV (av := [_]) ⟨mok_X5_survey, Or.inl ⟨268, 93, 5, 0, _, rfl, rfl, rfl, gt_93, rfl, ins_X5_survey, Or.inr lk_X10_268⟩⟩ (Nat.le_of_ble_eq_true rfl) (Nat.le_of_ble_eq_true rfl) rfl (fun _ h => pc_X5_survey_93 hl h) h (fun M661 h => ?_)
  refine p_iload_n rfl ?_
  refine p_lsw2 h 15 rfl rfl 19 rfl rfl 23 rfl rfl (fun _ h => ?_) (fun _ h => ?_) (fun h => ?_)
  · refine p_aload_n rfl ?_
    refine p_getR fk_X10_79 gt_0 rfl rfl ?_
    refine p_getI fk_X10_271 gt_93 rfl ?_
    exact p_iret rfl h
  · refine p_aload_n rfl ?_
    refine p_getR fk_X10_79 gt_0 rfl rfl ?_
    refine p_getI fk_X10_274 gt_93 rfl ?_
    exact p_iret rfl h
  · refine p_aload_n rfl ?_
    refine p_getR fk_X10_79 gt_0 rfl rfl ?_
    refine p_getI fk_X10_277 gt_93 rfl ?_
    exact p_iret rfl h
set_option maxRecDepth 100000 in
theorem S_X10_fits_0_14 {l : Launch} (hl : l.stackTraces = false) {M : PM} {x1 : Int32} {r : PR} (h : F_X10_fits_0_14  M x1 = some r) : PW l 7 Y_X10_fits k_X10_fits_14 [vR 0, vI x1] [vR 0] M r := by
  unfold F_X10_fits_0_14 at h
  refine p_iconst cn_0 ?_
  exact p_fg (S_X10_fits_0_15 hl h) ⟨Or.inr rfl, Or.inr rfl, trivial⟩
set_option maxRecDepth 100000 in
theorem S_X10_fits_0 {l : Launch} (hl : l.stackTraces = false) {M : PM} {a1 : Int32} {r : PR} (h : F_X10_fits_0 M a1 = some r) : PW l 7 Y_X10_fits k_X10_fits [vR 0, vI a1] [] M r := by
  unfold F_X10_fits_0 at h
  refine p_aload_n rfl ?_
  refine p_iload_n rfl ?_
  refine p_if_lt h 8 rfl rfl (fun _ h => ?_) (fun _ h => ?_)
  · exact p_fg (S_X10_fits_0_14 hl h) ⟨Or.inr rfl, Or.inr rfl, trivial⟩
  · refine p_iload_n rfl ?_
    refine p_iconst cn_2 ?_
    refine p_icmp_gt h 8 rfl rfl (fun _ h => ?_) (fun _ h => ?_)
    · exact p_fg (S_X10_fits_0_14 hl h) ⟨Or.inr rfl, Or.inr rfl, trivial⟩
    · refine p_iconst cn_1 ?_
      refine p_goto 9 rfl rfl ?_
      exact p_fg (S_X10_fits_0_15 hl h) ⟨Or.inr rfl, Or.inr rfl, trivial⟩
set_option maxRecDepth 100000 in
theorem pc_X10_fits_0 {l : Launch} (hl : l.stackTraces = false) {M : PM} {a1 : Int32} {r : PR} (h : F_X10_fits_0 M a1 = some r) : PC l 7 Y_X10_fits [vR 0, vI a1] M r := pc_of hl (by decide +kernel) cok_X10_fits (Nat.le_of_ble_eq_true rfl) rfl (S_X10_fits_0 hl  h) rfl
def F_X5_leftAtWorst_93 (M : PM) (a1 : Int32) : Option PR := (if a1 < 0 then some (.inl (some (.int (mI M 93 3))), M) else (if a1 < 12 then if ixOK a1 12 = true then if ixOK a1 12 = true then cI (F_J9_max_7cf53 M (mA M 94 a1.toNatClampNeg) ((mI M 93 3) - (mA M 94 a1.toNatClampNeg))) fun v663 M662 => some (.inl (some (.int v663)), M662) else none else none else some (.inl (some (.int (mI M 93 3))), M)))
set_option maxRecDepth 100000 in
theorem S_X5_leftAtWorst_93 {l : Launch} (hl : l.stackTraces = false) {M : PM} {a1 : Int32} {r : PR} (h : F_X5_leftAtWorst_93 M a1 = some r) : PW l 1 Y_X5_leftAtWorst k_X5_leftAtWorst [vR 93, vI a1] [] M r := by
  unfold F_X5_leftAtWorst_93 at h
  refine p_iload_n rfl ?_
  refine p_if_lt h 7 rfl rfl (fun _ h => ?_) (fun _ h => ?_)
  · refine p_aload_n rfl ?_
    refine p_getI fk_X5_23 gt_93 rfl ?_
    refine p_goto 22 rfl rfl ?_
    exact p_iret rfl h
  · refine p_iload_n rfl ?_
    refine p_aload_n rfl ?_
    refine p_getR fk_X5_9 gt_93 rfl rfl ?_
    refine p_alen gt_94 (by simp) al_12 ?_
    refine p_icmp_lt h 10 rfl rfl (fun _ h => ?_) (fun _ h => ?_)
    · refine p_aload_n rfl ?_
      refine p_getR fk_X5_9 gt_93 rfl rfl ?_
      refine p_iload_n rfl ?_
      refine p_iald gt_94 h (fun h => ?_)
      refine p_aload_n rfl ?_
      refine p_getI fk_X5_23 gt_93 rfl ?_
      refine p_aload_n rfl ?_
      refine p_getR fk_X5_9 gt_93 rfl rfl ?_
      refine p_iload_n rfl ?_
      refine p_iald gt_94 h (fun h => ?_)
      refine p_isub ?_
      refine p_cI (av := [_, _]) ⟨mok_J9_max_7cf53, Or.inr ⟨92, rfl, rfl, sta_J9_max_7cf53, Or.inl lk_X5_92⟩⟩ (Nat.le_of_ble_eq_true rfl) (Nat.le_of_ble_eq_true rfl) rfl (fun _ h => pc_J9_max_7cf53 hl h) h (fun v663 M662 h => ?_)
      exact p_iret rfl h
    · refine p_aload_n rfl ?_
      refine p_getI fk_X5_23 gt_93 rfl ?_
      refine p_goto 22 rfl rfl ?_
      exact p_iret rfl h
set_option maxRecDepth 100000 in
theorem pc_X5_leftAtWorst_93 {l : Launch} (hl : l.stackTraces = false) {M : PM} {a1 : Int32} {r : PR} (h : F_X5_leftAtWorst_93 M a1 = some r) : PC l 1 Y_X5_leftAtWorst [vR 93, vI a1] M r := pc_of hl (by decide +kernel) cok_X5_leftAtWorst (Nat.le_of_ble_eq_true rfl) rfl (S_X5_leftAtWorst_93 hl  h) rfl
def F_X5_tellingLaw_93_38 (k4 : PM → Int32 → Int32 → Option PR) (M : PM) (x1 : Int32) (x2 : Int32) : Option PR := lt (x2 + 1) fun y664 => k4 M x1 y664
def F_X5_tellingLaw_93_36 (k4 : PM → Int32 → Int32 → Option PR) (M : PM) (x2 : Int32) : Option PR := F_X5_tellingLaw_93_38 k4 M x2 x2
def F_X5_tellingLaw_93_4 : Nat → PM → Int32 → Int32 → Option PR
  | 0, _, _, _ => none
  | n + 1, M, x1, x2 => (if mI M 4 4 ≤ x2 then some (.inl (some (.int x1)), M) else (if x1 = (-1) then F_X5_tellingLaw_93_36 (F_X5_tellingLaw_93_4 n) M x2 else cI (F_X5_leftAtWorst_93 M x2) fun v666 M665 => cI (F_X5_leftAtWorst_93 M665 x1) fun v668 M667 => (if v668 ≤ v666 then F_X5_tellingLaw_93_38 (F_X5_tellingLaw_93_4 n) M667 x1 x2 else F_X5_tellingLaw_93_36 (F_X5_tellingLaw_93_4 n) M667 x2)))
def F_X5_tellingLaw_93 (M : PM)  : Option PR := F_X5_tellingLaw_93_4 FUEL M (-1) 0
set_option maxRecDepth 100000 in
theorem S_X5_tellingLaw_93_38 {l : Launch} (hl : l.stackTraces = false) {k4 : PM → Int32 → Int32 → Option PR} (hk4 : ∀ {M : PM} {x1 : Int32} {x2 : Int32} {r : PR}, k4 M x1 x2 = some r → PW l 2 Y_X5_tellingLaw k_X5_tellingLaw_4 [vR 93, vI x1, vI x2] [] M r) {M : PM} {x1 : Int32} {x2 : Int32} {r : PR} (h : F_X5_tellingLaw_93_38 k4 M x1 x2 = some r) : PW l 2 Y_X5_tellingLaw k_X5_tellingLaw_38 [vR 93, vI x1, vI x2] [] M r := by
  unfold F_X5_tellingLaw_93_38 at h
  have h := lt_h h
  refine p_iinc (Nat.le_of_ble_eq_true rfl) rfl (ci_1 _) rfl ?_
  refine p_goto 4 rfl rfl ?_
  exact p_fg (hk4 h) ⟨Or.inr rfl, Or.inr rfl, Or.inr rfl, trivial⟩
set_option maxRecDepth 100000 in
theorem S_X5_tellingLaw_93_36 {l : Launch} (hl : l.stackTraces = false) {k4 : PM → Int32 → Int32 → Option PR} (hk4 : ∀ {M : PM} {x1 : Int32} {x2 : Int32} {r : PR}, k4 M x1 x2 = some r → PW l 2 Y_X5_tellingLaw k_X5_tellingLaw_4 [vR 93, vI x1, vI x2] [] M r) {M : PM} {x2 : Int32} {r : PR} (h : F_X5_tellingLaw_93_36 k4 M x2 = some r) : PW l 2 Y_X5_tellingLaw k_X5_tellingLaw_36 [vR 93, jk, vI x2] [] M r := by
  unfold F_X5_tellingLaw_93_36 at h
  refine p_iload_n rfl ?_
  refine p_istore_n (Nat.le_of_ble_eq_true rfl) rfl ?_
  exact p_fg (S_X5_tellingLaw_93_38 hl hk4 h) ⟨Or.inr rfl, Or.inr rfl, Or.inr rfl, trivial⟩
set_option maxRecDepth 100000 in
theorem S_X5_tellingLaw_93_4 {l : Launch} (hl : l.stackTraces = false) : ∀ (n : Nat) {M : PM} {x1 : Int32} {x2 : Int32} {r : PR}, F_X5_tellingLaw_93_4  n M x1 x2 = some r → PW l 2 Y_X5_tellingLaw k_X5_tellingLaw_4 [vR 93, vI x1, vI x2] [] M r := by
  intro n
  induction n with
  | zero => intro M x1 x2 r h; exact nomatch (show (none : Option PR) = some r from h)
  | succ n ih =>
    intro M x1 x2 r h
    rw [F_X5_tellingLaw_93_4] at h
    refine p_iload_n rfl ?_
    refine p_aload_n rfl ?_
    refine p_getR fk_X5_15 gt_93 rfl rfl ?_
    refine p_getR fk_X5_56 gt_3 rfl rfl ?_
    refine p_getI fk_X5_89 gt_4 rfl ?_
    refine p_icmp_ge h 24 rfl rfl (fun _ h => ?_) (fun _ h => ?_)
    · refine p_iload_n rfl ?_
      exact p_iret rfl h
    · refine p_iload_n rfl ?_
      refine p_iconst cn_m1 ?_
      refine p_icmp_eq h 20 rfl rfl (fun _ h => ?_) (fun _ h => ?_)
      · exact p_fg (S_X5_tellingLaw_93_36 hl (fun h => ih h) h) ⟨Or.inr rfl, Or.inl rfl, Or.inr rfl, trivial⟩
      · refine p_aload_n rfl ?_
        refine p_iload_n rfl ?_
        refine p_cI (av := [_, _]) ⟨mok_X5_leftAtWorst, Or.inl ⟨98, 93, 5, 0, _, rfl, rfl, rfl, gt_93, rfl, ins_X5_leftAtWorst, Or.inl lk_X5_98⟩⟩ (Nat.le_of_ble_eq_true rfl) (Nat.le_of_ble_eq_true rfl) rfl (fun _ h => pc_X5_leftAtWorst_93 hl h) h (fun v666 M665 h => ?_)
        refine p_aload_n rfl ?_
        refine p_iload_n rfl ?_
        refine p_cI (av := [_, _]) ⟨mok_X5_leftAtWorst, Or.inl ⟨98, 93, 5, 0, _, rfl, rfl, rfl, gt_93, rfl, ins_X5_leftAtWorst, Or.inl lk_X5_98⟩⟩ (Nat.le_of_ble_eq_true rfl) (Nat.le_of_ble_eq_true rfl) rfl (fun _ h => pc_X5_leftAtWorst_93 hl h) h (fun v668 M667 h => ?_)
        refine p_icmp_ge h 22 rfl rfl (fun _ h => ?_) (fun _ h => ?_)
        · exact p_fg (S_X5_tellingLaw_93_38 hl (fun h => ih h) h) ⟨Or.inr rfl, Or.inr rfl, Or.inr rfl, trivial⟩
        · exact p_fg (S_X5_tellingLaw_93_36 hl (fun h => ih h) h) ⟨Or.inr rfl, Or.inl rfl, Or.inr rfl, trivial⟩
set_option maxRecDepth 100000 in
theorem S_X5_tellingLaw_93 {l : Launch} (hl : l.stackTraces = false) {M : PM}  {r : PR} (h : F_X5_tellingLaw_93 M  = some r) : PW l 2 Y_X5_tellingLaw k_X5_tellingLaw [vR 93, jk, jk] [] M r := by
  unfold F_X5_tellingLaw_93 at h
  refine p_iconst cn_m1 ?_
  refine p_istore_n (Nat.le_of_ble_eq_true rfl) rfl ?_
  refine p_iconst cn_0 ?_
  refine p_istore_n (Nat.le_of_ble_eq_true rfl) rfl ?_
  exact p_fg (S_X5_tellingLaw_93_4 hl FUEL h) ⟨Or.inr rfl, Or.inr rfl, Or.inr rfl, trivial⟩
set_option maxRecDepth 100000 in
theorem pc_X5_tellingLaw_93 {l : Launch} (hl : l.stackTraces = false) {M : PM}  {r : PR} (h : F_X5_tellingLaw_93 M  = some r) : PC l 2 Y_X5_tellingLaw [vR 93] M r := pc_of hl (by decide +kernel) cok_X5_tellingLaw (Nat.le_of_ble_eq_true rfl) rfl (S_X5_tellingLaw_93 hl  h) rfl
def F_X10_look_0 (M : PM) (a1 : Int32) : Option PR := bV (F_X10_needEither_0 M a1) fun M669 => cV (F_X5_survey_93 M669) fun M670 => cI (F_X5_tellingLaw_93 M670) fun v672 M671 => (if a1 = 0 then some (.inl (some (.int v672)), M671) else cI (F_X5_leftAtWorst_93 M671 v672) fun v674 M673 => some (.inl (some (.int v674)), M673))
set_option maxRecDepth 100000 in
theorem S_X10_look_0 {l : Launch} (hl : l.stackTraces = false) {M : PM} {a1 : Int32} {r : PR} (h : F_X10_look_0 M a1 = some r) : PW l 8 Y_X10_look k_X10_look [vR 0, vI a1, jk] [] M r := by
  unfold F_X10_look_0 at h
  refine p_aload_n rfl ?_
  refine p_iload_n rfl ?_
  refine p_bV mok_X10_needEither rfl gt_0 rfl ins_X10_needEither lk_X10_158 (Nat.le_of_ble_eq_true rfl) (Nat.le_of_ble_eq_true rfl) rfl (fun _ h => pc_X10_needEither_0 hl h) h (fun M669 h => ?_)
  refine p_aload_n rfl ?_
  refine p_getR fk_X10_79 gt_0 rfl rfl ?_
  refine p_cV (av := [_]) ⟨mok_X5_survey, Or.inl ⟨268, 93, 5, 0, _, rfl, rfl, rfl, gt_93, rfl, ins_X5_survey, Or.inr lk_X10_268⟩⟩ (Nat.le_of_ble_eq_true rfl) (Nat.le_of_ble_eq_true rfl) rfl (fun _ h => pc_X5_survey_93 hl h) h (fun M670 h => ?_)
  refine p_aload_n rfl ?_
  refine p_getR fk_X10_79 gt_0 rfl rfl ?_
  refine p_cI (av := [_]) ⟨mok_X5_tellingLaw, Or.inl ⟨280, 93, 5, 0, _, rfl, rfl, rfl, gt_93, rfl, ins_X5_tellingLaw, Or.inr lk_X10_280⟩⟩ (Nat.le_of_ble_eq_true rfl) (Nat.le_of_ble_eq_true rfl) rfl (fun _ h => pc_X5_tellingLaw_93 hl h) h (fun v672 M671 h => ?_)
  refine p_istore_n (Nat.le_of_ble_eq_true rfl) rfl ?_
  refine p_iload_n rfl ?_
  refine p_if_ne h 14 rfl rfl (fun _ h => ?_) (fun _ h => ?_)
  · refine p_iload_n rfl ?_
    refine p_goto 18 rfl rfl ?_
    exact p_iret rfl h
  · refine p_aload_n rfl ?_
    refine p_getR fk_X10_79 gt_0 rfl rfl ?_
    refine p_iload_n rfl ?_
    refine p_cI (av := [_, _]) ⟨mok_X5_leftAtWorst, Or.inl ⟨283, 93, 5, 0, _, rfl, rfl, rfl, gt_93, rfl, ins_X5_leftAtWorst, Or.inr lk_X10_283⟩⟩ (Nat.le_of_ble_eq_true rfl) (Nat.le_of_ble_eq_true rfl) rfl (fun _ h => pc_X5_leftAtWorst_93 hl h) h (fun v674 M673 h => ?_)
    exact p_iret rfl h
set_option maxRecDepth 100000 in
theorem pc_X10_look_0 {l : Launch} (hl : l.stackTraces = false) {M : PM} {a1 : Int32} {r : PR} (h : F_X10_look_0 M a1 = some r) : PC l 8 Y_X10_look [vR 0, vI a1] M r := pc_of hl (by decide +kernel) cok_X10_look (Nat.le_of_ble_eq_true rfl) rfl (S_X10_look_0 hl  h) rfl
def F_X3_addDeed_16 (M : PM) (a1 : Int32) (a2 : Int32) (a3 : Int32) (a4 : Int32) : Option PR := (if mI M 16 9 < 20 then if ixOK (mI M 16 9) 20 = true then if ixOK (mI (sA M 21 (mI M 16 9).toNatClampNeg a1) 16 9) 20 = true then if ixOK (mI (sA (sA M 21 (mI M 16 9).toNatClampNeg a1) 22 (mI (sA M 21 (mI M 16 9).toNatClampNeg a1) 16 9).toNatClampNeg a2) 16 9) 20 = true then lt (sA (sA (sA M 21 (mI M 16 9).toNatClampNeg a1) 22 (mI (sA M 21 (mI M 16 9).toNatClampNeg a1) 16 9).toNatClampNeg a2) 23 (mI (sA (sA M 21 (mI M 16 9).toNatClampNeg a1) 22 (mI (sA M 21 (mI M 16 9).toNatClampNeg a1) 16 9).toNatClampNeg a2) 16 9).toNatClampNeg a3) fun M675 => if ixOK (mI M675 16 9) 20 = true then some (.inl (some (.int (mI (sI (sA M675 24 (mI M675 16 9).toNatClampNeg (a4 &&& 1)) 16 9 ((mI (sA M675 24 (mI M675 16 9).toNatClampNeg (a4 &&& 1)) 16 9) + 1)) 16 9))), sI (sA M675 24 (mI M675 16 9).toNatClampNeg (a4 &&& 1)) 16 9 ((mI (sA M675 24 (mI M675 16 9).toNatClampNeg (a4 &&& 1)) 16 9) + 1)) else none else none else none else none else some (.inl (some (.int (-1))), M))
set_option maxRecDepth 100000 in
theorem S_X3_addDeed_16 {l : Launch} (hl : l.stackTraces = false) {M : PM} {a1 : Int32} {a2 : Int32} {a3 : Int32} {a4 : Int32} {r : PR} (h : F_X3_addDeed_16 M a1 a2 a3 a4 = some r) : PW l 0 Y_X3_addDeed k_X3_addDeed [vR 16, vI a1, vI a2, vI a3, vI a4] [] M r := by
  unfold F_X3_addDeed_16 at h
  refine p_aload_n rfl ?_
  refine p_getI fk_X3_56 gt_16 rfl ?_
  refine p_bipush cb_20 ?_
  refine p_icmp_lt h 6 rfl rfl (fun _ h => ?_) (fun _ h => ?_)
  · refine p_aload_n rfl ?_
    refine p_getR fk_X3_25 gt_16 rfl rfl ?_
    refine p_aload_n rfl ?_
    refine p_getI fk_X3_56 gt_16 rfl ?_
    refine p_iload_n rfl ?_
    refine p_iast gt_21 h (fun h => ?_)
    refine p_aload_n rfl ?_
    refine p_getR fk_X3_28 gt_16 rfl rfl ?_
    refine p_aload_n rfl ?_
    refine p_getI fk_X3_56 gt_16 rfl ?_
    refine p_iload_n rfl ?_
    refine p_iast gt_22 h (fun h => ?_)
    refine p_aload_n rfl ?_
    refine p_getR fk_X3_31 gt_16 rfl rfl ?_
    refine p_aload_n rfl ?_
    refine p_getI fk_X3_56 gt_16 rfl ?_
    refine p_iload_n rfl ?_
    refine p_iast gt_23 h (fun h => ?_)
    have h := lt_h h
    refine p_aload_n rfl ?_
    refine p_getR fk_X3_34 gt_16 rfl rfl ?_
    refine p_aload_n rfl ?_
    refine p_getI fk_X3_56 gt_16 rfl ?_
    refine p_iload rfl ?_
    refine p_zast gt_24 h (fun h => ?_)
    refine p_aload_n rfl ?_
    refine p_dup rfl ?_
    refine p_getI fk_X3_56 gt_16 rfl ?_
    refine p_iconst cn_1 ?_
    refine p_iadd ?_
    refine p_putI fk_X3_56 gt_16 rfl ?_
    refine p_aload_n rfl ?_
    refine p_getI fk_X3_56 gt_16 rfl ?_
    exact p_iret rfl h
  · refine p_iconst cn_m1 ?_
    exact p_iret rfl h
set_option maxRecDepth 100000 in
theorem pc_X3_addDeed_16 {l : Launch} (hl : l.stackTraces = false) {M : PM} {a1 : Int32} {a2 : Int32} {a3 : Int32} {a4 : Int32} {r : PR} (h : F_X3_addDeed_16 M a1 a2 a3 a4 = some r) : PC l 0 Y_X3_addDeed [vR 16, vI a1, vI a2, vI a3, vI a4] M r := pc_of hl (by decide +kernel) cok_X3_addDeed (Nat.le_of_ble_eq_true rfl) rfl (S_X3_addDeed_16 hl  h) rfl
def F_X10_did_0 (M : PM) (a1 : Int32) (a2 : Int32) (a3 : Int32) (a4 : Int32) : Option PR := bV (F_X10_needDay_0 M a3) fun M676 => bV (F_X10_needHouse_0 M676 a1) fun M677 => bV (F_X10_needLaw_0 M677 a2) fun M678 => cI (F_X0_turnsOn_3 M678 a3) fun v680 M679 => cI (F_X3_addDeed_16 M679 a1 a2 v680 a4) fun v682 M681 => some (.inl (some (.int v682)), M681)
set_option maxRecDepth 100000 in
theorem S_X10_did_0 {l : Launch} (hl : l.stackTraces = false) {M : PM} {a1 : Int32} {a2 : Int32} {a3 : Int32} {a4 : Int32} {r : PR} (h : F_X10_did_0 M a1 a2 a3 a4 = some r) : PW l 8 Y_X10_did k_X10_did [vR 0, vI a1, vI a2, vI a3, vI a4] [] M r := by
  unfold F_X10_did_0 at h
  refine p_aload_n rfl ?_
  refine p_iload_n rfl ?_
  refine p_bV mok_X10_needDay rfl gt_0 rfl ins_X10_needDay lk_X10_182 (Nat.le_of_ble_eq_true rfl) (Nat.le_of_ble_eq_true rfl) rfl (fun _ h => pc_X10_needDay_0 hl h) h (fun M676 h => ?_)
  refine p_aload_n rfl ?_
  refine p_iload_n rfl ?_
  refine p_bV mok_X10_needHouse rfl gt_0 rfl ins_X10_needHouse lk_X10_168 (Nat.le_of_ble_eq_true rfl) (Nat.le_of_ble_eq_true rfl) rfl (fun _ h => pc_X10_needHouse_0 hl h) h (fun M677 h => ?_)
  refine p_aload_n rfl ?_
  refine p_iload_n rfl ?_
  refine p_bV mok_X10_needLaw rfl gt_0 rfl ins_X10_needLaw lk_X10_155 (Nat.le_of_ble_eq_true rfl) (Nat.le_of_ble_eq_true rfl) rfl (fun _ h => pc_X10_needLaw_0 hl h) h (fun M678 h => ?_)
  refine p_aload_n rfl ?_
  refine p_getR fk_X10_34 gt_0 rfl rfl ?_
  refine p_iload_n rfl ?_
  refine p_iload_n rfl ?_
  refine p_aload_n rfl ?_
  refine p_getR fk_X10_27 gt_0 rfl rfl ?_
  refine p_iload_n rfl ?_
  refine p_cI (av := [_, _]) ⟨mok_X0_turnsOn, Or.inl ⟨185, 3, 0, 0, _, rfl, rfl, rfl, gt_3, rfl, ins_X0_turnsOn, Or.inr lk_X10_185⟩⟩ (Nat.le_of_ble_eq_true rfl) (Nat.le_of_ble_eq_true rfl) rfl (fun _ h => pc_X0_turnsOn_3 hl h) h (fun v680 M679 h => ?_)
  refine p_iload rfl ?_
  refine p_cI (av := [_, _, _, _, _]) ⟨mok_X3_addDeed, Or.inl ⟨286, 16, 3, 0, _, rfl, rfl, rfl, gt_16, rfl, ins_X3_addDeed, Or.inr lk_X10_286⟩⟩ (Nat.le_of_ble_eq_true rfl) (Nat.le_of_ble_eq_true rfl) rfl (fun _ h => pc_X3_addDeed_16 hl h) h (fun v682 M681 h => ?_)
  exact p_iret rfl h
set_option maxRecDepth 100000 in
theorem pc_X10_did_0 {l : Launch} (hl : l.stackTraces = false) {M : PM} {a1 : Int32} {a2 : Int32} {a3 : Int32} {a4 : Int32} {r : PR} (h : F_X10_did_0 M a1 a2 a3 a4 = some r) : PC l 8 Y_X10_did [vR 0, vI a1, vI a2, vI a3, vI a4] M r := pc_of hl (by decide +kernel) cok_X10_did (Nat.le_of_ble_eq_true rfl) rfl (S_X10_did_0 hl  h) rfl
def F_X10_explains_0_103 (k3 : PM → Int32 → Int32 → Int32 → Int32 → Option PR) (M : PM) (x1 : Int32) (x2 : Int32) (x3 : Int32) (x4 : Int32) : Option PR := lt (x4 + 1) fun y683 => k3 M x1 x2 x3 y683
def F_X10_explains_0_61 (k3 : PM → Int32 → Int32 → Int32 → Int32 → Option PR) (M : PM) (x1 : Int32) (x2 : Int32) (x3 : Int32) (x4 : Int32) (x5 : Int32) (t0 : Int32) : Option PR := if ixOK x4 20 = true then cI (F_X2_isHeld_4 M x5 ((mA M 23 x4.toNatClampNeg) + t0)) fun v685 M684 => if ixOK x4 20 = true then (if v685 = mA M684 24 x4.toNatClampNeg then F_X10_explains_0_103 k3 M684 x1 x2 x3 x4 else (if (0 : Int32) &&& 1 = 0 then some (.inl (some (.int 0)), M684) else none)) else none else none
def F_X10_explains_0_3 : Nat → PM → Int32 → Int32 → Int32 → Int32 → Option PR
  | 0, _, _, _, _, _ => none
  | n + 1, M, x1, x2, x3, x4 => (if mI M 16 9 ≤ x4 then (if (1 : Int32) &&& 1 = 1 then some (.inl (some (.int 1)), M) else none) else if ixOK x4 20 = true then (if mA M 21 x4.toNatClampNeg = x1 then if ixOK x4 20 = true then lt (mA M 22 x4.toNatClampNeg) fun y686 => (if y686 = x2 then F_X10_explains_0_61 (F_X10_explains_0_3 n) M x1 x2 x3 x4 y686 x3 else cI (F_X3_aheadOf_16 M x1 y686) fun v688 M687 => F_X10_explains_0_61 (F_X10_explains_0_3 n) M687 x1 x2 x3 x4 y686 v688) else none else F_X10_explains_0_103 (F_X10_explains_0_3 n) M x1 x2 x3 x4) else none)
def F_X10_explains_0 (M : PM) (a1 : Int32) (a2 : Int32) (a3 : Int32) : Option PR := F_X10_explains_0_3 FUEL M a1 a2 a3 0
set_option maxRecDepth 100000 in
theorem S_X10_explains_0_103 {l : Launch} (hl : l.stackTraces = false) {k3 : PM → Int32 → Int32 → Int32 → Int32 → Option PR} (hk3 : ∀ {M : PM} {x1 : Int32} {x2 : Int32} {x3 : Int32} {x4 : Int32} {r : PR}, k3 M x1 x2 x3 x4 = some r → PW l 2 Y_X10_explains k_X10_explains_3 [vR 0, vI x1, vI x2, vI x3, vI x4, jk, jk] [] M r) {M : PM} {x1 : Int32} {x2 : Int32} {x3 : Int32} {x4 : Int32} {r : PR} (h : F_X10_explains_0_103 k3 M x1 x2 x3 x4 = some r) : PW l 2 Y_X10_explains k_X10_explains_103 [vR 0, vI x1, vI x2, vI x3, vI x4, jk, jk] [] M r := by
  unfold F_X10_explains_0_103 at h
  have h := lt_h h
  refine p_iinc (Nat.le_of_ble_eq_true rfl) rfl (ci_1 _) rfl ?_
  refine p_goto 2 rfl rfl ?_
  exact p_fg (hk3 h) ⟨Or.inr rfl, Or.inr rfl, Or.inr rfl, Or.inr rfl, Or.inr rfl, Or.inl rfl, Or.inl rfl, trivial⟩
set_option maxRecDepth 100000 in
theorem S_X10_explains_0_61 {l : Launch} (hl : l.stackTraces = false) {k3 : PM → Int32 → Int32 → Int32 → Int32 → Option PR} (hk3 : ∀ {M : PM} {x1 : Int32} {x2 : Int32} {x3 : Int32} {x4 : Int32} {r : PR}, k3 M x1 x2 x3 x4 = some r → PW l 2 Y_X10_explains k_X10_explains_3 [vR 0, vI x1, vI x2, vI x3, vI x4, jk, jk] [] M r) {M : PM} {x1 : Int32} {x2 : Int32} {x3 : Int32} {x4 : Int32} {x5 : Int32} {t0 : Int32} {r : PR} (h : F_X10_explains_0_61 k3 M x1 x2 x3 x4 x5 t0 = some r) : PW l 2 Y_X10_explains k_X10_explains_61 [vR 0, vI x1, vI x2, vI x3, vI x4, vI x5, jk] [vI t0] M r := by
  unfold F_X10_explains_0_61 at h
  refine p_istore (Nat.le_of_ble_eq_true rfl) rfl ?_
  refine p_aload_n rfl ?_
  refine p_getR fk_X10_27 gt_0 rfl rfl ?_
  refine p_getR fk_X10_128 gt_3 rfl rfl ?_
  refine p_iload rfl ?_
  refine p_aload_n rfl ?_
  refine p_getR fk_X10_34 gt_0 rfl rfl ?_
  refine p_getR fk_X10_398 gt_16 rfl rfl ?_
  refine p_iload rfl ?_
  refine p_iald gt_23 h (fun h => ?_)
  refine p_iload rfl ?_
  refine p_iadd ?_
  refine p_cI (av := [_, _, _]) ⟨mok_X2_isHeld, Or.inl ⟨388, 4, 2, 0, _, rfl, rfl, rfl, gt_4, rfl, ins_X2_isHeld, Or.inr lk_X10_388⟩⟩ (Nat.le_of_ble_eq_true rfl) (Nat.le_of_ble_eq_true rfl) rfl (fun _ h => pc_X2_isHeld_4 hl h) h (fun v685 M684 h => ?_)
  refine p_aload_n rfl ?_
  refine p_getR fk_X10_34 gt_0 rfl rfl ?_
  refine p_getR fk_X10_401 gt_16 rfl rfl ?_
  refine p_iload rfl ?_
  refine p_zald gt_24 h (fun h => ?_)
  refine p_icmp_eq h 51 rfl rfl (fun _ h => ?_) (fun _ h => ?_)
  · exact p_fg (S_X10_explains_0_103 hl hk3 h) ⟨Or.inr rfl, Or.inr rfl, Or.inr rfl, Or.inr rfl, Or.inr rfl, Or.inl rfl, Or.inl rfl, trivial⟩
  · refine p_iconst cn_0 ?_
    exact p_zret rfl h
set_option maxRecDepth 100000 in
theorem S_X10_explains_0_3 {l : Launch} (hl : l.stackTraces = false) : ∀ (n : Nat) {M : PM} {x1 : Int32} {x2 : Int32} {x3 : Int32} {x4 : Int32} {r : PR}, F_X10_explains_0_3  n M x1 x2 x3 x4 = some r → PW l 2 Y_X10_explains k_X10_explains_3 [vR 0, vI x1, vI x2, vI x3, vI x4, jk, jk] [] M r := by
  intro n
  induction n with
  | zero => intro M x1 x2 x3 x4 r h; exact nomatch (show (none : Option PR) = some r from h)
  | succ n ih =>
    intro M x1 x2 x3 x4 r h
    rw [F_X10_explains_0_3] at h
    refine p_iload rfl ?_
    refine p_aload_n rfl ?_
    refine p_getR fk_X10_34 gt_0 rfl rfl ?_
    refine p_getI fk_X10_304 gt_16 rfl ?_
    refine p_icmp_ge h 53 rfl rfl (fun _ h => ?_) (fun _ h => ?_)
    · refine p_iconst cn_1 ?_
      exact p_zret rfl h
    · refine p_aload_n rfl ?_
      refine p_getR fk_X10_34 gt_0 rfl rfl ?_
      refine p_getR fk_X10_391 gt_16 rfl rfl ?_
      refine p_iload rfl ?_
      refine p_iald gt_21 h (fun h => ?_)
      refine p_iload_n rfl ?_
      refine p_icmp_ne h 51 rfl rfl (fun _ h => ?_) (fun _ h => ?_)
      · refine p_aload_n rfl ?_
        refine p_getR fk_X10_34 gt_0 rfl rfl ?_
        refine p_getR fk_X10_395 gt_16 rfl rfl ?_
        refine p_iload rfl ?_
        refine p_iald gt_22 h (fun h => ?_)
        have h := lt_h h
        refine p_istore (Nat.le_of_ble_eq_true rfl) rfl ?_
        refine p_iload rfl ?_
        refine p_iload_n rfl ?_
        refine p_icmp_ne h 25 rfl rfl (fun _ h => ?_) (fun _ h => ?_)
        · refine p_iload_n rfl ?_
          refine p_goto 30 rfl rfl ?_
          exact p_fg (S_X10_explains_0_61 hl (fun h => ih h) h) ⟨Or.inr rfl, Or.inr rfl, Or.inr rfl, Or.inr rfl, Or.inr rfl, Or.inr rfl, Or.inl rfl, trivial⟩
        · refine p_aload_n rfl ?_
          refine p_getR fk_X10_34 gt_0 rfl rfl ?_
          refine p_iload_n rfl ?_
          refine p_iload rfl ?_
          refine p_cI (av := [_, _, _]) ⟨mok_X3_aheadOf, Or.inl ⟨171, 16, 3, 0, _, rfl, rfl, rfl, gt_16, rfl, ins_X3_aheadOf, Or.inr lk_X10_171⟩⟩ (Nat.le_of_ble_eq_true rfl) (Nat.le_of_ble_eq_true rfl) rfl (fun _ h => pc_X3_aheadOf_16 hl h) h (fun v688 M687 h => ?_)
          exact p_fg (S_X10_explains_0_61 hl (fun h => ih h) h) ⟨Or.inr rfl, Or.inr rfl, Or.inr rfl, Or.inr rfl, Or.inr rfl, Or.inr rfl, Or.inl rfl, trivial⟩
      · exact p_fg (S_X10_explains_0_103 hl (fun h => ih h) h) ⟨Or.inr rfl, Or.inr rfl, Or.inr rfl, Or.inr rfl, Or.inr rfl, Or.inl rfl, Or.inl rfl, trivial⟩
set_option maxRecDepth 100000 in
theorem S_X10_explains_0 {l : Launch} (hl : l.stackTraces = false) {M : PM} {a1 : Int32} {a2 : Int32} {a3 : Int32} {r : PR} (h : F_X10_explains_0 M a1 a2 a3 = some r) : PW l 2 Y_X10_explains k_X10_explains [vR 0, vI a1, vI a2, vI a3, jk, jk, jk] [] M r := by
  unfold F_X10_explains_0 at h
  refine p_iconst cn_0 ?_
  refine p_istore (Nat.le_of_ble_eq_true rfl) rfl ?_
  exact p_fg (S_X10_explains_0_3 hl FUEL h) ⟨Or.inr rfl, Or.inr rfl, Or.inr rfl, Or.inr rfl, Or.inr rfl, Or.inl rfl, Or.inl rfl, trivial⟩
set_option maxRecDepth 100000 in
theorem pc_X10_explains_0 {l : Launch} (hl : l.stackTraces = false) {M : PM} {a1 : Int32} {a2 : Int32} {a3 : Int32} {r : PR} (h : F_X10_explains_0 M a1 a2 a3 = some r) : PC l 2 Y_X10_explains [vR 0, vI a1, vI a2, vI a3] M r := pc_of hl (by decide +kernel) cok_X10_explains (Nat.le_of_ble_eq_true rfl) rfl (S_X10_explains_0 hl  h) rfl
def F_X10_slipped_0_158 (k37 : PM → Int32 → Int32 → Int32 → Int32 → Int32 → Int32 → Int32 → Option PR) (k69 : PM → Int32 → Int32 → Int32 → Int32 → Int32 → Int32 → Int32 → Int32 → Int32 → Option PR) (M : PM) (x1 : Int32) (x2 : Int32) (x3 : Int32) (x4 : Int32) (x5 : Int32) (x6 : Int32) (x7 : Int32) (x8 : Int32) (x9 : Int32) : Option PR := lt (x9 + 1) fun y689 => k69 M x1 x2 x3 x4 x5 x6 x7 x8 y689
def F_X10_slipped_0_147 (k37 : PM → Int32 → Int32 → Int32 → Int32 → Int32 → Int32 → Int32 → Option PR) (k69 : PM → Int32 → Int32 → Int32 → Int32 → Int32 → Int32 → Int32 → Int32 → Int32 → Option PR) (M : PM) (x1 : Int32) (x2 : Int32) (x3 : Int32) (x4 : Int32) (x6 : Int32) (x7 : Int32) (x8 : Int32) (x9 : Int32) (x10 : Int32) (t0 : Int32) : Option PR := cI (F_J9_max_7cf53 M x6 x10) fun v691 M690 => F_X10_slipped_0_158 k37 k69 M690 x1 x2 x3 x4 t0 v691 x7 x8 x9
def F_X10_slipped_0_110 (k37 : PM → Int32 → Int32 → Int32 → Int32 → Int32 → Int32 → Int32 → Option PR) (k69 : PM → Int32 → Int32 → Int32 → Int32 → Int32 → Int32 → Int32 → Int32 → Int32 → Option PR) (M : PM) (x1 : Int32) (x2 : Int32) (x3 : Int32) (x5 : Int32) (x6 : Int32) (x7 : Int32) (x8 : Int32) (x9 : Int32) (t0 : Int32) : Option PR := cI (F_J9_min_7cf53 M x9 (x8 - x9)) fun v693 M692 => lt (24 - v693) fun y694 => (if y694 ≤ x6 then F_X10_slipped_0_147 k37 k69 M692 x1 x2 x3 t0 x6 x7 x8 x9 y694 x5 else F_X10_slipped_0_147 k37 k69 M692 x1 x2 x3 t0 x6 x7 x8 x9 y694 ((100 * x7) + x9))
def F_X10_slipped_0_69 (k37 : PM → Int32 → Int32 → Int32 → Int32 → Int32 → Int32 → Int32 → Option PR) : Nat → PM → Int32 → Int32 → Int32 → Int32 → Int32 → Int32 → Int32 → Int32 → Int32 → Option PR
  | 0, _, _, _, _, _, _, _, _, _, _ => none
  | n + 1, M, x1, x2, x3, x4, x5, x6, x7, x8, x9 => (if x8 ≤ x9 then lt (x7 + 1) fun y695 => k37 M x1 x2 x3 x4 x5 x6 y695 else cI (F_X10_explains_0 M x1 x7 x9) fun v697 M696 => (if v697 = 0 then F_X10_slipped_0_158 k37 (F_X10_slipped_0_69 k37 n) M696 x1 x2 x3 x4 x5 x6 x7 x8 x9 else lt (x3 + 1) fun y698 => (if x4 = (-1) then F_X10_slipped_0_110 k37 (F_X10_slipped_0_69 k37 n) M696 x1 x2 y698 x5 x6 x7 x8 x9 ((100 * x7) + x9) else F_X10_slipped_0_110 k37 (F_X10_slipped_0_69 k37 n) M696 x1 x2 y698 x5 x6 x7 x8 x9 x4)))
def F_X10_slipped_0_37 : Nat → PM → Int32 → Int32 → Int32 → Int32 → Int32 → Int32 → Int32 → Option PR
  | 0, _, _, _, _, _, _, _, _ => none
  | n + 1, M, x1, x2, x3, x4, x5, x6, x7 => (if mI M 4 4 ≤ x7 then (if x2 = 0 then some (.inl (some (.int x3)), M) else (if x2 = 1 then some (.inl (some (.int x4)), M) else some (.inl (some (.int x5)), M))) else cI (F_X2_weekOf_4 M x7) fun v700 M699 => F_X10_slipped_0_69 (F_X10_slipped_0_37 n) FUEL M699 x1 x2 x3 x4 x5 x6 x7 v700 0)
def F_X10_slipped_0_20 (M : PM) (x1 : Int32) (x2 : Int32) (t1 : Int32) : Option PR := bV (F_X10_need_0 M t1) fun M701 => F_X10_slipped_0_37 FUEL M701 x1 x2 0 (-1) (-1) 0 0
def F_X10_slipped_0_19 (M : PM) (x1 : Int32) (x2 : Int32) : Option PR := F_X10_slipped_0_20 M x1 x2 0
def F_X10_slipped_0 (M : PM) (a1 : Int32) (a2 : Int32) : Option PR := bV (F_X10_needHouse_0 M a1) fun M702 => (if a2 < 0 then F_X10_slipped_0_19 M702 a1 a2 else (if 2 < a2 then F_X10_slipped_0_19 M702 a1 a2 else F_X10_slipped_0_20 M702 a1 a2 1))
set_option maxRecDepth 100000 in
theorem S_X10_slipped_0_158 {l : Launch} (hl : l.stackTraces = false) {k37 : PM → Int32 → Int32 → Int32 → Int32 → Int32 → Int32 → Int32 → Option PR} {k69 : PM → Int32 → Int32 → Int32 → Int32 → Int32 → Int32 → Int32 → Int32 → Int32 → Option PR} (hk37 : ∀ {M : PM} {x1 : Int32} {x2 : Int32} {x3 : Int32} {x4 : Int32} {x5 : Int32} {x6 : Int32} {x7 : Int32} {r : PR}, k37 M x1 x2 x3 x4 x5 x6 x7 = some r → PW l 8 Y_X10_slipped k_X10_slipped_37 [vR 0, vI x1, vI x2, vI x3, vI x4, vI x5, vI x6, vI x7, jk, jk, jk] [] M r) (hk69 : ∀ {M : PM} {x1 : Int32} {x2 : Int32} {x3 : Int32} {x4 : Int32} {x5 : Int32} {x6 : Int32} {x7 : Int32} {x8 : Int32} {x9 : Int32} {r : PR}, k69 M x1 x2 x3 x4 x5 x6 x7 x8 x9 = some r → PW l 8 Y_X10_slipped k_X10_slipped_69 [vR 0, vI x1, vI x2, vI x3, vI x4, vI x5, vI x6, vI x7, vI x8, vI x9, jk] [] M r) {M : PM} {x1 : Int32} {x2 : Int32} {x3 : Int32} {x4 : Int32} {x5 : Int32} {x6 : Int32} {x7 : Int32} {x8 : Int32} {x9 : Int32} {r : PR} (h : F_X10_slipped_0_158 k37 k69 M x1 x2 x3 x4 x5 x6 x7 x8 x9 = some r) : PW l 8 Y_X10_slipped k_X10_slipped_158 [vR 0, vI x1, vI x2, vI x3, vI x4, vI x5, vI x6, vI x7, vI x8, vI x9, jk] [] M r := by
  unfold F_X10_slipped_0_158 at h
  have h := lt_h h
  refine p_iinc (Nat.le_of_ble_eq_true rfl) rfl (ci_1 _) rfl ?_
  refine p_goto 37 rfl rfl ?_
  exact p_fg (hk69 h) ⟨Or.inr rfl, Or.inr rfl, Or.inr rfl, Or.inr rfl, Or.inr rfl, Or.inr rfl, Or.inr rfl, Or.inr rfl, Or.inr rfl, Or.inr rfl, Or.inl rfl, trivial⟩
set_option maxRecDepth 100000 in
theorem S_X10_slipped_0_147 {l : Launch} (hl : l.stackTraces = false) {k37 : PM → Int32 → Int32 → Int32 → Int32 → Int32 → Int32 → Int32 → Option PR} {k69 : PM → Int32 → Int32 → Int32 → Int32 → Int32 → Int32 → Int32 → Int32 → Int32 → Option PR} (hk37 : ∀ {M : PM} {x1 : Int32} {x2 : Int32} {x3 : Int32} {x4 : Int32} {x5 : Int32} {x6 : Int32} {x7 : Int32} {r : PR}, k37 M x1 x2 x3 x4 x5 x6 x7 = some r → PW l 8 Y_X10_slipped k_X10_slipped_37 [vR 0, vI x1, vI x2, vI x3, vI x4, vI x5, vI x6, vI x7, jk, jk, jk] [] M r) (hk69 : ∀ {M : PM} {x1 : Int32} {x2 : Int32} {x3 : Int32} {x4 : Int32} {x5 : Int32} {x6 : Int32} {x7 : Int32} {x8 : Int32} {x9 : Int32} {r : PR}, k69 M x1 x2 x3 x4 x5 x6 x7 x8 x9 = some r → PW l 8 Y_X10_slipped k_X10_slipped_69 [vR 0, vI x1, vI x2, vI x3, vI x4, vI x5, vI x6, vI x7, vI x8, vI x9, jk] [] M r) {M : PM} {x1 : Int32} {x2 : Int32} {x3 : Int32} {x4 : Int32} {x6 : Int32} {x7 : Int32} {x8 : Int32} {x9 : Int32} {x10 : Int32} {t0 : Int32} {r : PR} (h : F_X10_slipped_0_147 k37 k69 M x1 x2 x3 x4 x6 x7 x8 x9 x10 t0 = some r) : PW l 8 Y_X10_slipped k_X10_slipped_147 [vR 0, vI x1, vI x2, vI x3, vI x4, jk, vI x6, vI x7, vI x8, vI x9, vI x10] [vI t0] M r := by
  unfold F_X10_slipped_0_147 at h
  refine p_istore (Nat.le_of_ble_eq_true rfl) rfl ?_
  refine p_iload rfl ?_
  refine p_iload rfl ?_
  refine p_cI (av := [_, _]) ⟨mok_J9_max_7cf53, Or.inr ⟨298, rfl, rfl, sta_J9_max_7cf53, Or.inl lk_X10_298⟩⟩ (Nat.le_of_ble_eq_true rfl) (Nat.le_of_ble_eq_true rfl) rfl (fun _ h => pc_J9_max_7cf53 hl h) h (fun v691 M690 h => ?_)
  refine p_istore (Nat.le_of_ble_eq_true rfl) rfl ?_
  exact p_fg (S_X10_slipped_0_158 hl hk37 hk69 h) ⟨Or.inr rfl, Or.inr rfl, Or.inr rfl, Or.inr rfl, Or.inr rfl, Or.inr rfl, Or.inr rfl, Or.inr rfl, Or.inr rfl, Or.inr rfl, Or.inl rfl, trivial⟩
set_option maxRecDepth 100000 in
theorem S_X10_slipped_0_110 {l : Launch} (hl : l.stackTraces = false) {k37 : PM → Int32 → Int32 → Int32 → Int32 → Int32 → Int32 → Int32 → Option PR} {k69 : PM → Int32 → Int32 → Int32 → Int32 → Int32 → Int32 → Int32 → Int32 → Int32 → Option PR} (hk37 : ∀ {M : PM} {x1 : Int32} {x2 : Int32} {x3 : Int32} {x4 : Int32} {x5 : Int32} {x6 : Int32} {x7 : Int32} {r : PR}, k37 M x1 x2 x3 x4 x5 x6 x7 = some r → PW l 8 Y_X10_slipped k_X10_slipped_37 [vR 0, vI x1, vI x2, vI x3, vI x4, vI x5, vI x6, vI x7, jk, jk, jk] [] M r) (hk69 : ∀ {M : PM} {x1 : Int32} {x2 : Int32} {x3 : Int32} {x4 : Int32} {x5 : Int32} {x6 : Int32} {x7 : Int32} {x8 : Int32} {x9 : Int32} {r : PR}, k69 M x1 x2 x3 x4 x5 x6 x7 x8 x9 = some r → PW l 8 Y_X10_slipped k_X10_slipped_69 [vR 0, vI x1, vI x2, vI x3, vI x4, vI x5, vI x6, vI x7, vI x8, vI x9, jk] [] M r) {M : PM} {x1 : Int32} {x2 : Int32} {x3 : Int32} {x5 : Int32} {x6 : Int32} {x7 : Int32} {x8 : Int32} {x9 : Int32} {t0 : Int32} {r : PR} (h : F_X10_slipped_0_110 k37 k69 M x1 x2 x3 x5 x6 x7 x8 x9 t0 = some r) : PW l 8 Y_X10_slipped k_X10_slipped_110 [vR 0, vI x1, vI x2, vI x3, jk, vI x5, vI x6, vI x7, vI x8, vI x9, jk] [vI t0] M r := by
  unfold F_X10_slipped_0_110 at h
  refine p_istore (Nat.le_of_ble_eq_true rfl) rfl ?_
  refine p_bipush cb_24 ?_
  refine p_iload rfl ?_
  refine p_iload rfl ?_
  refine p_iload rfl ?_
  refine p_isub ?_
  refine p_cI (av := [_, _]) ⟨mok_J9_min_7cf53, Or.inr ⟨293, rfl, rfl, sta_J9_min_7cf53, Or.inl lk_X10_293⟩⟩ (Nat.le_of_ble_eq_true rfl) (Nat.le_of_ble_eq_true rfl) rfl (fun _ h => pc_J9_min_7cf53 hl h) h (fun v693 M692 h => ?_)
  refine p_isub ?_
  have h := lt_h h
  refine p_istore (Nat.le_of_ble_eq_true rfl) rfl ?_
  refine p_iload rfl ?_
  refine p_iload rfl ?_
  refine p_icmp_le h 75 rfl rfl (fun _ h => ?_) (fun _ h => ?_)
  · refine p_iload rfl ?_
    exact p_fg (S_X10_slipped_0_147 hl hk37 hk69 h) ⟨Or.inr rfl, Or.inr rfl, Or.inr rfl, Or.inr rfl, Or.inr rfl, Or.inl rfl, Or.inr rfl, Or.inr rfl, Or.inr rfl, Or.inr rfl, Or.inr rfl, trivial⟩
  · refine p_bipush cb_100 ?_
    refine p_iload rfl ?_
    refine p_imul ?_
    refine p_iload rfl ?_
    refine p_iadd ?_
    refine p_goto 76 rfl rfl ?_
    exact p_fg (S_X10_slipped_0_147 hl hk37 hk69 h) ⟨Or.inr rfl, Or.inr rfl, Or.inr rfl, Or.inr rfl, Or.inr rfl, Or.inl rfl, Or.inr rfl, Or.inr rfl, Or.inr rfl, Or.inr rfl, Or.inr rfl, trivial⟩
set_option maxRecDepth 100000 in
theorem S_X10_slipped_0_69 {l : Launch} (hl : l.stackTraces = false) {k37 : PM → Int32 → Int32 → Int32 → Int32 → Int32 → Int32 → Int32 → Option PR} (hk37 : ∀ {M : PM} {x1 : Int32} {x2 : Int32} {x3 : Int32} {x4 : Int32} {x5 : Int32} {x6 : Int32} {x7 : Int32} {r : PR}, k37 M x1 x2 x3 x4 x5 x6 x7 = some r → PW l 8 Y_X10_slipped k_X10_slipped_37 [vR 0, vI x1, vI x2, vI x3, vI x4, vI x5, vI x6, vI x7, jk, jk, jk] [] M r) : ∀ (n : Nat) {M : PM} {x1 : Int32} {x2 : Int32} {x3 : Int32} {x4 : Int32} {x5 : Int32} {x6 : Int32} {x7 : Int32} {x8 : Int32} {x9 : Int32} {r : PR}, F_X10_slipped_0_69 k37 n M x1 x2 x3 x4 x5 x6 x7 x8 x9 = some r → PW l 8 Y_X10_slipped k_X10_slipped_69 [vR 0, vI x1, vI x2, vI x3, vI x4, vI x5, vI x6, vI x7, vI x8, vI x9, jk] [] M r := by
  intro n
  induction n with
  | zero => intro M x1 x2 x3 x4 x5 x6 x7 x8 x9 r h; exact nomatch (show (none : Option PR) = some r from h)
  | succ n ih =>
    intro M x1 x2 x3 x4 x5 x6 x7 x8 x9 r h
    rw [F_X10_slipped_0_69] at h
    refine p_iload rfl ?_
    refine p_iload rfl ?_
    refine p_icmp_ge h 83 rfl rfl (fun _ h => ?_) (fun _ h => ?_)
    · have h := lt_h h
      refine p_iinc (Nat.le_of_ble_eq_true rfl) rfl (ci_1 _) rfl ?_
      refine p_goto 23 rfl rfl ?_
      exact p_fg (hk37 h) ⟨Or.inr rfl, Or.inr rfl, Or.inr rfl, Or.inr rfl, Or.inr rfl, Or.inr rfl, Or.inr rfl, Or.inr rfl, Or.inl rfl, Or.inl rfl, Or.inl rfl, trivial⟩
    · refine p_aload_n rfl ?_
      refine p_iload_n rfl ?_
      refine p_iload rfl ?_
      refine p_iload rfl ?_
      refine p_cI (av := [_, _, _, _]) ⟨mok_X10_explains, Or.inl ⟨290, 0, 10, 0, _, rfl, rfl, rfl, gt_0, rfl, ins_X10_explains, Or.inl lk_X10_290⟩⟩ (Nat.le_of_ble_eq_true rfl) (Nat.le_of_ble_eq_true rfl) rfl (fun _ h => pc_X10_explains_0 hl h) h (fun v697 M696 h => ?_)
      refine p_if_eq h 81 rfl rfl (fun _ h => ?_) (fun _ h => ?_)
      · exact p_fg (S_X10_slipped_0_158 hl hk37 (fun h => ih h) h) ⟨Or.inr rfl, Or.inr rfl, Or.inr rfl, Or.inr rfl, Or.inr rfl, Or.inr rfl, Or.inr rfl, Or.inr rfl, Or.inr rfl, Or.inr rfl, Or.inl rfl, trivial⟩
      · have h := lt_h h
        refine p_iinc (Nat.le_of_ble_eq_true rfl) rfl (ci_1 _) rfl ?_
        refine p_iload rfl ?_
        refine p_iconst cn_m1 ?_
        refine p_icmp_ne h 56 rfl rfl (fun _ h => ?_) (fun _ h => ?_)
        · refine p_bipush cb_100 ?_
          refine p_iload rfl ?_
          refine p_imul ?_
          refine p_iload rfl ?_
          refine p_iadd ?_
          refine p_goto 57 rfl rfl ?_
          exact p_fg (S_X10_slipped_0_110 hl hk37 (fun h => ih h) h) ⟨Or.inr rfl, Or.inr rfl, Or.inr rfl, Or.inr rfl, Or.inl rfl, Or.inr rfl, Or.inr rfl, Or.inr rfl, Or.inr rfl, Or.inr rfl, Or.inl rfl, trivial⟩
        · refine p_iload rfl ?_
          exact p_fg (S_X10_slipped_0_110 hl hk37 (fun h => ih h) h) ⟨Or.inr rfl, Or.inr rfl, Or.inr rfl, Or.inr rfl, Or.inl rfl, Or.inr rfl, Or.inr rfl, Or.inr rfl, Or.inr rfl, Or.inr rfl, Or.inl rfl, trivial⟩
set_option maxRecDepth 100000 in
theorem S_X10_slipped_0_37 {l : Launch} (hl : l.stackTraces = false) : ∀ (n : Nat) {M : PM} {x1 : Int32} {x2 : Int32} {x3 : Int32} {x4 : Int32} {x5 : Int32} {x6 : Int32} {x7 : Int32} {r : PR}, F_X10_slipped_0_37  n M x1 x2 x3 x4 x5 x6 x7 = some r → PW l 8 Y_X10_slipped k_X10_slipped_37 [vR 0, vI x1, vI x2, vI x3, vI x4, vI x5, vI x6, vI x7, jk, jk, jk] [] M r := by
  intro n
  induction n with
  | zero => intro M x1 x2 x3 x4 x5 x6 x7 r h; exact nomatch (show (none : Option PR) = some r from h)
  | succ n ih =>
    intro M x1 x2 x3 x4 x5 x6 x7 r h
    rw [F_X10_slipped_0_37] at h
    refine p_iload rfl ?_
    refine p_aload_n rfl ?_
    refine p_getR fk_X10_27 gt_0 rfl rfl ?_
    refine p_getR fk_X10_128 gt_3 rfl rfl ?_
    refine p_getI fk_X10_132 gt_4 rfl ?_
    refine p_icmp_ge h 85 rfl rfl (fun _ h => ?_) (fun _ h => ?_)
    · refine p_iload_n rfl ?_
      refine p_if_ne h 89 rfl rfl (fun _ h => ?_) (fun _ h => ?_)
      · refine p_iload_n rfl ?_
        refine p_goto 95 rfl rfl ?_
        exact p_iret rfl h
      · refine p_iload_n rfl ?_
        refine p_iconst cn_1 ?_
        refine p_icmp_ne h 94 rfl rfl (fun _ h => ?_) (fun _ h => ?_)
        · refine p_iload rfl ?_
          refine p_goto 95 rfl rfl ?_
          exact p_iret rfl h
        · refine p_iload rfl ?_
          exact p_iret rfl h
    · refine p_aload_n rfl ?_
      refine p_getR fk_X10_27 gt_0 rfl rfl ?_
      refine p_getR fk_X10_128 gt_3 rfl rfl ?_
      refine p_iload rfl ?_
      refine p_cI (av := [_, _]) ⟨mok_X2_weekOf, Or.inl ⟨161, 4, 2, 0, _, rfl, rfl, rfl, gt_4, rfl, ins_X2_weekOf, Or.inr lk_X10_161⟩⟩ (Nat.le_of_ble_eq_true rfl) (Nat.le_of_ble_eq_true rfl) rfl (fun _ h => pc_X2_weekOf_4 hl h) h (fun v700 M699 h => ?_)
      refine p_istore (Nat.le_of_ble_eq_true rfl) rfl ?_
      refine p_iconst cn_0 ?_
      refine p_istore (Nat.le_of_ble_eq_true rfl) rfl ?_
      exact p_fg (S_X10_slipped_0_69 hl (fun h => ih h) FUEL h) ⟨Or.inr rfl, Or.inr rfl, Or.inr rfl, Or.inr rfl, Or.inr rfl, Or.inr rfl, Or.inr rfl, Or.inr rfl, Or.inr rfl, Or.inr rfl, Or.inl rfl, trivial⟩
set_option maxRecDepth 100000 in
theorem S_X10_slipped_0_20 {l : Launch} (hl : l.stackTraces = false) {M : PM} {x1 : Int32} {x2 : Int32} {t1 : Int32} {r : PR} (h : F_X10_slipped_0_20  M x1 x2 t1 = some r) : PW l 8 Y_X10_slipped k_X10_slipped_20 [vR 0, vI x1, vI x2, jk, jk, jk, jk, jk, jk, jk, jk] [vI t1, vR 0] M r := by
  unfold F_X10_slipped_0_20 at h
  refine p_bV mok_X10_need rfl gt_0 rfl ins_X10_need lk_X10_101 (Nat.le_of_ble_eq_true rfl) (Nat.le_of_ble_eq_true rfl) rfl (fun _ h => pc_X10_need_0 hl h) h (fun M701 h => ?_)
  refine p_iconst cn_0 ?_
  refine p_istore_n (Nat.le_of_ble_eq_true rfl) rfl ?_
  refine p_iconst cn_m1 ?_
  refine p_istore (Nat.le_of_ble_eq_true rfl) rfl ?_
  refine p_iconst cn_m1 ?_
  refine p_istore (Nat.le_of_ble_eq_true rfl) rfl ?_
  refine p_iconst cn_0 ?_
  refine p_istore (Nat.le_of_ble_eq_true rfl) rfl ?_
  refine p_iconst cn_0 ?_
  refine p_istore (Nat.le_of_ble_eq_true rfl) rfl ?_
  exact p_fg (S_X10_slipped_0_37 hl FUEL h) ⟨Or.inr rfl, Or.inr rfl, Or.inr rfl, Or.inr rfl, Or.inr rfl, Or.inr rfl, Or.inr rfl, Or.inr rfl, Or.inl rfl, Or.inl rfl, Or.inl rfl, trivial⟩
set_option maxRecDepth 100000 in
theorem S_X10_slipped_0_19 {l : Launch} (hl : l.stackTraces = false) {M : PM} {x1 : Int32} {x2 : Int32} {r : PR} (h : F_X10_slipped_0_19  M x1 x2 = some r) : PW l 8 Y_X10_slipped k_X10_slipped_19 [vR 0, vI x1, vI x2, jk, jk, jk, jk, jk, jk, jk, jk] [vR 0] M r := by
  unfold F_X10_slipped_0_19 at h
  refine p_iconst cn_0 ?_
  exact p_fg (S_X10_slipped_0_20 hl h) ⟨Or.inr rfl, Or.inr rfl, Or.inr rfl, Or.inl rfl, Or.inl rfl, Or.inl rfl, Or.inl rfl, Or.inl rfl, Or.inl rfl, Or.inl rfl, Or.inl rfl, trivial⟩
set_option maxRecDepth 100000 in
theorem S_X10_slipped_0 {l : Launch} (hl : l.stackTraces = false) {M : PM} {a1 : Int32} {a2 : Int32} {r : PR} (h : F_X10_slipped_0 M a1 a2 = some r) : PW l 8 Y_X10_slipped k_X10_slipped [vR 0, vI a1, vI a2, jk, jk, jk, jk, jk, jk, jk, jk] [] M r := by
  unfold F_X10_slipped_0 at h
  refine p_aload_n rfl ?_
  refine p_iload_n rfl ?_
  refine p_bV mok_X10_needHouse rfl gt_0 rfl ins_X10_needHouse lk_X10_168 (Nat.le_of_ble_eq_true rfl) (Nat.le_of_ble_eq_true rfl) rfl (fun _ h => pc_X10_needHouse_0 hl h) h (fun M702 h => ?_)
  refine p_aload_n rfl ?_
  refine p_iload_n rfl ?_
  refine p_if_lt h 11 rfl rfl (fun _ h => ?_) (fun _ h => ?_)
  · exact p_fg (S_X10_slipped_0_19 hl h) ⟨Or.inr rfl, Or.inr rfl, Or.inr rfl, Or.inl rfl, Or.inl rfl, Or.inl rfl, Or.inl rfl, Or.inl rfl, Or.inl rfl, Or.inl rfl, Or.inl rfl, trivial⟩
  · refine p_iload_n rfl ?_
    refine p_iconst cn_2 ?_
    refine p_icmp_gt h 11 rfl rfl (fun _ h => ?_) (fun _ h => ?_)
    · exact p_fg (S_X10_slipped_0_19 hl h) ⟨Or.inr rfl, Or.inr rfl, Or.inr rfl, Or.inl rfl, Or.inl rfl, Or.inl rfl, Or.inl rfl, Or.inl rfl, Or.inl rfl, Or.inl rfl, Or.inl rfl, trivial⟩
    · refine p_iconst cn_1 ?_
      refine p_goto 12 rfl rfl ?_
      exact p_fg (S_X10_slipped_0_20 hl h) ⟨Or.inr rfl, Or.inr rfl, Or.inr rfl, Or.inl rfl, Or.inl rfl, Or.inl rfl, Or.inl rfl, Or.inl rfl, Or.inl rfl, Or.inl rfl, Or.inl rfl, trivial⟩
set_option maxRecDepth 100000 in
theorem pc_X10_slipped_0 {l : Launch} (hl : l.stackTraces = false) {M : PM} {a1 : Int32} {a2 : Int32} {r : PR} (h : F_X10_slipped_0 M a1 a2 = some r) : PC l 8 Y_X10_slipped [vR 0, vI a1, vI a2] M r := pc_of hl (by decide +kernel) cok_X10_slipped (Nat.le_of_ble_eq_true rfl) rfl (S_X10_slipped_0 hl  h) rfl
def F_X10_forget_0 (M : PM)  : Option PR := lt ((mI M 16 4) + (mI M 16 9)) fun y703 => some (.inl (some (.int y703)), sI (sI M 16 4 0) 16 9 0)
set_option maxRecDepth 100000 in
theorem S_X10_forget_0 {l : Launch} (hl : l.stackTraces = false) {M : PM}  {r : PR} (h : F_X10_forget_0 M  = some r) : PW l 0 Y_X10_forget k_X10_forget [vR 0, jk] [] M r := by
  unfold F_X10_forget_0 at h
  refine p_aload_n rfl ?_
  refine p_getR fk_X10_34 gt_0 rfl rfl ?_
  refine p_getI fk_X10_301 gt_16 rfl ?_
  refine p_aload_n rfl ?_
  refine p_getR fk_X10_34 gt_0 rfl rfl ?_
  refine p_getI fk_X10_304 gt_16 rfl ?_
  refine p_iadd ?_
  have h := lt_h h
  refine p_istore_n (Nat.le_of_ble_eq_true rfl) rfl ?_
  refine p_aload_n rfl ?_
  refine p_getR fk_X10_34 gt_0 rfl rfl ?_
  refine p_iconst cn_0 ?_
  refine p_putI fk_X10_301 gt_16 rfl ?_
  refine p_aload_n rfl ?_
  refine p_getR fk_X10_34 gt_0 rfl rfl ?_
  refine p_iconst cn_0 ?_
  refine p_putI fk_X10_304 gt_16 rfl ?_
  refine p_iload_n rfl ?_
  exact p_iret rfl h
set_option maxRecDepth 100000 in
theorem pc_X10_forget_0 {l : Launch} (hl : l.stackTraces = false) {M : PM}  {r : PR} (h : F_X10_forget_0 M  = some r) : PC l 0 Y_X10_forget [vR 0] M r := pc_of hl (by decide +kernel) cok_X10_forget (Nat.le_of_ble_eq_true rfl) rfl (S_X10_forget_0 hl  h) rfl
def F_X3_areAlike_16_2 : Nat → PM → Int32 → Int32 → Int32 → Option PR
  | 0, _, _, _, _ => none
  | n + 1, M, x1, x2, x3 => (if 12 ≤ x3 then (if (1 : Int32) &&& 1 = 1 then some (.inl (some (.int 1)), M) else none) else cI (F_X3_aheadOf_16 M x1 x3) fun v705 M704 => cI (F_X3_aheadOf_16 M704 x2 x3) fun v707 M706 => (if v705 = v707 then lt (x3 + 1) fun y708 => F_X3_areAlike_16_2 n M706 x1 x2 y708 else (if (0 : Int32) &&& 1 = 0 then some (.inl (some (.int 0)), M706) else none)))
def F_X3_areAlike_16 (M : PM) (a1 : Int32) (a2 : Int32) : Option PR := F_X3_areAlike_16_2 FUEL M a1 a2 0
set_option maxRecDepth 100000 in
theorem S_X3_areAlike_16_2 {l : Launch} (hl : l.stackTraces = false) : ∀ (n : Nat) {M : PM} {x1 : Int32} {x2 : Int32} {x3 : Int32} {r : PR}, F_X3_areAlike_16_2  n M x1 x2 x3 = some r → PW l 2 Y_X3_areAlike k_X3_areAlike_2 [vR 16, vI x1, vI x2, vI x3] [] M r := by
  intro n
  induction n with
  | zero => intro M x1 x2 x3 r h; exact nomatch (show (none : Option PR) = some r from h)
  | succ n ih =>
    intro M x1 x2 x3 r h
    rw [F_X3_areAlike_16_2] at h
    refine p_iload_n rfl ?_
    refine p_bipush cb_12 ?_
    refine p_icmp_ge h 18 rfl rfl (fun _ h => ?_) (fun _ h => ?_)
    · refine p_iconst cn_1 ?_
      exact p_zret rfl h
    · refine p_aload_n rfl ?_
      refine p_iload_n rfl ?_
      refine p_iload_n rfl ?_
      refine p_cI (av := [_, _, _]) ⟨mok_X3_aheadOf, Or.inl ⟨66, 16, 3, 0, _, rfl, rfl, rfl, gt_16, rfl, ins_X3_aheadOf, Or.inl lk_X3_66⟩⟩ (Nat.le_of_ble_eq_true rfl) (Nat.le_of_ble_eq_true rfl) rfl (fun _ h => pc_X3_aheadOf_16 hl h) h (fun v705 M704 h => ?_)
      refine p_aload_n rfl ?_
      refine p_iload_n rfl ?_
      refine p_iload_n rfl ?_
      refine p_cI (av := [_, _, _]) ⟨mok_X3_aheadOf, Or.inl ⟨66, 16, 3, 0, _, rfl, rfl, rfl, gt_16, rfl, ins_X3_aheadOf, Or.inl lk_X3_66⟩⟩ (Nat.le_of_ble_eq_true rfl) (Nat.le_of_ble_eq_true rfl) rfl (fun _ h => pc_X3_aheadOf_16 hl h) h (fun v707 M706 h => ?_)
      refine p_icmp_eq h 16 rfl rfl (fun _ h => ?_) (fun _ h => ?_)
      · have h := lt_h h
        refine p_iinc (Nat.le_of_ble_eq_true rfl) rfl (ci_1 _) rfl ?_
        refine p_goto 2 rfl rfl ?_
        exact p_fg (ih h) ⟨Or.inr rfl, Or.inr rfl, Or.inr rfl, Or.inr rfl, trivial⟩
      · refine p_iconst cn_0 ?_
        exact p_zret rfl h
set_option maxRecDepth 100000 in
theorem S_X3_areAlike_16 {l : Launch} (hl : l.stackTraces = false) {M : PM} {a1 : Int32} {a2 : Int32} {r : PR} (h : F_X3_areAlike_16 M a1 a2 = some r) : PW l 2 Y_X3_areAlike k_X3_areAlike [vR 16, vI a1, vI a2, jk] [] M r := by
  unfold F_X3_areAlike_16 at h
  refine p_iconst cn_0 ?_
  refine p_istore_n (Nat.le_of_ble_eq_true rfl) rfl ?_
  exact p_fg (S_X3_areAlike_16_2 hl FUEL h) ⟨Or.inr rfl, Or.inr rfl, Or.inr rfl, Or.inr rfl, trivial⟩
set_option maxRecDepth 100000 in
theorem pc_X3_areAlike_16 {l : Launch} (hl : l.stackTraces = false) {M : PM} {a1 : Int32} {a2 : Int32} {r : PR} (h : F_X3_areAlike_16 M a1 a2 = some r) : PC l 2 Y_X3_areAlike [vR 16, vI a1, vI a2] M r := pc_of hl (by decide +kernel) cok_X3_areAlike (Nat.le_of_ble_eq_true rfl) rfl (S_X3_areAlike_16 hl  h) rfl
def F_X10_housesAlike_0_35 (k4 : PM → Int32 → Int32 → Int32 → Option PR) (M : PM) (x1 : Int32) (x3 : Int32) (t0 : Int32) (t1 : Int32) : Option PR := lt (t0 ||| t1) fun y709 => lt (x3 + 1) fun y710 => k4 M x1 y709 y710
def F_X10_housesAlike_0_4 : Nat → PM → Int32 → Int32 → Int32 → Option PR
  | 0, _, _, _, _ => none
  | n + 1, M, x1, x2, x3 => (if mI M 3 4 ≤ x3 then some (.inl (some (.int x2)), M) else cI (F_X3_areAlike_16 M x3 x1) fun v712 M711 => (if v712 = 0 then F_X10_housesAlike_0_35 (F_X10_housesAlike_0_4 n) M711 x1 x3 x2 0 else F_X10_housesAlike_0_35 (F_X10_housesAlike_0_4 n) M711 x1 x3 x2 (1 <<< (x3 &&& 31))))
def F_X10_housesAlike_0 (M : PM) (a1 : Int32) : Option PR := F_X10_housesAlike_0_4 FUEL M a1 0 0
set_option maxRecDepth 100000 in
theorem S_X10_housesAlike_0_35 {l : Launch} (hl : l.stackTraces = false) {k4 : PM → Int32 → Int32 → Int32 → Option PR} (hk4 : ∀ {M : PM} {x1 : Int32} {x2 : Int32} {x3 : Int32} {r : PR}, k4 M x1 x2 x3 = some r → PW l 3 Y_X10_housesAlike k_X10_housesAlike_4 [vR 0, vI x1, vI x2, vI x3] [] M r) {M : PM} {x1 : Int32} {x3 : Int32} {t0 : Int32} {t1 : Int32} {r : PR} (h : F_X10_housesAlike_0_35 k4 M x1 x3 t0 t1 = some r) : PW l 3 Y_X10_housesAlike k_X10_housesAlike_35 [vR 0, vI x1, jk, vI x3] [vI t1, vI t0] M r := by
  unfold F_X10_housesAlike_0_35 at h
  refine p_ior ?_
  have h := lt_h h
  refine p_istore_n (Nat.le_of_ble_eq_true rfl) rfl ?_
  have h := lt_h h
  refine p_iinc (Nat.le_of_ble_eq_true rfl) rfl (ci_1 _) rfl ?_
  refine p_goto 4 rfl rfl ?_
  exact p_fg (hk4 h) ⟨Or.inr rfl, Or.inr rfl, Or.inr rfl, Or.inr rfl, trivial⟩
set_option maxRecDepth 100000 in
theorem S_X10_housesAlike_0_4 {l : Launch} (hl : l.stackTraces = false) : ∀ (n : Nat) {M : PM} {x1 : Int32} {x2 : Int32} {x3 : Int32} {r : PR}, F_X10_housesAlike_0_4  n M x1 x2 x3 = some r → PW l 3 Y_X10_housesAlike k_X10_housesAlike_4 [vR 0, vI x1, vI x2, vI x3] [] M r := by
  intro n
  induction n with
  | zero => intro M x1 x2 x3 r h; exact nomatch (show (none : Option PR) = some r from h)
  | succ n ih =>
    intro M x1 x2 x3 r h
    rw [F_X10_housesAlike_0_4] at h
    refine p_iload_n rfl ?_
    refine p_aload_n rfl ?_
    refine p_getR fk_X10_27 gt_0 rfl rfl ?_
    refine p_getI fk_X10_143 gt_3 rfl ?_
    refine p_icmp_ge h 25 rfl rfl (fun _ h => ?_) (fun _ h => ?_)
    · refine p_iload_n rfl ?_
      exact p_iret rfl h
    · refine p_iload_n rfl ?_
      refine p_aload_n rfl ?_
      refine p_getR fk_X10_34 gt_0 rfl rfl ?_
      refine p_iload_n rfl ?_
      refine p_iload_n rfl ?_
      refine p_cI (av := [_, _, _]) ⟨mok_X3_areAlike, Or.inl ⟨405, 16, 3, 0, _, rfl, rfl, rfl, gt_16, rfl, ins_X3_areAlike, Or.inr lk_X10_405⟩⟩ (Nat.le_of_ble_eq_true rfl) (Nat.le_of_ble_eq_true rfl) rfl (fun _ h => pc_X3_areAlike_16 hl h) h (fun v712 M711 h => ?_)
      refine p_if_eq h 20 rfl rfl (fun _ h => ?_) (fun _ h => ?_)
      · refine p_iconst cn_0 ?_
        exact p_fg (S_X10_housesAlike_0_35 hl (fun h => ih h) h) ⟨Or.inr rfl, Or.inr rfl, Or.inl rfl, Or.inr rfl, trivial⟩
      · refine p_iconst cn_1 ?_
        refine p_iload_n rfl ?_
        refine p_ishl ?_
        refine p_goto 21 rfl rfl ?_
        exact p_fg (S_X10_housesAlike_0_35 hl (fun h => ih h) h) ⟨Or.inr rfl, Or.inr rfl, Or.inl rfl, Or.inr rfl, trivial⟩
set_option maxRecDepth 100000 in
theorem S_X10_housesAlike_0 {l : Launch} (hl : l.stackTraces = false) {M : PM} {a1 : Int32} {r : PR} (h : F_X10_housesAlike_0 M a1 = some r) : PW l 3 Y_X10_housesAlike k_X10_housesAlike [vR 0, vI a1, jk, jk] [] M r := by
  unfold F_X10_housesAlike_0 at h
  refine p_iconst cn_0 ?_
  refine p_istore_n (Nat.le_of_ble_eq_true rfl) rfl ?_
  refine p_iconst cn_0 ?_
  refine p_istore_n (Nat.le_of_ble_eq_true rfl) rfl ?_
  exact p_fg (S_X10_housesAlike_0_4 hl FUEL h) ⟨Or.inr rfl, Or.inr rfl, Or.inr rfl, Or.inr rfl, trivial⟩
set_option maxRecDepth 100000 in
theorem pc_X10_housesAlike_0 {l : Launch} (hl : l.stackTraces = false) {M : PM} {a1 : Int32} {r : PR} (h : F_X10_housesAlike_0 M a1 = some r) : PC l 3 Y_X10_housesAlike [vR 0, vI a1] M r := pc_of hl (by decide +kernel) cok_X10_housesAlike (Nat.le_of_ble_eq_true rfl) rfl (S_X10_housesAlike_0 hl  h) rfl
def F_X10_right_0_42 (k9 : PM → Int32 → Int32 → Int32 → Option PR) (M : PM) (x1 : Int32) (x2 : Int32) (x3 : Int32) : Option PR := lt (x3 + 1) fun y713 => k9 M x1 x2 y713
def F_X10_right_0_9 : Nat → PM → Int32 → Int32 → Int32 → Option PR
  | 0, _, _, _, _ => none
  | n + 1, M, x1, x2, x3 => (if mI M 3 4 ≤ x3 then (if x1 = 0 then cI (F_J6_bitCount_0f7a4 M x2) fun v715 M714 => some (.inl (some (.int ((mI M 3 4) - v715))), M714) else some (.inl (some (.int x2)), M)) else cI (F_X10_housesAlike_0 M x3) fun v717 M716 => cI (F_J6_bitCount_0f7a4 M716 v717) fun v719 M718 => cI (F_J6_bitCount_0f7a4 M718 x2) fun v721 M720 => (if v719 ≤ v721 then F_X10_right_0_42 (F_X10_right_0_9 n) M720 x1 x2 x3 else F_X10_right_0_42 (F_X10_right_0_9 n) M720 x1 v717 x3))
def F_X10_right_0 (M : PM) (a1 : Int32) : Option PR := bV (F_X10_needEither_0 M a1) fun M722 => F_X10_right_0_9 FUEL M722 a1 0 0
set_option maxRecDepth 100000 in
theorem S_X10_right_0_42 {l : Launch} (hl : l.stackTraces = false) {k9 : PM → Int32 → Int32 → Int32 → Option PR} (hk9 : ∀ {M : PM} {x1 : Int32} {x2 : Int32} {x3 : Int32} {r : PR}, k9 M x1 x2 x3 = some r → PW l 8 Y_X10_right k_X10_right_9 [vR 0, vI x1, vI x2, vI x3, jk] [] M r) {M : PM} {x1 : Int32} {x2 : Int32} {x3 : Int32} {r : PR} (h : F_X10_right_0_42 k9 M x1 x2 x3 = some r) : PW l 8 Y_X10_right k_X10_right_42 [vR 0, vI x1, vI x2, vI x3, jk] [] M r := by
  unfold F_X10_right_0_42 at h
  have h := lt_h h
  refine p_iinc (Nat.le_of_ble_eq_true rfl) rfl (ci_1 _) rfl ?_
  refine p_goto 7 rfl rfl ?_
  exact p_fg (hk9 h) ⟨Or.inr rfl, Or.inr rfl, Or.inr rfl, Or.inr rfl, Or.inl rfl, trivial⟩
set_option maxRecDepth 100000 in
theorem S_X10_right_0_9 {l : Launch} (hl : l.stackTraces = false) : ∀ (n : Nat) {M : PM} {x1 : Int32} {x2 : Int32} {x3 : Int32} {r : PR}, F_X10_right_0_9  n M x1 x2 x3 = some r → PW l 8 Y_X10_right k_X10_right_9 [vR 0, vI x1, vI x2, vI x3, jk] [] M r := by
  intro n
  induction n with
  | zero => intro M x1 x2 x3 r h; exact nomatch (show (none : Option PR) = some r from h)
  | succ n ih =>
    intro M x1 x2 x3 r h
    rw [F_X10_right_0_9] at h
    refine p_iload_n rfl ?_
    refine p_aload_n rfl ?_
    refine p_getR fk_X10_27 gt_0 rfl rfl ?_
    refine p_getI fk_X10_143 gt_3 rfl ?_
    refine p_icmp_ge h 25 rfl rfl (fun _ h => ?_) (fun _ h => ?_)
    · refine p_iload_n rfl ?_
      refine p_if_ne h 34 rfl rfl (fun _ h => ?_) (fun _ h => ?_)
      · refine p_aload_n rfl ?_
        refine p_getR fk_X10_27 gt_0 rfl rfl ?_
        refine p_getI fk_X10_143 gt_3 rfl ?_
        refine p_iload_n rfl ?_
        refine p_cI (av := [_]) ⟨mok_J6_bitCount_0f7a4, Or.inr ⟨217, rfl, rfl, sta_J6_bitCount_0f7a4, Or.inl lk_X10_217⟩⟩ (Nat.le_of_ble_eq_true rfl) (Nat.le_of_ble_eq_true rfl) rfl (fun _ h => pc_J6_bitCount_0f7a4 hl h) h (fun v715 M714 h => ?_)
        refine p_isub ?_
        refine p_goto 35 rfl rfl ?_
        exact p_iret rfl h
      · refine p_iload_n rfl ?_
        exact p_iret rfl h
    · refine p_aload_n rfl ?_
      refine p_iload_n rfl ?_
      refine p_cI (av := [_, _]) ⟨mok_X10_housesAlike, Or.inl ⟨307, 0, 10, 0, _, rfl, rfl, rfl, gt_0, rfl, ins_X10_housesAlike, Or.inl lk_X10_307⟩⟩ (Nat.le_of_ble_eq_true rfl) (Nat.le_of_ble_eq_true rfl) rfl (fun _ h => pc_X10_housesAlike_0 hl h) h (fun v717 M716 h => ?_)
      refine p_istore (Nat.le_of_ble_eq_true rfl) rfl ?_
      refine p_iload rfl ?_
      refine p_cI (av := [_]) ⟨mok_J6_bitCount_0f7a4, Or.inr ⟨217, rfl, rfl, sta_J6_bitCount_0f7a4, Or.inl lk_X10_217⟩⟩ (Nat.le_of_ble_eq_true rfl) (Nat.le_of_ble_eq_true rfl) rfl (fun _ h => pc_J6_bitCount_0f7a4 hl h) h (fun v719 M718 h => ?_)
      refine p_iload_n rfl ?_
      refine p_cI (av := [_]) ⟨mok_J6_bitCount_0f7a4, Or.inr ⟨217, rfl, rfl, sta_J6_bitCount_0f7a4, Or.inl lk_X10_217⟩⟩ (Nat.le_of_ble_eq_true rfl) (Nat.le_of_ble_eq_true rfl) rfl (fun _ h => pc_J6_bitCount_0f7a4 hl h) h (fun v721 M720 h => ?_)
      refine p_icmp_le h 23 rfl rfl (fun _ h => ?_) (fun _ h => ?_)
      · exact p_fg (S_X10_right_0_42 hl (fun h => ih h) h) ⟨Or.inr rfl, Or.inr rfl, Or.inr rfl, Or.inr rfl, Or.inl rfl, trivial⟩
      · refine p_iload rfl ?_
        refine p_istore_n (Nat.le_of_ble_eq_true rfl) rfl ?_
        exact p_fg (S_X10_right_0_42 hl (fun h => ih h) h) ⟨Or.inr rfl, Or.inr rfl, Or.inr rfl, Or.inr rfl, Or.inl rfl, trivial⟩
set_option maxRecDepth 100000 in
theorem S_X10_right_0 {l : Launch} (hl : l.stackTraces = false) {M : PM} {a1 : Int32} {r : PR} (h : F_X10_right_0 M a1 = some r) : PW l 8 Y_X10_right k_X10_right [vR 0, vI a1, jk, jk, jk] [] M r := by
  unfold F_X10_right_0 at h
  refine p_aload_n rfl ?_
  refine p_iload_n rfl ?_
  refine p_bV mok_X10_needEither rfl gt_0 rfl ins_X10_needEither lk_X10_158 (Nat.le_of_ble_eq_true rfl) (Nat.le_of_ble_eq_true rfl) rfl (fun _ h => pc_X10_needEither_0 hl h) h (fun M722 h => ?_)
  refine p_iconst cn_0 ?_
  refine p_istore_n (Nat.le_of_ble_eq_true rfl) rfl ?_
  refine p_iconst cn_0 ?_
  refine p_istore_n (Nat.le_of_ble_eq_true rfl) rfl ?_
  exact p_fg (S_X10_right_0_9 hl FUEL h) ⟨Or.inr rfl, Or.inr rfl, Or.inr rfl, Or.inr rfl, Or.inl rfl, trivial⟩
set_option maxRecDepth 100000 in
theorem pc_X10_right_0 {l : Launch} (hl : l.stackTraces = false) {M : PM} {a1 : Int32} {r : PR} (h : F_X10_right_0 M a1 = some r) : PC l 8 Y_X10_right [vR 0, vI a1] M r := pc_of hl (by decide +kernel) cok_X10_right (Nat.le_of_ble_eq_true rfl) rfl (S_X10_right_0 hl  h) rfl
def F_X3_addWork_16 (M : PM) (a1 : Int32) (a2 : Int32) : Option PR := (if mI M 16 12 < 8 then if ixOK (mI M 16 12) 8 = true then if ixOK (mI (sA M 25 (mI M 16 12).toNatClampNeg a1) 16 12) 8 = true then lt (sI (sA (sA M 25 (mI M 16 12).toNatClampNeg a1) 26 (mI (sA M 25 (mI M 16 12).toNatClampNeg a1) 16 12).toNatClampNeg a2) 16 12 ((mI (sA (sA M 25 (mI M 16 12).toNatClampNeg a1) 26 (mI (sA M 25 (mI M 16 12).toNatClampNeg a1) 16 12).toNatClampNeg a2) 16 12) + 1)) fun M723 => some (.inl (some (.int ((mI M723 16 12) - 1))), M723) else none else none else some (.inl (some (.int (-1))), M))
set_option maxRecDepth 100000 in
theorem S_X3_addWork_16 {l : Launch} (hl : l.stackTraces = false) {M : PM} {a1 : Int32} {a2 : Int32} {r : PR} (h : F_X3_addWork_16 M a1 a2 = some r) : PW l 0 Y_X3_addWork k_X3_addWork [vR 16, vI a1, vI a2] [] M r := by
  unfold F_X3_addWork_16 at h
  refine p_aload_n rfl ?_
  refine p_getI fk_X3_59 gt_16 rfl ?_
  refine p_bipush cb_8 ?_
  refine p_icmp_lt h 6 rfl rfl (fun _ h => ?_) (fun _ h => ?_)
  · refine p_aload_n rfl ?_
    refine p_getR fk_X3_37 gt_16 rfl rfl ?_
    refine p_aload_n rfl ?_
    refine p_getI fk_X3_59 gt_16 rfl ?_
    refine p_iload_n rfl ?_
    refine p_iast gt_25 h (fun h => ?_)
    refine p_aload_n rfl ?_
    refine p_getR fk_X3_40 gt_16 rfl rfl ?_
    refine p_aload_n rfl ?_
    refine p_getI fk_X3_59 gt_16 rfl ?_
    refine p_iload_n rfl ?_
    refine p_iast gt_26 h (fun h => ?_)
    refine p_aload_n rfl ?_
    refine p_dup rfl ?_
    refine p_getI fk_X3_59 gt_16 rfl ?_
    refine p_iconst cn_1 ?_
    refine p_iadd ?_
    refine p_putI fk_X3_59 gt_16 rfl ?_
    have h := lt_h h
    refine p_aload_n rfl ?_
    refine p_getI fk_X3_59 gt_16 rfl ?_
    refine p_iconst cn_1 ?_
    refine p_isub ?_
    exact p_iret rfl h
  · refine p_iconst cn_m1 ?_
    exact p_iret rfl h
set_option maxRecDepth 100000 in
theorem pc_X3_addWork_16 {l : Launch} (hl : l.stackTraces = false) {M : PM} {a1 : Int32} {a2 : Int32} {r : PR} (h : F_X3_addWork_16 M a1 a2 = some r) : PC l 0 Y_X3_addWork [vR 16, vI a1, vI a2] M r := pc_of hl (by decide +kernel) cok_X3_addWork (Nat.le_of_ble_eq_true rfl) rfl (S_X3_addWork_16 hl  h) rfl
def F_X10_work_0_17 (M : PM) (x1 : Int32) (x2 : Int32) (t1 : Int32) : Option PR := bV (F_X10_need_0 M t1) fun M724 => bV (F_X10_needLaws_0 M724 x2) fun M725 => cI (F_X3_addWork_16 M725 x1 x2) fun v727 M726 => some (.inl (some (.int v727)), M726)
def F_X10_work_0_16 (M : PM) (x1 : Int32) (x2 : Int32) : Option PR := F_X10_work_0_17 M x1 x2 0
def F_X10_work_0 (M : PM) (a1 : Int32) (a2 : Int32) : Option PR := (if a1 < 1 then F_X10_work_0_16 M a1 a2 else (if 60 < a1 then F_X10_work_0_16 M a1 a2 else F_X10_work_0_17 M a1 a2 1))
set_option maxRecDepth 100000 in
theorem S_X10_work_0_17 {l : Launch} (hl : l.stackTraces = false) {M : PM} {x1 : Int32} {x2 : Int32} {t1 : Int32} {r : PR} (h : F_X10_work_0_17  M x1 x2 t1 = some r) : PW l 8 Y_X10_work k_X10_work_17 [vR 0, vI x1, vI x2] [vI t1, vR 0] M r := by
  unfold F_X10_work_0_17 at h
  refine p_bV mok_X10_need rfl gt_0 rfl ins_X10_need lk_X10_101 (Nat.le_of_ble_eq_true rfl) (Nat.le_of_ble_eq_true rfl) rfl (fun _ h => pc_X10_need_0 hl h) h (fun M724 h => ?_)
  refine p_aload_n rfl ?_
  refine p_iload_n rfl ?_
  refine p_bV mok_X10_needLaws rfl gt_0 rfl ins_X10_needLaws lk_X10_201 (Nat.le_of_ble_eq_true rfl) (Nat.le_of_ble_eq_true rfl) rfl (fun _ h => pc_X10_needLaws_0 hl h) h (fun M725 h => ?_)
  refine p_aload_n rfl ?_
  refine p_getR fk_X10_34 gt_0 rfl rfl ?_
  refine p_iload_n rfl ?_
  refine p_iload_n rfl ?_
  refine p_cI (av := [_, _, _]) ⟨mok_X3_addWork, Or.inl ⟨310, 16, 3, 0, _, rfl, rfl, rfl, gt_16, rfl, ins_X3_addWork, Or.inr lk_X10_310⟩⟩ (Nat.le_of_ble_eq_true rfl) (Nat.le_of_ble_eq_true rfl) rfl (fun _ h => pc_X3_addWork_16 hl h) h (fun v727 M726 h => ?_)
  exact p_iret rfl h
set_option maxRecDepth 100000 in
theorem S_X10_work_0_16 {l : Launch} (hl : l.stackTraces = false) {M : PM} {x1 : Int32} {x2 : Int32} {r : PR} (h : F_X10_work_0_16  M x1 x2 = some r) : PW l 8 Y_X10_work k_X10_work_16 [vR 0, vI x1, vI x2] [vR 0] M r := by
  unfold F_X10_work_0_16 at h
  refine p_iconst cn_0 ?_
  exact p_fg (S_X10_work_0_17 hl h) ⟨Or.inr rfl, Or.inr rfl, Or.inr rfl, trivial⟩
set_option maxRecDepth 100000 in
theorem S_X10_work_0 {l : Launch} (hl : l.stackTraces = false) {M : PM} {a1 : Int32} {a2 : Int32} {r : PR} (h : F_X10_work_0 M a1 a2 = some r) : PW l 8 Y_X10_work k_X10_work [vR 0, vI a1, vI a2] [] M r := by
  unfold F_X10_work_0 at h
  refine p_aload_n rfl ?_
  refine p_iload_n rfl ?_
  refine p_iconst cn_1 ?_
  refine p_icmp_lt h 9 rfl rfl (fun _ h => ?_) (fun _ h => ?_)
  · exact p_fg (S_X10_work_0_16 hl h) ⟨Or.inr rfl, Or.inr rfl, Or.inr rfl, trivial⟩
  · refine p_iload_n rfl ?_
    refine p_bipush cb_60 ?_
    refine p_icmp_gt h 9 rfl rfl (fun _ h => ?_) (fun _ h => ?_)
    · exact p_fg (S_X10_work_0_16 hl h) ⟨Or.inr rfl, Or.inr rfl, Or.inr rfl, trivial⟩
    · refine p_iconst cn_1 ?_
      refine p_goto 10 rfl rfl ?_
      exact p_fg (S_X10_work_0_17 hl h) ⟨Or.inr rfl, Or.inr rfl, Or.inr rfl, trivial⟩
set_option maxRecDepth 100000 in
theorem pc_X10_work_0 {l : Launch} (hl : l.stackTraces = false) {M : PM} {a1 : Int32} {a2 : Int32} {r : PR} (h : F_X10_work_0 M a1 a2 = some r) : PC l 8 Y_X10_work [vR 0, vI a1, vI a2] M r := pc_of hl (by decide +kernel) cok_X10_work (Nat.le_of_ble_eq_true rfl) rfl (S_X10_work_0 hl  h) rfl
def F_X10_needWork_0 (M : PM) (a1 : Int32) : Option PR := (if a1 < 0 then bV (F_X10_needElement_0 M 0) fun M728 => some (.inl none, M728) else (if mI M 16 12 ≤ a1 then bV (F_X10_needElement_0 M 0) fun M729 => some (.inl none, M729) else bV (F_X10_needElement_0 M 1) fun M730 => some (.inl none, M730)))
set_option maxRecDepth 100000 in
theorem S_X10_needWork_0 {l : Launch} (hl : l.stackTraces = false) {M : PM} {a1 : Int32} {r : PR} (h : F_X10_needWork_0 M a1 = some r) : PW l 7 Y_X10_needWork k_X10_needWork [vR 0, vI a1] [] M r := by
  unfold F_X10_needWork_0 at h
  refine p_aload_n rfl ?_
  refine p_iload_n rfl ?_
  refine p_if_lt h 10 rfl rfl (fun _ h => ?_) (fun _ h => ?_)
  · refine p_iconst cn_0 ?_
    refine p_bV mok_X10_needElement rfl gt_0 rfl ins_X10_needElement lk_X10_381 (Nat.le_of_ble_eq_true rfl) (Nat.le_of_ble_eq_true rfl) rfl (fun _ h => pc_X10_needElement_0 hl h) h (fun M728 h => ?_)
    exact p_ret rfl h
  · refine p_iload_n rfl ?_
    refine p_aload_n rfl ?_
    refine p_getR fk_X10_34 gt_0 rfl rfl ?_
    refine p_getI fk_X10_333 gt_16 rfl ?_
    refine p_icmp_ge h 10 rfl rfl (fun _ h => ?_) (fun _ h => ?_)
    · refine p_iconst cn_0 ?_
      refine p_bV mok_X10_needElement rfl gt_0 rfl ins_X10_needElement lk_X10_381 (Nat.le_of_ble_eq_true rfl) (Nat.le_of_ble_eq_true rfl) rfl (fun _ h => pc_X10_needElement_0 hl h) h (fun M729 h => ?_)
      exact p_ret rfl h
    · refine p_iconst cn_1 ?_
      refine p_goto 11 rfl rfl ?_
      refine p_bV mok_X10_needElement rfl gt_0 rfl ins_X10_needElement lk_X10_381 (Nat.le_of_ble_eq_true rfl) (Nat.le_of_ble_eq_true rfl) rfl (fun _ h => pc_X10_needElement_0 hl h) h (fun M730 h => ?_)
      exact p_ret rfl h
set_option maxRecDepth 100000 in
theorem pc_X10_needWork_0 {l : Launch} (hl : l.stackTraces = false) {M : PM} {a1 : Int32} {r : PR} (h : F_X10_needWork_0 M a1 = some r) : PC l 7 Y_X10_needWork [vR 0, vI a1] M r := pc_of hl (by decide +kernel) cok_X10_needWork (Nat.le_of_ble_eq_true rfl) rfl (S_X10_needWork_0 hl  h) rfl
def F_X9_isWork_89 (M : PM) (a1 : Int32) : Option PR := (if a1 < 0 then (if (0 : Int32) &&& 1 = 0 then some (.inl (some (.int 0)), M) else none) else (if mI M 16 12 ≤ a1 then (if (0 : Int32) &&& 1 = 0 then some (.inl (some (.int 0)), M) else none) else (if 8 ≤ a1 then (if (0 : Int32) &&& 1 = 0 then some (.inl (some (.int 0)), M) else none) else (if (1 : Int32) &&& 1 = 1 then some (.inl (some (.int 1)), M) else none))))
set_option maxRecDepth 100000 in
theorem S_X9_isWork_89 {l : Launch} (hl : l.stackTraces = false) {M : PM} {a1 : Int32} {r : PR} (h : F_X9_isWork_89 M a1 = some r) : PW l 0 Y_X9_isWork k_X9_isWork [vR 89, vI a1] [] M r := by
  unfold F_X9_isWork_89 at h
  refine p_iload_n rfl ?_
  refine p_if_lt h 12 rfl rfl (fun _ h => ?_) (fun _ h => ?_)
  · refine p_iconst cn_0 ?_
    exact p_zret rfl h
  · refine p_iload_n rfl ?_
    refine p_aload_n rfl ?_
    refine p_getR fk_X9_25 gt_89 rfl rfl ?_
    refine p_getI fk_X9_29 gt_16 rfl ?_
    refine p_icmp_ge h 12 rfl rfl (fun _ h => ?_) (fun _ h => ?_)
    · refine p_iconst cn_0 ?_
      exact p_zret rfl h
    · refine p_iload_n rfl ?_
      refine p_bipush cb_8 ?_
      refine p_icmp_ge h 12 rfl rfl (fun _ h => ?_) (fun _ h => ?_)
      · refine p_iconst cn_0 ?_
        exact p_zret rfl h
      · refine p_iconst cn_1 ?_
        refine p_goto 13 rfl rfl ?_
        exact p_zret rfl h
set_option maxRecDepth 100000 in
theorem pc_X9_isWork_89 {l : Launch} (hl : l.stackTraces = false) {M : PM} {a1 : Int32} {r : PR} (h : F_X9_isWork_89 M a1 = some r) : PC l 0 Y_X9_isWork [vR 89, vI a1] M r := pc_of hl (by decide +kernel) cok_X9_isWork (Nat.le_of_ble_eq_true rfl) rfl (S_X9_isWork_89 hl  h) rfl
def F_X1_patience_27 (M : PM)  : Option PR := some (.inl (some (.int ((mI M 27 4) + 3))), M)
set_option maxRecDepth 100000 in
theorem S_X1_patience_27 {l : Launch} (hl : l.stackTraces = false) {M : PM}  {r : PR} (h : F_X1_patience_27 M  = some r) : PW l 0 Y_X1_patience k_X1_patience [vR 27] [] M r := by
  unfold F_X1_patience_27 at h
  refine p_aload_n rfl ?_
  refine p_getI fk_X1_15 gt_27 rfl ?_
  refine p_iconst cn_3 ?_
  refine p_iadd ?_
  exact p_iret rfl h
set_option maxRecDepth 100000 in
theorem pc_X1_patience_27 {l : Launch} (hl : l.stackTraces = false) {M : PM}  {r : PR} (h : F_X1_patience_27 M  = some r) : PC l 0 Y_X1_patience [vR 27] M r := pc_of hl (by decide +kernel) cok_X1_patience (Nat.le_of_ble_eq_true rfl) rfl (S_X1_patience_27 hl  h) rfl
def F_X1_nthFrom_27_103 (k14 : PM → Int32 → Int32 → Int32 → Option PR) (M : PM) (x3 : Int32) (x5 : Int32) (x6 : Int32) (t0 : Int32) : Option PR := cI (F_J9_max_7cf53 M x5 1) fun v732 M731 => lt (x6 + v732) fun y733 => k14 M731 x3 t0 y733
def F_X1_nthFrom_27_14 : Nat → PM → Int32 → Int32 → Int32 → Option PR
  | 0, _, _, _, _ => none
  | n + 1, M, x3, x4, x6 => (if 999999999 < x6 then some (.inl (some (.int (-1))), M) else (if x4 ≤ 0 then some (.inl (some (.int (-1))), M) else cI (F_X0_stretchFrom_3 M x6) fun v735 M734 => cI (F_X0_turnsOn_3 M734 x6) fun v737 M736 => cJ (F_X1_daysFrom_27 M736 v737) fun v739 M738 => cJ (F_X10_low M738 v735) fun v741 M740 => lt (v739 &&& v741) fun y742 => cI (F_J13_bitCount_95d88 M740 y742) fun v744 M743 => (if v744 < x3 then lt (x3 - v744) fun y745 => (if v744 ≤ 0 then F_X1_nthFrom_27_103 (F_X1_nthFrom_27_14 n) M743 y745 v735 x6 (x4 - v735) else cI (F_X1_patience_27 M743) fun v747 M746 => F_X1_nthFrom_27_103 (F_X1_nthFrom_27_14 n) M746 y745 v735 x6 v747) else cI (F_X10_nthLowest M743 y742 x3) fun v749 M748 => some (.inl (some (.int (x6 + v749))), M748))))
def F_X1_nthFrom_27 (M : PM) (a1 : Int32) (a2 : Int32) : Option PR := cI (F_X1_patience_27 M) fun v751 M750 => F_X1_nthFrom_27_14 FUEL M750 a2 v751 a1
set_option maxRecDepth 100000 in
theorem S_X1_nthFrom_27_103 {l : Launch} (hl : l.stackTraces = false) {k14 : PM → Int32 → Int32 → Int32 → Option PR} (hk14 : ∀ {M : PM} {x3 : Int32} {x4 : Int32} {x6 : Int32} {r : PR}, k14 M x3 x4 x6 = some r → PW l 3 Y_X1_nthFrom k_X1_nthFrom_14 [vR 27, jk, jk, vI x3, vI x4, jk, vI x6, jk, jk, jk] [] M r) {M : PM} {x3 : Int32} {x5 : Int32} {x6 : Int32} {t0 : Int32} {r : PR} (h : F_X1_nthFrom_27_103 k14 M x3 x5 x6 t0 = some r) : PW l 3 Y_X1_nthFrom k_X1_nthFrom_103 [vR 27, jk, jk, vI x3, jk, vI x5, vI x6, jk, jk, jk] [vI t0] M r := by
  unfold F_X1_nthFrom_27_103 at h
  refine p_istore (Nat.le_of_ble_eq_true rfl) rfl ?_
  refine p_iload rfl ?_
  refine p_iload rfl ?_
  refine p_iconst cn_1 ?_
  refine p_cI (av := [_, _]) ⟨mok_J9_max_7cf53, Or.inr ⟨79, rfl, rfl, sta_J9_max_7cf53, Or.inl lk_X1_79⟩⟩ (Nat.le_of_ble_eq_true rfl) (Nat.le_of_ble_eq_true rfl) rfl (fun _ h => pc_J9_max_7cf53 hl h) h (fun v732 M731 h => ?_)
  refine p_iadd ?_
  have h := lt_h h
  refine p_istore (Nat.le_of_ble_eq_true rfl) rfl ?_
  refine p_goto 9 rfl rfl ?_
  exact p_fg (hk14 h) ⟨Or.inr rfl, Or.inl rfl, Or.inl rfl, Or.inr rfl, Or.inr rfl, Or.inl rfl, Or.inr rfl, Or.inl rfl, Or.inl rfl, Or.inl rfl, trivial⟩
set_option maxRecDepth 100000 in
theorem S_X1_nthFrom_27_14 {l : Launch} (hl : l.stackTraces = false) : ∀ (n : Nat) {M : PM} {x3 : Int32} {x4 : Int32} {x6 : Int32} {r : PR}, F_X1_nthFrom_27_14  n M x3 x4 x6 = some r → PW l 3 Y_X1_nthFrom k_X1_nthFrom_14 [vR 27, jk, jk, vI x3, vI x4, jk, vI x6, jk, jk, jk] [] M r := by
  intro n
  induction n with
  | zero => intro M x3 x4 x6 r h; exact nomatch (show (none : Option PR) = some r from h)
  | succ n ih =>
    intro M x3 x4 x6 r h
    rw [F_X1_nthFrom_27_14] at h
    refine p_iload rfl ?_
    refine p_ldc co_X1_54 ?_
    refine p_icmp_gt h 61 rfl rfl (fun _ h => ?_) (fun _ h => ?_)
    · refine p_iconst cn_m1 ?_
      exact p_iret rfl h
    · refine p_iload rfl ?_
      refine p_if_le h 61 rfl rfl (fun _ h => ?_) (fun _ h => ?_)
      · refine p_iconst cn_m1 ?_
        exact p_iret rfl h
      · refine p_aload_n rfl ?_
        refine p_getR fk_X1_19 gt_27 rfl rfl ?_
        refine p_iload rfl ?_
        refine p_cI (av := [_, _]) ⟨mok_X0_stretchFrom, Or.inl ⟨55, 3, 0, 0, _, rfl, rfl, rfl, gt_3, rfl, ins_X0_stretchFrom, Or.inr lk_X1_55⟩⟩ (Nat.le_of_ble_eq_true rfl) (Nat.le_of_ble_eq_true rfl) rfl (fun _ h => pc_X0_stretchFrom_3 hl h) h (fun v735 M734 h => ?_)
        refine p_istore (Nat.le_of_ble_eq_true rfl) rfl ?_
        refine p_aload_n rfl ?_
        refine p_aload_n rfl ?_
        refine p_getR fk_X1_19 gt_27 rfl rfl ?_
        refine p_iload rfl ?_
        refine p_cI (av := [_, _]) ⟨mok_X0_turnsOn, Or.inl ⟨59, 3, 0, 0, _, rfl, rfl, rfl, gt_3, rfl, ins_X0_turnsOn, Or.inr lk_X1_59⟩⟩ (Nat.le_of_ble_eq_true rfl) (Nat.le_of_ble_eq_true rfl) rfl (fun _ h => pc_X0_turnsOn_3 hl h) h (fun v737 M736 h => ?_)
        refine p_cJ (av := [_, _]) ⟨mok_X1_daysFrom, Or.inl ⟨62, 27, 1, 0, _, rfl, rfl, rfl, gt_27, rfl, ins_X1_daysFrom, Or.inl lk_X1_62⟩⟩ (Nat.le_of_ble_eq_true rfl) (Nat.le_of_ble_eq_true rfl) rfl (fun _ h => pc_X1_daysFrom_27 hl h) h (fun v739 M738 h => ?_)
        refine p_iload rfl ?_
        refine p_cJ (av := [_]) ⟨mok_X10_low, Or.inr ⟨66, rfl, rfl, sta_X10_low, Or.inr lk_X1_66⟩⟩ (Nat.le_of_ble_eq_true rfl) (Nat.le_of_ble_eq_true rfl) rfl (fun _ h => pc_X10_low hl h) h (fun v741 M740 h => ?_)
        refine p_land ?_
        have h := lt_h h
        refine p_lstore (Nat.le_of_ble_eq_true rfl) rfl ?_
        refine p_lload rfl ?_
        refine p_cI (av := [_]) ⟨mok_J13_bitCount_95d88, Or.inr ⟨69, rfl, rfl, sta_J13_bitCount_95d88, Or.inl lk_X1_69⟩⟩ (Nat.le_of_ble_eq_true rfl) (Nat.le_of_ble_eq_true rfl) rfl (fun _ h => pc_J13_bitCount_95d88 hl h) h (fun v744 M743 h => ?_)
        refine p_istore (Nat.le_of_ble_eq_true rfl) rfl ?_
        refine p_iload rfl ?_
        refine p_iload_n rfl ?_
        refine p_icmp_lt h 41 rfl rfl (fun _ h => ?_) (fun _ h => ?_)
        · refine p_iload_n rfl ?_
          refine p_iload rfl ?_
          refine p_isub ?_
          have h := lt_h h
          refine p_istore_n (Nat.le_of_ble_eq_true rfl) rfl ?_
          refine p_iload rfl ?_
          refine p_if_le h 50 rfl rfl (fun _ h => ?_) (fun _ h => ?_)
          · refine p_iload rfl ?_
            refine p_iload rfl ?_
            refine p_isub ?_
            exact p_fg (S_X1_nthFrom_27_103 hl (fun h => ih h) h) ⟨Or.inr rfl, Or.inl rfl, Or.inl rfl, Or.inr rfl, Or.inl rfl, Or.inr rfl, Or.inr rfl, Or.inl rfl, Or.inl rfl, Or.inl rfl, trivial⟩
          · refine p_aload_n rfl ?_
            refine p_cI (av := [_]) ⟨mok_X1_patience, Or.inl ⟨50, 27, 1, 0, _, rfl, rfl, rfl, gt_27, rfl, ins_X1_patience, Or.inl lk_X1_50⟩⟩ (Nat.le_of_ble_eq_true rfl) (Nat.le_of_ble_eq_true rfl) rfl (fun _ h => pc_X1_patience_27 hl h) h (fun v747 M746 h => ?_)
            refine p_goto 53 rfl rfl ?_
            exact p_fg (S_X1_nthFrom_27_103 hl (fun h => ih h) h) ⟨Or.inr rfl, Or.inl rfl, Or.inl rfl, Or.inr rfl, Or.inl rfl, Or.inr rfl, Or.inr rfl, Or.inl rfl, Or.inl rfl, Or.inl rfl, trivial⟩
        · refine p_iload rfl ?_
          refine p_lload rfl ?_
          refine p_iload_n rfl ?_
          refine p_cI (av := [_, _]) ⟨mok_X10_nthLowest, Or.inr ⟨75, rfl, rfl, sta_X10_nthLowest, Or.inr lk_X1_75⟩⟩ (Nat.le_of_ble_eq_true rfl) (Nat.le_of_ble_eq_true rfl) rfl (fun _ h => pc_X10_nthLowest hl h) h (fun v749 M748 h => ?_)
          refine p_iadd ?_
          exact p_iret rfl h
set_option maxRecDepth 100000 in
theorem S_X1_nthFrom_27 {l : Launch} (hl : l.stackTraces = false) {M : PM} {a1 : Int32} {a2 : Int32} {r : PR} (h : F_X1_nthFrom_27 M a1 a2 = some r) : PW l 3 Y_X1_nthFrom k_X1_nthFrom [vR 27, vI a1, vI a2, jk, jk, jk, jk, jk, jk, jk] [] M r := by
  unfold F_X1_nthFrom_27 at h
  refine p_iload_n rfl ?_
  refine p_istore_n (Nat.le_of_ble_eq_true rfl) rfl ?_
  refine p_aload_n rfl ?_
  refine p_cI (av := [_]) ⟨mok_X1_patience, Or.inl ⟨50, 27, 1, 0, _, rfl, rfl, rfl, gt_27, rfl, ins_X1_patience, Or.inl lk_X1_50⟩⟩ (Nat.le_of_ble_eq_true rfl) (Nat.le_of_ble_eq_true rfl) rfl (fun _ h => pc_X1_patience_27 hl h) h (fun v751 M750 h => ?_)
  refine p_istore (Nat.le_of_ble_eq_true rfl) rfl ?_
  refine p_iconst cn_1 ?_
  refine p_istore (Nat.le_of_ble_eq_true rfl) rfl ?_
  refine p_iload_n rfl ?_
  refine p_istore (Nat.le_of_ble_eq_true rfl) rfl ?_
  exact p_fg (S_X1_nthFrom_27_14 hl FUEL h) ⟨Or.inr rfl, Or.inl rfl, Or.inl rfl, Or.inr rfl, Or.inr rfl, Or.inl rfl, Or.inr rfl, Or.inl rfl, Or.inl rfl, Or.inl rfl, trivial⟩
set_option maxRecDepth 100000 in
theorem pc_X1_nthFrom_27 {l : Launch} (hl : l.stackTraces = false) {M : PM} {a1 : Int32} {a2 : Int32} {r : PR} (h : F_X1_nthFrom_27 M a1 a2 = some r) : PC l 3 Y_X1_nthFrom [vR 27, vI a1, vI a2] M r := pc_of hl (by decide +kernel) cok_X1_nthFrom (Nat.le_of_ble_eq_true rfl) rfl (S_X1_nthFrom_27 hl  h) rfl
def F_X9_endOf_89 (M : PM) (a1 : Int32) (a2 : Int32) : Option PR := cI (F_X9_isWork_89 M a1) fun v753 M752 => (if v753 = 0 then some (.inl (some (.int (-1))), M752) else if ixOK a1 8 = true then cV (F_X1_bar_27 M752 (mA M752 26 a1.toNatClampNeg) 0) fun M754 => if ixOK a1 8 = true then cI (F_X1_nthFrom_27 M754 a2 (mA M754 25 a1.toNatClampNeg)) fun v756 M755 => some (.inl (some (.int v756)), M755) else none else none)
set_option maxRecDepth 100000 in
theorem S_X9_endOf_89 {l : Launch} (hl : l.stackTraces = false) {M : PM} {a1 : Int32} {a2 : Int32} {r : PR} (h : F_X9_endOf_89 M a1 a2 = some r) : PW l 4 Y_X9_endOf k_X9_endOf [vR 89, vI a1, vI a2] [] M r := by
  unfold F_X9_endOf_89 at h
  refine p_aload_n rfl ?_
  refine p_iload_n rfl ?_
  refine p_cI (av := [_, _]) ⟨mok_X9_isWork, Or.inl ⟨35, 89, 9, 0, _, rfl, rfl, rfl, gt_89, rfl, ins_X9_isWork, Or.inl lk_X9_35⟩⟩ (Nat.le_of_ble_eq_true rfl) (Nat.le_of_ble_eq_true rfl) rfl (fun _ h => pc_X9_isWork_89 hl h) h (fun v753 M752 h => ?_)
  refine p_if_ne h 6 rfl rfl (fun _ h => ?_) (fun _ h => ?_)
  · refine p_iconst cn_m1 ?_
    exact p_iret rfl h
  · refine p_aload_n rfl ?_
    refine p_getR fk_X9_21 gt_89 rfl rfl ?_
    refine p_aload_n rfl ?_
    refine p_getR fk_X9_25 gt_89 rfl rfl ?_
    refine p_getR fk_X9_39 gt_16 rfl rfl ?_
    refine p_iload_n rfl ?_
    refine p_iald gt_26 h (fun h => ?_)
    refine p_iconst cn_0 ?_
    refine p_cV (av := [_, _, _]) ⟨mok_X1_bar, Or.inl ⟨42, 27, 1, 0, _, rfl, rfl, rfl, gt_27, rfl, ins_X1_bar, Or.inr lk_X9_42⟩⟩ (Nat.le_of_ble_eq_true rfl) (Nat.le_of_ble_eq_true rfl) rfl (fun _ h => pc_X1_bar_27 hl h) h (fun M754 h => ?_)
    refine p_aload_n rfl ?_
    refine p_getR fk_X9_21 gt_89 rfl rfl ?_
    refine p_iload_n rfl ?_
    refine p_aload_n rfl ?_
    refine p_getR fk_X9_25 gt_89 rfl rfl ?_
    refine p_getR fk_X9_48 gt_16 rfl rfl ?_
    refine p_iload_n rfl ?_
    refine p_iald gt_25 h (fun h => ?_)
    refine p_cI (av := [_, _, _]) ⟨mok_X1_nthFrom, Or.inl ⟨51, 27, 1, 0, _, rfl, rfl, rfl, gt_27, rfl, ins_X1_nthFrom, Or.inr lk_X9_51⟩⟩ (Nat.le_of_ble_eq_true rfl) (Nat.le_of_ble_eq_true rfl) rfl (fun _ h => pc_X1_nthFrom_27 hl h) h (fun v756 M755 h => ?_)
    exact p_iret rfl h
set_option maxRecDepth 100000 in
theorem pc_X9_endOf_89 {l : Launch} (hl : l.stackTraces = false) {M : PM} {a1 : Int32} {a2 : Int32} {r : PR} (h : F_X9_endOf_89 M a1 a2 = some r) : PC l 4 Y_X9_endOf [vR 89, vI a1, vI a2] M r := pc_of hl (by decide +kernel) cok_X9_endOf (Nat.le_of_ble_eq_true rfl) rfl (S_X9_endOf_89 hl  h) rfl
def F_X10_done_0 (M : PM) (a1 : Int32) (a2 : Int32) : Option PR := bV (F_X10_needDay_0 M a2) fun M757 => bV (F_X10_needWork_0 M757 a1) fun M758 => cI (F_X9_endOf_89 M758 a1 a2) fun v760 M759 => some (.inl (some (.int v760)), M759)
set_option maxRecDepth 100000 in
theorem S_X10_done_0 {l : Launch} (hl : l.stackTraces = false) {M : PM} {a1 : Int32} {a2 : Int32} {r : PR} (h : F_X10_done_0 M a1 a2 = some r) : PW l 8 Y_X10_done k_X10_done [vR 0, vI a1, vI a2] [] M r := by
  unfold F_X10_done_0 at h
  refine p_aload_n rfl ?_
  refine p_iload_n rfl ?_
  refine p_bV mok_X10_needDay rfl gt_0 rfl ins_X10_needDay lk_X10_182 (Nat.le_of_ble_eq_true rfl) (Nat.le_of_ble_eq_true rfl) rfl (fun _ h => pc_X10_needDay_0 hl h) h (fun M757 h => ?_)
  refine p_aload_n rfl ?_
  refine p_iload_n rfl ?_
  refine p_bV mok_X10_needWork rfl gt_0 rfl ins_X10_needWork lk_X10_313 (Nat.le_of_ble_eq_true rfl) (Nat.le_of_ble_eq_true rfl) rfl (fun _ h => pc_X10_needWork_0 hl h) h (fun M758 h => ?_)
  refine p_aload_n rfl ?_
  refine p_getR fk_X10_72 gt_0 rfl rfl ?_
  refine p_iload_n rfl ?_
  refine p_iload_n rfl ?_
  refine p_cI (av := [_, _, _]) ⟨mok_X9_endOf, Or.inl ⟨316, 89, 9, 0, _, rfl, rfl, rfl, gt_89, rfl, ins_X9_endOf, Or.inr lk_X10_316⟩⟩ (Nat.le_of_ble_eq_true rfl) (Nat.le_of_ble_eq_true rfl) rfl (fun _ h => pc_X9_endOf_89 hl h) h (fun v760 M759 h => ?_)
  exact p_iret rfl h
set_option maxRecDepth 100000 in
theorem pc_X10_done_0 {l : Launch} (hl : l.stackTraces = false) {M : PM} {a1 : Int32} {a2 : Int32} {r : PR} (h : F_X10_done_0 M a1 a2 = some r) : PC l 8 Y_X10_done [vR 0, vI a1, vI a2] M r := pc_of hl (by decide +kernel) cok_X10_done (Nat.le_of_ble_eq_true rfl) rfl (S_X10_done_0 hl  h) rfl
def F_X1_walkFrom_27 (M : PM) (a1 : Int32) : Option PR := some (.inl none, sJ (sI (sI M 27 5 a1) 27 6 a1) 27 7 (0 : Int64))
set_option maxRecDepth 100000 in
theorem S_X1_walkFrom_27 {l : Launch} (hl : l.stackTraces = false) {M : PM} {a1 : Int32} {r : PR} (h : F_X1_walkFrom_27 M a1 = some r) : PW l 0 Y_X1_walkFrom k_X1_walkFrom [vR 27, vI a1] [] M r := by
  unfold F_X1_walkFrom_27 at h
  refine p_aload_n rfl ?_
  refine p_iload_n rfl ?_
  refine p_putI fk_X1_84 gt_27 rfl ?_
  refine p_aload_n rfl ?_
  refine p_iload_n rfl ?_
  refine p_putI fk_X1_87 gt_27 rfl ?_
  refine p_aload_n rfl ?_
  refine p_lconst cl_0 ?_
  refine p_putJ fk_X1_90 gt_27 rfl ?_
  exact p_ret rfl h
set_option maxRecDepth 100000 in
theorem pc_X1_walkFrom_27 {l : Launch} (hl : l.stackTraces = false) {M : PM} {a1 : Int32} {r : PR} (h : F_X1_walkFrom_27 M a1 = some r) : PC l 0 Y_X1_walkFrom [vR 27, vI a1] M r := pc_of hl (by decide +kernel) cok_X1_walkFrom (Nat.le_of_ble_eq_true rfl) rfl (S_X1_walkFrom_27 hl  h) rfl
def F_X1_walkOn_27_94 (M : PM)  : Option PR := (if lg_cmp (mJ M 27 7) (0 : Int64) = 0 then some (.inl (some (.int (-1))), M) else cI (F_X10_lowest M (mJ M 27 7)) fun v762 M761 => lt ((mI M 27 5) + v762) fun y763 => some (.inl (some (.int y763)), sJ M761 27 7 ((mJ M761 27 7) &&& ((mJ M761 27 7) - (1 : Int64)))))
def F_X1_walkOn_27_7 : Nat → PM → Int32 → Option PR
  | 0, _, _ => none
  | n + 1, M, x2 => (if lg_cmp (mJ M 27 7) (0 : Int64) = 0 then (if 999999999 < mI M 27 6 then F_X1_walkOn_27_94 M else (if x2 ≤ 0 then F_X1_walkOn_27_94 M else cI (F_X0_stretchFrom_3 M (mI M 27 6)) fun v765 M764 => cI (F_X0_turnsOn_3 (sI M764 27 5 (mI M764 27 6)) (mI (sI M764 27 5 (mI M764 27 6)) 27 5)) fun v767 M766 => cJ (F_X1_daysFrom_27 M766 v767) fun v769 M768 => cJ (F_X10_low M768 v765) fun v771 M770 => cI (F_J9_max_7cf53 (sI (sJ M770 27 7 (v769 &&& v771)) 27 6 ((mI (sJ M770 27 7 (v769 &&& v771)) 27 5) + v765)) v765 1) fun v773 M772 => lt (x2 - v773) fun y774 => F_X1_walkOn_27_7 n M772 y774)) else F_X1_walkOn_27_94 M)
def F_X1_walkOn_27 (M : PM)  : Option PR := cI (F_X1_patience_27 M) fun v776 M775 => F_X1_walkOn_27_7 FUEL M775 v776
set_option maxRecDepth 100000 in
theorem S_X1_walkOn_27_94 {l : Launch} (hl : l.stackTraces = false) {M : PM}  {r : PR} (h : F_X1_walkOn_27_94  M  = some r) : PW l 3 Y_X1_walkOn k_X1_walkOn_94 [vR 27, jk, jk, jk] [] M r := by
  unfold F_X1_walkOn_27_94 at h
  refine p_aload_n rfl ?_
  refine p_getJ fk_X1_90 gt_27 rfl ?_
  refine p_lconst cl_0 ?_
  refine p_lcmp ?_
  refine p_if_ne h 58 rfl rfl (fun _ h => ?_) (fun _ h => ?_)
  · refine p_iconst cn_m1 ?_
    exact p_iret rfl h
  · refine p_aload_n rfl ?_
    refine p_getI fk_X1_84 gt_27 rfl ?_
    refine p_aload_n rfl ?_
    refine p_getJ fk_X1_90 gt_27 rfl ?_
    refine p_cI (av := [_]) ⟨mok_X10_lowest, Or.inr ⟨94, rfl, rfl, sta_X10_lowest, Or.inr lk_X1_94⟩⟩ (Nat.le_of_ble_eq_true rfl) (Nat.le_of_ble_eq_true rfl) rfl (fun _ h => pc_X10_lowest hl h) h (fun v762 M761 h => ?_)
    refine p_iadd ?_
    have h := lt_h h
    refine p_istore_n (Nat.le_of_ble_eq_true rfl) rfl ?_
    refine p_aload_n rfl ?_
    refine p_dup rfl ?_
    refine p_getJ fk_X1_90 gt_27 rfl ?_
    refine p_aload_n rfl ?_
    refine p_getJ fk_X1_90 gt_27 rfl ?_
    refine p_lconst cl_1 ?_
    refine p_lsub ?_
    refine p_land ?_
    refine p_putJ fk_X1_90 gt_27 rfl ?_
    refine p_iload_n rfl ?_
    exact p_iret rfl h
set_option maxRecDepth 100000 in
theorem S_X1_walkOn_27_7 {l : Launch} (hl : l.stackTraces = false) : ∀ (n : Nat) {M : PM} {x2 : Int32} {r : PR}, F_X1_walkOn_27_7  n M x2 = some r → PW l 3 Y_X1_walkOn k_X1_walkOn_7 [vR 27, jk, vI x2, jk] [] M r := by
  intro n
  induction n with
  | zero => intro M x2 r h; exact nomatch (show (none : Option PR) = some r from h)
  | succ n ih =>
    intro M x2 r h
    rw [F_X1_walkOn_27_7] at h
    refine p_aload_n rfl ?_
    refine p_getJ fk_X1_90 gt_27 rfl ?_
    refine p_lconst cl_0 ?_
    refine p_lcmp ?_
    refine p_if_ne h 51 rfl rfl (fun _ h => ?_) (fun _ h => ?_)
    · refine p_aload_n rfl ?_
      refine p_getI fk_X1_87 gt_27 rfl ?_
      refine p_ldc co_X1_54 ?_
      refine p_icmp_gt h 51 rfl rfl (fun _ h => ?_) (fun _ h => ?_)
      · exact p_fg (S_X1_walkOn_27_94 hl h) ⟨Or.inr rfl, Or.inl rfl, Or.inl rfl, Or.inl rfl, trivial⟩
      · refine p_iload_n rfl ?_
        refine p_if_le h 51 rfl rfl (fun _ h => ?_) (fun _ h => ?_)
        · exact p_fg (S_X1_walkOn_27_94 hl h) ⟨Or.inr rfl, Or.inl rfl, Or.inl rfl, Or.inl rfl, trivial⟩
        · refine p_aload_n rfl ?_
          refine p_getR fk_X1_19 gt_27 rfl rfl ?_
          refine p_aload_n rfl ?_
          refine p_getI fk_X1_87 gt_27 rfl ?_
          refine p_cI (av := [_, _]) ⟨mok_X0_stretchFrom, Or.inl ⟨55, 3, 0, 0, _, rfl, rfl, rfl, gt_3, rfl, ins_X0_stretchFrom, Or.inr lk_X1_55⟩⟩ (Nat.le_of_ble_eq_true rfl) (Nat.le_of_ble_eq_true rfl) rfl (fun _ h => pc_X0_stretchFrom_3 hl h) h (fun v765 M764 h => ?_)
          refine p_istore_n (Nat.le_of_ble_eq_true rfl) rfl ?_
          refine p_aload_n rfl ?_
          refine p_aload_n rfl ?_
          refine p_getI fk_X1_87 gt_27 rfl ?_
          refine p_putI fk_X1_84 gt_27 rfl ?_
          refine p_aload_n rfl ?_
          refine p_aload_n rfl ?_
          refine p_aload_n rfl ?_
          refine p_getR fk_X1_19 gt_27 rfl rfl ?_
          refine p_aload_n rfl ?_
          refine p_getI fk_X1_84 gt_27 rfl ?_
          refine p_cI (av := [_, _]) ⟨mok_X0_turnsOn, Or.inl ⟨59, 3, 0, 0, _, rfl, rfl, rfl, gt_3, rfl, ins_X0_turnsOn, Or.inr lk_X1_59⟩⟩ (Nat.le_of_ble_eq_true rfl) (Nat.le_of_ble_eq_true rfl) rfl (fun _ h => pc_X0_turnsOn_3 hl h) h (fun v767 M766 h => ?_)
          refine p_cJ (av := [_, _]) ⟨mok_X1_daysFrom, Or.inl ⟨62, 27, 1, 0, _, rfl, rfl, rfl, gt_27, rfl, ins_X1_daysFrom, Or.inl lk_X1_62⟩⟩ (Nat.le_of_ble_eq_true rfl) (Nat.le_of_ble_eq_true rfl) rfl (fun _ h => pc_X1_daysFrom_27 hl h) h (fun v769 M768 h => ?_)
          refine p_iload_n rfl ?_
          refine p_cJ (av := [_]) ⟨mok_X10_low, Or.inr ⟨66, rfl, rfl, sta_X10_low, Or.inr lk_X1_66⟩⟩ (Nat.le_of_ble_eq_true rfl) (Nat.le_of_ble_eq_true rfl) rfl (fun _ h => pc_X10_low hl h) h (fun v771 M770 h => ?_)
          refine p_land ?_
          refine p_putJ fk_X1_90 gt_27 rfl ?_
          refine p_aload_n rfl ?_
          refine p_aload_n rfl ?_
          refine p_getI fk_X1_84 gt_27 rfl ?_
          refine p_iload_n rfl ?_
          refine p_iadd ?_
          refine p_putI fk_X1_87 gt_27 rfl ?_
          refine p_iload_n rfl ?_
          refine p_iload_n rfl ?_
          refine p_iconst cn_1 ?_
          refine p_cI (av := [_, _]) ⟨mok_J9_max_7cf53, Or.inr ⟨79, rfl, rfl, sta_J9_max_7cf53, Or.inl lk_X1_79⟩⟩ (Nat.le_of_ble_eq_true rfl) (Nat.le_of_ble_eq_true rfl) rfl (fun _ h => pc_J9_max_7cf53 hl h) h (fun v773 M772 h => ?_)
          refine p_isub ?_
          have h := lt_h h
          refine p_istore_n (Nat.le_of_ble_eq_true rfl) rfl ?_
          refine p_goto 5 rfl rfl ?_
          exact p_fg (ih h) ⟨Or.inr rfl, Or.inl rfl, Or.inr rfl, Or.inl rfl, trivial⟩
    · exact p_fg (S_X1_walkOn_27_94 hl h) ⟨Or.inr rfl, Or.inl rfl, Or.inl rfl, Or.inl rfl, trivial⟩
set_option maxRecDepth 100000 in
theorem S_X1_walkOn_27 {l : Launch} (hl : l.stackTraces = false) {M : PM}  {r : PR} (h : F_X1_walkOn_27 M  = some r) : PW l 3 Y_X1_walkOn k_X1_walkOn [vR 27, jk, jk, jk] [] M r := by
  unfold F_X1_walkOn_27 at h
  refine p_iconst cn_1 ?_
  refine p_istore_n (Nat.le_of_ble_eq_true rfl) rfl ?_
  refine p_aload_n rfl ?_
  refine p_cI (av := [_]) ⟨mok_X1_patience, Or.inl ⟨50, 27, 1, 0, _, rfl, rfl, rfl, gt_27, rfl, ins_X1_patience, Or.inl lk_X1_50⟩⟩ (Nat.le_of_ble_eq_true rfl) (Nat.le_of_ble_eq_true rfl) rfl (fun _ h => pc_X1_patience_27 hl h) h (fun v776 M775 h => ?_)
  refine p_istore_n (Nat.le_of_ble_eq_true rfl) rfl ?_
  exact p_fg (S_X1_walkOn_27_7 hl FUEL h) ⟨Or.inr rfl, Or.inl rfl, Or.inr rfl, Or.inl rfl, trivial⟩
set_option maxRecDepth 100000 in
theorem pc_X1_walkOn_27 {l : Launch} (hl : l.stackTraces = false) {M : PM}  {r : PR} (h : F_X1_walkOn_27 M  = some r) : PC l 3 Y_X1_walkOn [vR 27] M r := pc_of hl (by decide +kernel) cok_X1_walkOn (Nat.le_of_ble_eq_true rfl) rfl (S_X1_walkOn_27 hl  h) rfl
def F_X9_bestBegin_89_181 (k56 : PM → Int32 → Int32 → Int32 → Int32 → Int32 → Option PR) (M : PM) (x3 : Int32) (x4 : Int32) (x5 : Int32) (x6 : Int32) (x7 : Int32) : Option PR := lt (x7 + 1) fun y777 => k56 M x3 x4 x5 x6 y777
def F_X9_bestBegin_89_165 (k56 : PM → Int32 → Int32 → Int32 → Int32 → Int32 → Option PR) (M : PM) (x3 : Int32) (x4 : Int32) (x5 : Int32) (x6 : Int32) (x7 : Int32) (x9 : Int32) : Option PR := (if x3 < x9 then some (.inl (some (.int x5)), M) else (if x6 = x4 then some (.inl (some (.int x5)), M) else F_X9_bestBegin_89_181 k56 M x3 x4 x5 x6 x7))
def F_X9_bestBegin_89_56 : Nat → PM → Int32 → Int32 → Int32 → Int32 → Int32 → Option PR
  | 0, _, _, _, _, _, _ => none
  | n + 1, M, x3, x4, x5, x6, x7 => (if 100060 < x7 then some (.inl (some (.int x5)), M) else cI (F_X1_walkOn_27 M) fun v779 M778 => (if v779 = (-1) then some (.inl (some (.int x5)), M778) else (if x4 < 1 then some (.inl (some (.int x5)), M778) else (if x4 ≤ 60 then if x4 = 0 then none else if ixOK (x7 - x7 / x4 * x4) 60 = true then (if x7 < x4 - 1 then F_X9_bestBegin_89_181 (F_X9_bestBegin_89_56 n) (sA M778 92 (x7 - x7 / x4 * x4).toNatClampNeg v779) x3 x4 x5 x6 x7 else if x4 = 0 then none else if ixOK ((x7 + 1) - (x7 + 1) / x4 * x4) 60 = true then lt (mA (sA M778 92 (x7 - x7 / x4 * x4).toNatClampNeg v779) 92 ((x7 + 1) - (x7 + 1) / x4 * x4).toNatClampNeg) fun y780 => cI (F_J9_min_7cf53 (sA M778 92 (x7 - x7 / x4 * x4).toNatClampNeg v779) y780 x3) fun v782 M781 => (if x6 ≤ (v779 - v782) + 1 then F_X9_bestBegin_89_165 (F_X9_bestBegin_89_56 n) M781 x3 x4 x5 x6 x7 y780 else lt ((v779 - v782) + 1) fun y783 => F_X9_bestBegin_89_165 (F_X9_bestBegin_89_56 n) M781 x3 x4 v782 y783 x7 y780) else none) else none else some (.inl (some (.int x5)), M778)))))
def F_X9_bestBegin_89 (M : PM) (a1 : Int32) (a2 : Int32) (a3 : Int32) : Option PR := cI (F_X9_isWork_89 M a1) fun v785 M784 => (if v785 = 0 then some (.inl (some (.int (-1))), M784) else if ixOK a1 8 = true then lt (mA M784 25 a1.toNatClampNeg) fun y786 => if ixOK a1 8 = true then cV (F_X1_bar_27 M784 (mA M784 26 a1.toNatClampNeg) 0) fun M787 => cV (F_X1_walkFrom_27 M787 a2) fun M788 => F_X9_bestBegin_89_56 FUEL M788 a3 y786 (-1) 1000000001 0 else none else none)
set_option maxRecDepth 100000 in
theorem S_X9_bestBegin_89_181 {l : Launch} (hl : l.stackTraces = false) {k56 : PM → Int32 → Int32 → Int32 → Int32 → Int32 → Option PR} (hk56 : ∀ {M : PM} {x3 : Int32} {x4 : Int32} {x5 : Int32} {x6 : Int32} {x7 : Int32} {r : PR}, k56 M x3 x4 x5 x6 x7 = some r → PW l 4 Y_X9_bestBegin k_X9_bestBegin_56 [vR 89, jk, jk, vI x3, vI x4, vI x5, vI x6, vI x7, jk, jk, jk] [] M r) {M : PM} {x3 : Int32} {x4 : Int32} {x5 : Int32} {x6 : Int32} {x7 : Int32} {r : PR} (h : F_X9_bestBegin_89_181 k56 M x3 x4 x5 x6 x7 = some r) : PW l 4 Y_X9_bestBegin k_X9_bestBegin_181 [vR 89, jk, jk, vI x3, vI x4, vI x5, vI x6, vI x7, jk, jk, jk] [] M r := by
  unfold F_X9_bestBegin_89_181 at h
  have h := lt_h h
  refine p_iinc (Nat.le_of_ble_eq_true rfl) rfl (ci_1 _) rfl ?_
  refine p_goto 31 rfl rfl ?_
  exact p_fg (hk56 h) ⟨Or.inr rfl, Or.inl rfl, Or.inl rfl, Or.inr rfl, Or.inr rfl, Or.inr rfl, Or.inr rfl, Or.inr rfl, Or.inl rfl, Or.inl rfl, Or.inl rfl, trivial⟩
set_option maxRecDepth 100000 in
theorem S_X9_bestBegin_89_165 {l : Launch} (hl : l.stackTraces = false) {k56 : PM → Int32 → Int32 → Int32 → Int32 → Int32 → Option PR} (hk56 : ∀ {M : PM} {x3 : Int32} {x4 : Int32} {x5 : Int32} {x6 : Int32} {x7 : Int32} {r : PR}, k56 M x3 x4 x5 x6 x7 = some r → PW l 4 Y_X9_bestBegin k_X9_bestBegin_56 [vR 89, jk, jk, vI x3, vI x4, vI x5, vI x6, vI x7, jk, jk, jk] [] M r) {M : PM} {x3 : Int32} {x4 : Int32} {x5 : Int32} {x6 : Int32} {x7 : Int32} {x9 : Int32} {r : PR} (h : F_X9_bestBegin_89_165 k56 M x3 x4 x5 x6 x7 x9 = some r) : PW l 4 Y_X9_bestBegin k_X9_bestBegin_165 [vR 89, jk, jk, vI x3, vI x4, vI x5, vI x6, vI x7, jk, vI x9, jk] [] M r := by
  unfold F_X9_bestBegin_89_165 at h
  refine p_iload rfl ?_
  refine p_iload_n rfl ?_
  refine p_icmp_gt h 97 rfl rfl (fun _ h => ?_) (fun _ h => ?_)
  · refine p_iload rfl ?_
    exact p_iret rfl h
  · refine p_iload rfl ?_
    refine p_iload rfl ?_
    refine p_icmp_ne h 99 rfl rfl (fun _ h => ?_) (fun _ h => ?_)
    · refine p_iload rfl ?_
      exact p_iret rfl h
    · exact p_fg (S_X9_bestBegin_89_181 hl hk56 h) ⟨Or.inr rfl, Or.inl rfl, Or.inl rfl, Or.inr rfl, Or.inr rfl, Or.inr rfl, Or.inr rfl, Or.inr rfl, Or.inl rfl, Or.inl rfl, Or.inl rfl, trivial⟩
set_option maxRecDepth 100000 in
theorem S_X9_bestBegin_89_56 {l : Launch} (hl : l.stackTraces = false) : ∀ (n : Nat) {M : PM} {x3 : Int32} {x4 : Int32} {x5 : Int32} {x6 : Int32} {x7 : Int32} {r : PR}, F_X9_bestBegin_89_56  n M x3 x4 x5 x6 x7 = some r → PW l 4 Y_X9_bestBegin k_X9_bestBegin_56 [vR 89, jk, jk, vI x3, vI x4, vI x5, vI x6, vI x7, jk, jk, jk] [] M r := by
  intro n
  induction n with
  | zero => intro M x3 x4 x5 x6 x7 r h; exact nomatch (show (none : Option PR) = some r from h)
  | succ n ih =>
    intro M x3 x4 x5 x6 x7 r h
    rw [F_X9_bestBegin_89_56] at h
    refine p_iload rfl ?_
    refine p_ldc co_X9_64 ?_
    refine p_icmp_gt h 101 rfl rfl (fun _ h => ?_) (fun _ h => ?_)
    · refine p_iload rfl ?_
      exact p_iret rfl h
    · refine p_aload_n rfl ?_
      refine p_getR fk_X9_21 gt_89 rfl rfl ?_
      refine p_cI (av := [_]) ⟨mok_X1_walkOn, Or.inl ⟨65, 27, 1, 0, _, rfl, rfl, rfl, gt_27, rfl, ins_X1_walkOn, Or.inr lk_X9_65⟩⟩ (Nat.le_of_ble_eq_true rfl) (Nat.le_of_ble_eq_true rfl) rfl (fun _ h => pc_X1_walkOn_27 hl h) h (fun v779 M778 h => ?_)
      refine p_istore (Nat.le_of_ble_eq_true rfl) rfl ?_
      refine p_iload rfl ?_
      refine p_iconst cn_m1 ?_
      refine p_icmp_eq h 49 rfl rfl (fun _ h => ?_) (fun _ h => ?_)
      · refine p_iload rfl ?_
        exact p_iret rfl h
      · refine p_iload rfl ?_
        refine p_iconst cn_1 ?_
        refine p_icmp_lt h 49 rfl rfl (fun _ h => ?_) (fun _ h => ?_)
        · refine p_iload rfl ?_
          exact p_iret rfl h
        · refine p_iload rfl ?_
          refine p_aload_n rfl ?_
          refine p_getR fk_X9_18 gt_89 rfl rfl ?_
          refine p_alen gt_92 (by simp) al_60 ?_
          refine p_icmp_le h 51 rfl rfl (fun _ h => ?_) (fun _ h => ?_)
          · refine p_aload_n rfl ?_
            refine p_getR fk_X9_18 gt_89 rfl rfl ?_
            refine p_iload rfl ?_
            refine p_iload rfl ?_
            refine p_irem h (fun h => ?_)
            refine p_iload rfl ?_
            refine p_iast gt_92 h (fun h => ?_)
            refine p_iload rfl ?_
            refine p_iload rfl ?_
            refine p_iconst cn_1 ?_
            refine p_isub ?_
            refine p_icmp_lt h 99 rfl rfl (fun _ h => ?_) (fun _ h => ?_)
            · exact p_fg (S_X9_bestBegin_89_181 hl (fun h => ih h) h) ⟨Or.inr rfl, Or.inl rfl, Or.inl rfl, Or.inr rfl, Or.inr rfl, Or.inr rfl, Or.inr rfl, Or.inr rfl, Or.inl rfl, Or.inl rfl, Or.inl rfl, trivial⟩
            · refine p_aload_n rfl ?_
              refine p_getR fk_X9_18 gt_89 rfl rfl ?_
              refine p_iload rfl ?_
              refine p_iconst cn_1 ?_
              refine p_iadd ?_
              refine p_iload rfl ?_
              refine p_irem h (fun h => ?_)
              refine p_iald gt_92 h (fun h => ?_)
              have h := lt_h h
              refine p_istore (Nat.le_of_ble_eq_true rfl) rfl ?_
              refine p_iload rfl ?_
              refine p_iload_n rfl ?_
              refine p_cI (av := [_, _]) ⟨mok_J9_min_7cf53, Or.inr ⟨69, rfl, rfl, sta_J9_min_7cf53, Or.inl lk_X9_69⟩⟩ (Nat.le_of_ble_eq_true rfl) (Nat.le_of_ble_eq_true rfl) rfl (fun _ h => pc_J9_min_7cf53 hl h) h (fun v782 M781 h => ?_)
              refine p_istore (Nat.le_of_ble_eq_true rfl) rfl ?_
              refine p_iload rfl ?_
              refine p_iload rfl ?_
              refine p_isub ?_
              refine p_iconst cn_1 ?_
              refine p_iadd ?_
              refine p_iload rfl ?_
              refine p_icmp_ge h 91 rfl rfl (fun _ h => ?_) (fun _ h => ?_)
              · exact p_fg (S_X9_bestBegin_89_165 hl (fun h => ih h) h) ⟨Or.inr rfl, Or.inl rfl, Or.inl rfl, Or.inr rfl, Or.inr rfl, Or.inr rfl, Or.inr rfl, Or.inr rfl, Or.inl rfl, Or.inr rfl, Or.inl rfl, trivial⟩
              · refine p_iload rfl ?_
                refine p_istore (Nat.le_of_ble_eq_true rfl) rfl ?_
                refine p_iload rfl ?_
                refine p_iload rfl ?_
                refine p_isub ?_
                refine p_iconst cn_1 ?_
                refine p_iadd ?_
                have h := lt_h h
                refine p_istore (Nat.le_of_ble_eq_true rfl) rfl ?_
                exact p_fg (S_X9_bestBegin_89_165 hl (fun h => ih h) h) ⟨Or.inr rfl, Or.inl rfl, Or.inl rfl, Or.inr rfl, Or.inr rfl, Or.inr rfl, Or.inr rfl, Or.inr rfl, Or.inl rfl, Or.inr rfl, Or.inl rfl, trivial⟩
          · refine p_iload rfl ?_
            exact p_iret rfl h
set_option maxRecDepth 100000 in
theorem S_X9_bestBegin_89 {l : Launch} (hl : l.stackTraces = false) {M : PM} {a1 : Int32} {a2 : Int32} {a3 : Int32} {r : PR} (h : F_X9_bestBegin_89 M a1 a2 a3 = some r) : PW l 4 Y_X9_bestBegin k_X9_bestBegin [vR 89, vI a1, vI a2, vI a3, jk, jk, jk, jk, jk, jk, jk] [] M r := by
  unfold F_X9_bestBegin_89 at h
  refine p_aload_n rfl ?_
  refine p_iload_n rfl ?_
  refine p_cI (av := [_, _]) ⟨mok_X9_isWork, Or.inl ⟨35, 89, 9, 0, _, rfl, rfl, rfl, gt_89, rfl, ins_X9_isWork, Or.inl lk_X9_35⟩⟩ (Nat.le_of_ble_eq_true rfl) (Nat.le_of_ble_eq_true rfl) rfl (fun _ h => pc_X9_isWork_89 hl h) h (fun v785 M784 h => ?_)
  refine p_if_ne h 6 rfl rfl (fun _ h => ?_) (fun _ h => ?_)
  · refine p_iconst cn_m1 ?_
    exact p_iret rfl h
  · refine p_aload_n rfl ?_
    refine p_getR fk_X9_25 gt_89 rfl rfl ?_
    refine p_getR fk_X9_48 gt_16 rfl rfl ?_
    refine p_iload_n rfl ?_
    refine p_iald gt_25 h (fun h => ?_)
    have h := lt_h h
    refine p_istore (Nat.le_of_ble_eq_true rfl) rfl ?_
    refine p_aload_n rfl ?_
    refine p_getR fk_X9_21 gt_89 rfl rfl ?_
    refine p_aload_n rfl ?_
    refine p_getR fk_X9_25 gt_89 rfl rfl ?_
    refine p_getR fk_X9_39 gt_16 rfl rfl ?_
    refine p_iload_n rfl ?_
    refine p_iald gt_26 h (fun h => ?_)
    refine p_iconst cn_0 ?_
    refine p_cV (av := [_, _, _]) ⟨mok_X1_bar, Or.inl ⟨42, 27, 1, 0, _, rfl, rfl, rfl, gt_27, rfl, ins_X1_bar, Or.inr lk_X9_42⟩⟩ (Nat.le_of_ble_eq_true rfl) (Nat.le_of_ble_eq_true rfl) rfl (fun _ h => pc_X1_bar_27 hl h) h (fun M787 h => ?_)
    refine p_aload_n rfl ?_
    refine p_getR fk_X9_21 gt_89 rfl rfl ?_
    refine p_iload_n rfl ?_
    refine p_cV (av := [_, _]) ⟨mok_X1_walkFrom, Or.inl ⟨59, 27, 1, 0, _, rfl, rfl, rfl, gt_27, rfl, ins_X1_walkFrom, Or.inr lk_X9_59⟩⟩ (Nat.le_of_ble_eq_true rfl) (Nat.le_of_ble_eq_true rfl) rfl (fun _ h => pc_X1_walkFrom_27 hl h) h (fun M788 h => ?_)
    refine p_iconst cn_m1 ?_
    refine p_istore (Nat.le_of_ble_eq_true rfl) rfl ?_
    refine p_ldc co_X9_63 ?_
    refine p_istore (Nat.le_of_ble_eq_true rfl) rfl ?_
    refine p_iconst cn_0 ?_
    refine p_istore (Nat.le_of_ble_eq_true rfl) rfl ?_
    exact p_fg (S_X9_bestBegin_89_56 hl FUEL h) ⟨Or.inr rfl, Or.inl rfl, Or.inl rfl, Or.inr rfl, Or.inr rfl, Or.inr rfl, Or.inr rfl, Or.inr rfl, Or.inl rfl, Or.inl rfl, Or.inl rfl, trivial⟩
set_option maxRecDepth 100000 in
theorem pc_X9_bestBegin_89 {l : Launch} (hl : l.stackTraces = false) {M : PM} {a1 : Int32} {a2 : Int32} {a3 : Int32} {r : PR} (h : F_X9_bestBegin_89 M a1 a2 a3 = some r) : PC l 4 Y_X9_bestBegin [vR 89, vI a1, vI a2, vI a3] M r := pc_of hl (by decide +kernel) cok_X9_bestBegin (Nat.le_of_ble_eq_true rfl) rfl (S_X9_bestBegin_89 hl  h) rfl
def F_X10_begun_0 (M : PM) (a1 : Int32) (a2 : Int32) : Option PR := bV (F_X10_needDay_0 M a2) fun M789 => bV (F_X10_needWork_0 M789 a1) fun M790 => cI (F_J9_min_7cf53 M790 ((a2 + (mI M790 3 6)) - 1) 999999999) fun v792 M791 => cI (F_X9_bestBegin_89 M791 a1 a2 v792) fun v794 M793 => some (.inl (some (.int v794)), M793)
set_option maxRecDepth 100000 in
theorem S_X10_begun_0 {l : Launch} (hl : l.stackTraces = false) {M : PM} {a1 : Int32} {a2 : Int32} {r : PR} (h : F_X10_begun_0 M a1 a2 = some r) : PW l 8 Y_X10_begun k_X10_begun [vR 0, vI a1, vI a2] [] M r := by
  unfold F_X10_begun_0 at h
  refine p_aload_n rfl ?_
  refine p_iload_n rfl ?_
  refine p_bV mok_X10_needDay rfl gt_0 rfl ins_X10_needDay lk_X10_182 (Nat.le_of_ble_eq_true rfl) (Nat.le_of_ble_eq_true rfl) rfl (fun _ h => pc_X10_needDay_0 hl h) h (fun M789 h => ?_)
  refine p_aload_n rfl ?_
  refine p_iload_n rfl ?_
  refine p_bV mok_X10_needWork rfl gt_0 rfl ins_X10_needWork lk_X10_313 (Nat.le_of_ble_eq_true rfl) (Nat.le_of_ble_eq_true rfl) rfl (fun _ h => pc_X10_needWork_0 hl h) h (fun M790 h => ?_)
  refine p_aload_n rfl ?_
  refine p_getR fk_X10_72 gt_0 rfl rfl ?_
  refine p_iload_n rfl ?_
  refine p_iload_n rfl ?_
  refine p_iload_n rfl ?_
  refine p_aload_n rfl ?_
  refine p_getR fk_X10_27 gt_0 rfl rfl ?_
  refine p_getI fk_X10_149 gt_3 rfl ?_
  refine p_iadd ?_
  refine p_iconst cn_1 ?_
  refine p_isub ?_
  refine p_ldc_w co_X10_319 ?_
  refine p_cI (av := [_, _]) ⟨mok_J9_min_7cf53, Or.inr ⟨293, rfl, rfl, sta_J9_min_7cf53, Or.inl lk_X10_293⟩⟩ (Nat.le_of_ble_eq_true rfl) (Nat.le_of_ble_eq_true rfl) rfl (fun _ h => pc_J9_min_7cf53 hl h) h (fun v792 M791 h => ?_)
  refine p_cI (av := [_, _, _, _]) ⟨mok_X9_bestBegin, Or.inl ⟨320, 89, 9, 0, _, rfl, rfl, rfl, gt_89, rfl, ins_X9_bestBegin, Or.inr lk_X10_320⟩⟩ (Nat.le_of_ble_eq_true rfl) (Nat.le_of_ble_eq_true rfl) rfl (fun _ h => pc_X9_bestBegin_89 hl h) h (fun v794 M793 h => ?_)
  exact p_iret rfl h
set_option maxRecDepth 100000 in
theorem pc_X10_begun_0 {l : Launch} (hl : l.stackTraces = false) {M : PM} {a1 : Int32} {a2 : Int32} {r : PR} (h : F_X10_begun_0 M a1 a2 = some r) : PC l 8 Y_X10_begun [vR 0, vI a1, vI a2] M r := pc_of hl (by decide +kernel) cok_X10_begun (Nat.le_of_ble_eq_true rfl) rfl (S_X10_begun_0 hl  h) rfl
def F_X9_earliestBehind_89_84 (k4 : PM → Int32 → Int32 → Int32 → Option PR) (M : PM) (x1 : Int32) (x2 : Int32) (x3 : Int32) : Option PR := lt (x3 + 1) fun y795 => k4 M x1 x2 y795
def F_X9_earliestBehind_89_83 (k4 : PM → Int32 → Int32 → Int32 → Option PR) (M : PM) (x1 : Int32) (x3 : Int32) (t0 : Int32) : Option PR := F_X9_earliestBehind_89_84 k4 M x1 t0 x3
def F_X9_earliestBehind_89_82 (k4 : PM → Int32 → Int32 → Int32 → Option PR) (M : PM) (x1 : Int32) (x2 : Int32) (x3 : Int32) : Option PR := F_X9_earliestBehind_89_83 k4 M x1 x3 x2
def F_X9_earliestBehind_89_75 (k4 : PM → Int32 → Int32 → Int32 → Option PR) (M : PM) (x1 : Int32) (x3 : Int32) (x5 : Int32) : Option PR := F_X9_earliestBehind_89_83 k4 M x1 x3 (x5 + 1)
def F_X9_earliestBehind_89_4 : Nat → PM → Int32 → Int32 → Int32 → Option PR
  | 0, _, _, _, _ => none
  | n + 1, M, x1, x2, x3 => (if mI M 16 12 ≤ x3 then some (.inl (some (.int x2)), M) else if ixOK ((x1 &&& ((1 <<< (x3 &&& 31)) ^^^ (-1))) &&& 255) 256 = true then lt (mA M 90 ((x1 &&& ((1 <<< (x3 &&& 31)) ^^^ (-1))) &&& 255).toNatClampNeg) fun y796 => cI (F_X10_isIn M x3 x1) fun v798 M797 => (if v798 = 0 then F_X9_earliestBehind_89_84 (F_X9_earliestBehind_89_4 n) M797 x1 x2 x3 else (if y796 = (-1) then F_X9_earliestBehind_89_84 (F_X9_earliestBehind_89_4 n) M797 x1 x2 x3 else cI (F_X9_endOf_89 M797 x3 y796) fun v800 M799 => (if v800 = (-1) then F_X9_earliestBehind_89_82 (F_X9_earliestBehind_89_4 n) M799 x1 x2 x3 else (if x2 = (-1) then F_X9_earliestBehind_89_75 (F_X9_earliestBehind_89_4 n) M799 x1 x3 v800 else (if x2 ≤ v800 + 1 then F_X9_earliestBehind_89_82 (F_X9_earliestBehind_89_4 n) M799 x1 x2 x3 else F_X9_earliestBehind_89_75 (F_X9_earliestBehind_89_4 n) M799 x1 x3 v800))))) else none)
def F_X9_earliestBehind_89 (M : PM) (a1 : Int32) : Option PR := F_X9_earliestBehind_89_4 FUEL M a1 (-1) 0
set_option maxRecDepth 100000 in
theorem S_X9_earliestBehind_89_84 {l : Launch} (hl : l.stackTraces = false) {k4 : PM → Int32 → Int32 → Int32 → Option PR} (hk4 : ∀ {M : PM} {x1 : Int32} {x2 : Int32} {x3 : Int32} {r : PR}, k4 M x1 x2 x3 = some r → PW l 5 Y_X9_earliestBehind k_X9_earliestBehind_4 [vR 89, vI x1, vI x2, vI x3, jk, jk] [] M r) {M : PM} {x1 : Int32} {x2 : Int32} {x3 : Int32} {r : PR} (h : F_X9_earliestBehind_89_84 k4 M x1 x2 x3 = some r) : PW l 5 Y_X9_earliestBehind k_X9_earliestBehind_84 [vR 89, vI x1, vI x2, vI x3, jk, jk] [] M r := by
  unfold F_X9_earliestBehind_89_84 at h
  have h := lt_h h
  refine p_iinc (Nat.le_of_ble_eq_true rfl) rfl (ci_1 _) rfl ?_
  refine p_goto 4 rfl rfl ?_
  exact p_fg (hk4 h) ⟨Or.inr rfl, Or.inr rfl, Or.inr rfl, Or.inr rfl, Or.inl rfl, Or.inl rfl, trivial⟩
set_option maxRecDepth 100000 in
theorem S_X9_earliestBehind_89_83 {l : Launch} (hl : l.stackTraces = false) {k4 : PM → Int32 → Int32 → Int32 → Option PR} (hk4 : ∀ {M : PM} {x1 : Int32} {x2 : Int32} {x3 : Int32} {r : PR}, k4 M x1 x2 x3 = some r → PW l 5 Y_X9_earliestBehind k_X9_earliestBehind_4 [vR 89, vI x1, vI x2, vI x3, jk, jk] [] M r) {M : PM} {x1 : Int32} {x3 : Int32} {t0 : Int32} {r : PR} (h : F_X9_earliestBehind_89_83 k4 M x1 x3 t0 = some r) : PW l 5 Y_X9_earliestBehind k_X9_earliestBehind_83 [vR 89, vI x1, jk, vI x3, jk, jk] [vI t0] M r := by
  unfold F_X9_earliestBehind_89_83 at h
  refine p_istore_n (Nat.le_of_ble_eq_true rfl) rfl ?_
  exact p_fg (S_X9_earliestBehind_89_84 hl hk4 h) ⟨Or.inr rfl, Or.inr rfl, Or.inr rfl, Or.inr rfl, Or.inl rfl, Or.inl rfl, trivial⟩
set_option maxRecDepth 100000 in
theorem S_X9_earliestBehind_89_82 {l : Launch} (hl : l.stackTraces = false) {k4 : PM → Int32 → Int32 → Int32 → Option PR} (hk4 : ∀ {M : PM} {x1 : Int32} {x2 : Int32} {x3 : Int32} {r : PR}, k4 M x1 x2 x3 = some r → PW l 5 Y_X9_earliestBehind k_X9_earliestBehind_4 [vR 89, vI x1, vI x2, vI x3, jk, jk] [] M r) {M : PM} {x1 : Int32} {x2 : Int32} {x3 : Int32} {r : PR} (h : F_X9_earliestBehind_89_82 k4 M x1 x2 x3 = some r) : PW l 5 Y_X9_earliestBehind k_X9_earliestBehind_82 [vR 89, vI x1, vI x2, vI x3, jk, jk] [] M r := by
  unfold F_X9_earliestBehind_89_82 at h
  refine p_iload_n rfl ?_
  exact p_fg (S_X9_earliestBehind_89_83 hl hk4 h) ⟨Or.inr rfl, Or.inr rfl, Or.inl rfl, Or.inr rfl, Or.inl rfl, Or.inl rfl, trivial⟩
set_option maxRecDepth 100000 in
theorem S_X9_earliestBehind_89_75 {l : Launch} (hl : l.stackTraces = false) {k4 : PM → Int32 → Int32 → Int32 → Option PR} (hk4 : ∀ {M : PM} {x1 : Int32} {x2 : Int32} {x3 : Int32} {r : PR}, k4 M x1 x2 x3 = some r → PW l 5 Y_X9_earliestBehind k_X9_earliestBehind_4 [vR 89, vI x1, vI x2, vI x3, jk, jk] [] M r) {M : PM} {x1 : Int32} {x3 : Int32} {x5 : Int32} {r : PR} (h : F_X9_earliestBehind_89_75 k4 M x1 x3 x5 = some r) : PW l 5 Y_X9_earliestBehind k_X9_earliestBehind_75 [vR 89, vI x1, jk, vI x3, jk, vI x5] [] M r := by
  unfold F_X9_earliestBehind_89_75 at h
  refine p_iload rfl ?_
  refine p_iconst cn_1 ?_
  refine p_iadd ?_
  refine p_goto 50 rfl rfl ?_
  exact p_fg (S_X9_earliestBehind_89_83 hl hk4 h) ⟨Or.inr rfl, Or.inr rfl, Or.inl rfl, Or.inr rfl, Or.inl rfl, Or.inl rfl, trivial⟩
set_option maxRecDepth 100000 in
theorem S_X9_earliestBehind_89_4 {l : Launch} (hl : l.stackTraces = false) : ∀ (n : Nat) {M : PM} {x1 : Int32} {x2 : Int32} {x3 : Int32} {r : PR}, F_X9_earliestBehind_89_4  n M x1 x2 x3 = some r → PW l 5 Y_X9_earliestBehind k_X9_earliestBehind_4 [vR 89, vI x1, vI x2, vI x3, jk, jk] [] M r := by
  intro n
  induction n with
  | zero => intro M x1 x2 x3 r h; exact nomatch (show (none : Option PR) = some r from h)
  | succ n ih =>
    intro M x1 x2 x3 r h
    rw [F_X9_earliestBehind_89_4] at h
    refine p_iload_n rfl ?_
    refine p_aload_n rfl ?_
    refine p_getR fk_X9_25 gt_89 rfl rfl ?_
    refine p_getI fk_X9_29 gt_16 rfl ?_
    refine p_icmp_ge h 53 rfl rfl (fun _ h => ?_) (fun _ h => ?_)
    · refine p_iload_n rfl ?_
      exact p_iret rfl h
    · refine p_aload_n rfl ?_
      refine p_getR fk_X9_11 gt_89 rfl rfl ?_
      refine p_iload_n rfl ?_
      refine p_iconst cn_1 ?_
      refine p_iload_n rfl ?_
      refine p_ishl ?_
      refine p_iconst cn_m1 ?_
      refine p_ixor ?_
      refine p_iand ?_
      refine p_sipush cs_255 ?_
      refine p_iand ?_
      refine p_iald gt_90 h (fun h => ?_)
      have h := lt_h h
      refine p_istore (Nat.le_of_ble_eq_true rfl) rfl ?_
      refine p_iload_n rfl ?_
      refine p_iload_n rfl ?_
      refine p_cI (av := [_, _]) ⟨mok_X10_isIn, Or.inr ⟨81, rfl, rfl, sta_X10_isIn, Or.inr lk_X9_81⟩⟩ (Nat.le_of_ble_eq_true rfl) (Nat.le_of_ble_eq_true rfl) rfl (fun _ h => pc_X10_isIn hl h) h (fun v798 M797 h => ?_)
      refine p_if_eq h 51 rfl rfl (fun _ h => ?_) (fun _ h => ?_)
      · exact p_fg (S_X9_earliestBehind_89_84 hl (fun h => ih h) h) ⟨Or.inr rfl, Or.inr rfl, Or.inr rfl, Or.inr rfl, Or.inl rfl, Or.inl rfl, trivial⟩
      · refine p_iload rfl ?_
        refine p_iconst cn_m1 ?_
        refine p_icmp_eq h 51 rfl rfl (fun _ h => ?_) (fun _ h => ?_)
        · exact p_fg (S_X9_earliestBehind_89_84 hl (fun h => ih h) h) ⟨Or.inr rfl, Or.inr rfl, Or.inr rfl, Or.inr rfl, Or.inl rfl, Or.inl rfl, trivial⟩
        · refine p_aload_n rfl ?_
          refine p_iload_n rfl ?_
          refine p_iload rfl ?_
          refine p_cI (av := [_, _, _]) ⟨mok_X9_endOf, Or.inl ⟨85, 89, 9, 0, _, rfl, rfl, rfl, gt_89, rfl, ins_X9_endOf, Or.inl lk_X9_85⟩⟩ (Nat.le_of_ble_eq_true rfl) (Nat.le_of_ble_eq_true rfl) rfl (fun _ h => pc_X9_endOf_89 hl h) h (fun v800 M799 h => ?_)
          refine p_istore (Nat.le_of_ble_eq_true rfl) rfl ?_
          refine p_iload rfl ?_
          refine p_iconst cn_m1 ?_
          refine p_icmp_eq h 49 rfl rfl (fun _ h => ?_) (fun _ h => ?_)
          · exact p_fg (S_X9_earliestBehind_89_82 hl (fun h => ih h) h) ⟨Or.inr rfl, Or.inr rfl, Or.inr rfl, Or.inr rfl, Or.inl rfl, Or.inl rfl, trivial⟩
          · refine p_iload_n rfl ?_
            refine p_iconst cn_m1 ?_
            refine p_icmp_eq h 45 rfl rfl (fun _ h => ?_) (fun _ h => ?_)
            · exact p_fg (S_X9_earliestBehind_89_75 hl (fun h => ih h) h) ⟨Or.inr rfl, Or.inr rfl, Or.inl rfl, Or.inr rfl, Or.inl rfl, Or.inr rfl, trivial⟩
            · refine p_iload rfl ?_
              refine p_iconst cn_1 ?_
              refine p_iadd ?_
              refine p_iload_n rfl ?_
              refine p_icmp_ge h 49 rfl rfl (fun _ h => ?_) (fun _ h => ?_)
              · exact p_fg (S_X9_earliestBehind_89_82 hl (fun h => ih h) h) ⟨Or.inr rfl, Or.inr rfl, Or.inr rfl, Or.inr rfl, Or.inl rfl, Or.inl rfl, trivial⟩
              · exact p_fg (S_X9_earliestBehind_89_75 hl (fun h => ih h) h) ⟨Or.inr rfl, Or.inr rfl, Or.inl rfl, Or.inr rfl, Or.inl rfl, Or.inr rfl, trivial⟩
set_option maxRecDepth 100000 in
theorem S_X9_earliestBehind_89 {l : Launch} (hl : l.stackTraces = false) {M : PM} {a1 : Int32} {r : PR} (h : F_X9_earliestBehind_89 M a1 = some r) : PW l 5 Y_X9_earliestBehind k_X9_earliestBehind [vR 89, vI a1, jk, jk, jk, jk] [] M r := by
  unfold F_X9_earliestBehind_89 at h
  refine p_iconst cn_m1 ?_
  refine p_istore_n (Nat.le_of_ble_eq_true rfl) rfl ?_
  refine p_iconst cn_0 ?_
  refine p_istore_n (Nat.le_of_ble_eq_true rfl) rfl ?_
  exact p_fg (S_X9_earliestBehind_89_4 hl FUEL h) ⟨Or.inr rfl, Or.inr rfl, Or.inr rfl, Or.inr rfl, Or.inl rfl, Or.inl rfl, trivial⟩
set_option maxRecDepth 100000 in
theorem pc_X9_earliestBehind_89 {l : Launch} (hl : l.stackTraces = false) {M : PM} {a1 : Int32} {r : PR} (h : F_X9_earliestBehind_89 M a1 = some r) : PC l 5 Y_X9_earliestBehind [vR 89, vI a1] M r := pc_of hl (by decide +kernel) cok_X9_earliestBehind (Nat.le_of_ble_eq_true rfl) rfl (S_X9_earliestBehind_89 hl  h) rfl
def F_X9_plan_89_9 : Nat → PM → Int32 → Option PR
  | 0, _, _ => none
  | n + 1, M, x2 => cI (F_X10_all M (mI M 16 12)) fun v802 M801 => (if v802 < x2 then some (.inl none, M801) else (if 256 ≤ x2 then some (.inl none, M801) else cI (F_X9_earliestBehind_89 M801 x2) fun v804 M803 => if ixOK x2 256 = true then lt (x2 + 1) fun y805 => F_X9_plan_89_9 n (sA M803 90 x2.toNatClampNeg v804) y805 else none))
def F_X9_plan_89 (M : PM) (a1 : Int32) : Option PR := if ixOK 0 256 = true then F_X9_plan_89_9 FUEL (sA M 90 (0 : Int32).toNatClampNeg a1) 1 else none
set_option maxRecDepth 100000 in
theorem S_X9_plan_89_9 {l : Launch} (hl : l.stackTraces = false) : ∀ (n : Nat) {M : PM} {x2 : Int32} {r : PR}, F_X9_plan_89_9  n M x2 = some r → PW l 6 Y_X9_plan k_X9_plan_9 [vR 89, jk, vI x2] [] M r := by
  intro n
  induction n with
  | zero => intro M x2 r h; exact nomatch (show (none : Option PR) = some r from h)
  | succ n ih =>
    intro M x2 r h
    rw [F_X9_plan_89_9] at h
    refine p_iload_n rfl ?_
    refine p_aload_n rfl ?_
    refine p_getR fk_X9_25 gt_89 rfl rfl ?_
    refine p_getI fk_X9_29 gt_16 rfl ?_
    refine p_cI (av := [_]) ⟨mok_X10_all, Or.inr ⟨74, rfl, rfl, sta_X10_all, Or.inr lk_X9_74⟩⟩ (Nat.le_of_ble_eq_true rfl) (Nat.le_of_ble_eq_true rfl) rfl (fun _ h => pc_X10_all hl h) h (fun v802 M801 h => ?_)
    refine p_icmp_gt h 25 rfl rfl (fun _ h => ?_) (fun _ h => ?_)
    · exact p_ret rfl h
    · refine p_iload_n rfl ?_
      refine p_sipush cs_256 ?_
      refine p_icmp_ge h 25 rfl rfl (fun _ h => ?_) (fun _ h => ?_)
      · exact p_ret rfl h
      · refine p_aload_n rfl ?_
        refine p_getR fk_X9_11 gt_89 rfl rfl ?_
        refine p_iload_n rfl ?_
        refine p_aload_n rfl ?_
        refine p_iload_n rfl ?_
        refine p_cI (av := [_, _]) ⟨mok_X9_earliestBehind, Or.inl ⟨78, 89, 9, 0, _, rfl, rfl, rfl, gt_89, rfl, ins_X9_earliestBehind, Or.inl lk_X9_78⟩⟩ (Nat.le_of_ble_eq_true rfl) (Nat.le_of_ble_eq_true rfl) rfl (fun _ h => pc_X9_earliestBehind_89 hl h) h (fun v804 M803 h => ?_)
        refine p_iast gt_90 h (fun h => ?_)
        have h := lt_h h
        refine p_iinc (Nat.le_of_ble_eq_true rfl) rfl (ci_1 _) rfl ?_
        refine p_goto 7 rfl rfl ?_
        exact p_fg (ih h) ⟨Or.inr rfl, Or.inl rfl, Or.inr rfl, trivial⟩
set_option maxRecDepth 100000 in
theorem S_X9_plan_89 {l : Launch} (hl : l.stackTraces = false) {M : PM} {a1 : Int32} {r : PR} (h : F_X9_plan_89 M a1 = some r) : PW l 6 Y_X9_plan k_X9_plan [vR 89, vI a1, jk] [] M r := by
  unfold F_X9_plan_89 at h
  refine p_aload_n rfl ?_
  refine p_getR fk_X9_11 gt_89 rfl rfl ?_
  refine p_iconst cn_0 ?_
  refine p_iload_n rfl ?_
  refine p_iast gt_90 h (fun h => ?_)
  refine p_iconst cn_1 ?_
  refine p_istore_n (Nat.le_of_ble_eq_true rfl) rfl ?_
  exact p_fg (S_X9_plan_89_9 hl FUEL h) ⟨Or.inr rfl, Or.inl rfl, Or.inr rfl, trivial⟩
set_option maxRecDepth 100000 in
theorem pc_X9_plan_89 {l : Launch} (hl : l.stackTraces = false) {M : PM} {a1 : Int32} {r : PR} (h : F_X9_plan_89 M a1 = some r) : PC l 6 Y_X9_plan [vR 89, vI a1] M r := pc_of hl (by decide +kernel) cok_X9_plan (Nat.le_of_ble_eq_true rfl) rfl (S_X9_plan_89 hl  h) rfl
def F_X9_firstInTime_89_68 (k2 : PM → Int32 → Int32 → Int32 → Option PR) (M : PM) (x1 : Int32) (x2 : Int32) (x3 : Int32) : Option PR := lt (x3 + 1) fun y806 => k2 M x1 x2 y806
def F_X9_firstInTime_89_2 : Nat → PM → Int32 → Int32 → Int32 → Option PR
  | 0, _, _, _, _ => none
  | n + 1, M, x1, x2, x3 => (if mI M 16 12 ≤ x3 then some (.inl (some (.int 0)), M) else if ixOK ((x1 &&& ((1 <<< (x3 &&& 31)) ^^^ (-1))) &&& 255) 256 = true then lt (mA M 91 ((x1 &&& ((1 <<< (x3 &&& 31)) ^^^ (-1))) &&& 255).toNatClampNeg) fun y807 => cI (F_X10_isIn M x3 x1) fun v809 M808 => (if v809 = 0 then F_X9_firstInTime_89_68 (F_X9_firstInTime_89_2 n) M808 x1 x2 x3 else (if y807 = (-1) then F_X9_firstInTime_89_68 (F_X9_firstInTime_89_2 n) M808 x1 x2 x3 else cI (F_X9_endOf_89 M808 x3 x2) fun v811 M810 => (if v811 = (-1) then F_X9_firstInTime_89_68 (F_X9_firstInTime_89_2 n) M810 x1 x2 x3 else (if y807 ≤ v811 then F_X9_firstInTime_89_68 (F_X9_firstInTime_89_2 n) M810 x1 x2 x3 else some (.inl (some (.int x3)), M810))))) else none)
def F_X9_firstInTime_89 (M : PM) (a1 : Int32) (a2 : Int32) : Option PR := F_X9_firstInTime_89_2 FUEL M a1 a2 0
set_option maxRecDepth 100000 in
theorem S_X9_firstInTime_89_68 {l : Launch} (hl : l.stackTraces = false) {k2 : PM → Int32 → Int32 → Int32 → Option PR} (hk2 : ∀ {M : PM} {x1 : Int32} {x2 : Int32} {x3 : Int32} {r : PR}, k2 M x1 x2 x3 = some r → PW l 5 Y_X9_firstInTime k_X9_firstInTime_2 [vR 89, vI x1, vI x2, vI x3, jk, jk] [] M r) {M : PM} {x1 : Int32} {x2 : Int32} {x3 : Int32} {r : PR} (h : F_X9_firstInTime_89_68 k2 M x1 x2 x3 = some r) : PW l 5 Y_X9_firstInTime k_X9_firstInTime_68 [vR 89, vI x1, vI x2, vI x3, jk, jk] [] M r := by
  unfold F_X9_firstInTime_89_68 at h
  have h := lt_h h
  refine p_iinc (Nat.le_of_ble_eq_true rfl) rfl (ci_1 _) rfl ?_
  refine p_goto 2 rfl rfl ?_
  exact p_fg (hk2 h) ⟨Or.inr rfl, Or.inr rfl, Or.inr rfl, Or.inr rfl, Or.inl rfl, Or.inl rfl, trivial⟩
set_option maxRecDepth 100000 in
theorem S_X9_firstInTime_89_2 {l : Launch} (hl : l.stackTraces = false) : ∀ (n : Nat) {M : PM} {x1 : Int32} {x2 : Int32} {x3 : Int32} {r : PR}, F_X9_firstInTime_89_2  n M x1 x2 x3 = some r → PW l 5 Y_X9_firstInTime k_X9_firstInTime_2 [vR 89, vI x1, vI x2, vI x3, jk, jk] [] M r := by
  intro n
  induction n with
  | zero => intro M x1 x2 x3 r h; exact nomatch (show (none : Option PR) = some r from h)
  | succ n ih =>
    intro M x1 x2 x3 r h
    rw [F_X9_firstInTime_89_2] at h
    refine p_iload_n rfl ?_
    refine p_aload_n rfl ?_
    refine p_getR fk_X9_25 gt_89 rfl rfl ?_
    refine p_getI fk_X9_29 gt_16 rfl ?_
    refine p_icmp_ge h 42 rfl rfl (fun _ h => ?_) (fun _ h => ?_)
    · refine p_iconst cn_0 ?_
      exact p_iret rfl h
    · refine p_aload_n rfl ?_
      refine p_getR fk_X9_15 gt_89 rfl rfl ?_
      refine p_iload_n rfl ?_
      refine p_iconst cn_1 ?_
      refine p_iload_n rfl ?_
      refine p_ishl ?_
      refine p_iconst cn_m1 ?_
      refine p_ixor ?_
      refine p_iand ?_
      refine p_sipush cs_255 ?_
      refine p_iand ?_
      refine p_iald gt_91 h (fun h => ?_)
      have h := lt_h h
      refine p_istore (Nat.le_of_ble_eq_true rfl) rfl ?_
      refine p_iload_n rfl ?_
      refine p_iload_n rfl ?_
      refine p_cI (av := [_, _]) ⟨mok_X10_isIn, Or.inr ⟨81, rfl, rfl, sta_X10_isIn, Or.inr lk_X9_81⟩⟩ (Nat.le_of_ble_eq_true rfl) (Nat.le_of_ble_eq_true rfl) rfl (fun _ h => pc_X10_isIn hl h) h (fun v809 M808 h => ?_)
      refine p_if_eq h 40 rfl rfl (fun _ h => ?_) (fun _ h => ?_)
      · exact p_fg (S_X9_firstInTime_89_68 hl (fun h => ih h) h) ⟨Or.inr rfl, Or.inr rfl, Or.inr rfl, Or.inr rfl, Or.inl rfl, Or.inl rfl, trivial⟩
      · refine p_iload rfl ?_
        refine p_iconst cn_m1 ?_
        refine p_icmp_eq h 40 rfl rfl (fun _ h => ?_) (fun _ h => ?_)
        · exact p_fg (S_X9_firstInTime_89_68 hl (fun h => ih h) h) ⟨Or.inr rfl, Or.inr rfl, Or.inr rfl, Or.inr rfl, Or.inl rfl, Or.inl rfl, trivial⟩
        · refine p_aload_n rfl ?_
          refine p_iload_n rfl ?_
          refine p_iload_n rfl ?_
          refine p_cI (av := [_, _, _]) ⟨mok_X9_endOf, Or.inl ⟨85, 89, 9, 0, _, rfl, rfl, rfl, gt_89, rfl, ins_X9_endOf, Or.inl lk_X9_85⟩⟩ (Nat.le_of_ble_eq_true rfl) (Nat.le_of_ble_eq_true rfl) rfl (fun _ h => pc_X9_endOf_89 hl h) h (fun v811 M810 h => ?_)
          refine p_istore (Nat.le_of_ble_eq_true rfl) rfl ?_
          refine p_iload rfl ?_
          refine p_iconst cn_m1 ?_
          refine p_icmp_eq h 40 rfl rfl (fun _ h => ?_) (fun _ h => ?_)
          · exact p_fg (S_X9_firstInTime_89_68 hl (fun h => ih h) h) ⟨Or.inr rfl, Or.inr rfl, Or.inr rfl, Or.inr rfl, Or.inl rfl, Or.inl rfl, trivial⟩
          · refine p_iload rfl ?_
            refine p_iload rfl ?_
            refine p_icmp_ge h 40 rfl rfl (fun _ h => ?_) (fun _ h => ?_)
            · exact p_fg (S_X9_firstInTime_89_68 hl (fun h => ih h) h) ⟨Or.inr rfl, Or.inr rfl, Or.inr rfl, Or.inr rfl, Or.inl rfl, Or.inl rfl, trivial⟩
            · refine p_iload_n rfl ?_
              exact p_iret rfl h
set_option maxRecDepth 100000 in
theorem S_X9_firstInTime_89 {l : Launch} (hl : l.stackTraces = false) {M : PM} {a1 : Int32} {a2 : Int32} {r : PR} (h : F_X9_firstInTime_89 M a1 a2 = some r) : PW l 5 Y_X9_firstInTime k_X9_firstInTime [vR 89, vI a1, vI a2, jk, jk, jk] [] M r := by
  unfold F_X9_firstInTime_89 at h
  refine p_iconst cn_0 ?_
  refine p_istore_n (Nat.le_of_ble_eq_true rfl) rfl ?_
  exact p_fg (S_X9_firstInTime_89_2 hl FUEL h) ⟨Or.inr rfl, Or.inr rfl, Or.inr rfl, Or.inr rfl, Or.inl rfl, Or.inl rfl, trivial⟩
set_option maxRecDepth 100000 in
theorem pc_X9_firstInTime_89 {l : Launch} (hl : l.stackTraces = false) {M : PM} {a1 : Int32} {a2 : Int32} {r : PR} (h : F_X9_firstInTime_89 M a1 a2 = some r) : PC l 5 Y_X9_firstInTime [vR 89, vI a1, vI a2] M r := pc_of hl (by decide +kernel) cok_X9_firstInTime (Nat.le_of_ble_eq_true rfl) rfl (S_X9_firstInTime_89 hl  h) rfl
def F_X0_stretchTo_3_47 (k13 : PM → Int32 → Int32 → Int32 → Option PR) (M : PM) (x1 : Int32) (x3 : Int32) (t0 : Int32) : Option PR := lt (x3 + 1) fun y812 => k13 M x1 t0 y812
def F_X0_stretchTo_3_13 : Nat → PM → Int32 → Int32 → Int32 → Option PR
  | 0, _, _, _, _ => none
  | n + 1, M, x1, x2, x3 => (if mI M 3 5 ≤ x3 then some (.inl (some (.int ((x1 - x2) + 1))), M) else if ixOK x3 3 = true then (if x1 ≤ mA M 15 x3.toNatClampNeg then F_X0_stretchTo_3_47 (F_X0_stretchTo_3_13 n) M x1 x3 x2 else if ixOK x3 3 = true then cI (F_J9_max_7cf53 M x2 ((mA M 15 x3.toNatClampNeg) + 1)) fun v814 M813 => F_X0_stretchTo_3_47 (F_X0_stretchTo_3_13 n) M813 x1 x3 v814 else none) else none)
def F_X0_stretchTo_3 (M : PM) (a1 : Int32) : Option PR := cI (F_J9_max_7cf53 M ((a1 - 64) + 1) 0) fun v816 M815 => F_X0_stretchTo_3_13 FUEL M815 a1 v816 0
set_option maxRecDepth 100000 in
theorem S_X0_stretchTo_3_47 {l : Launch} (hl : l.stackTraces = false) {k13 : PM → Int32 → Int32 → Int32 → Option PR} (hk13 : ∀ {M : PM} {x1 : Int32} {x2 : Int32} {x3 : Int32} {r : PR}, k13 M x1 x2 x3 = some r → PW l 1 Y_X0_stretchTo k_X0_stretchTo_13 [vR 3, vI x1, vI x2, vI x3] [] M r) {M : PM} {x1 : Int32} {x3 : Int32} {t0 : Int32} {r : PR} (h : F_X0_stretchTo_3_47 k13 M x1 x3 t0 = some r) : PW l 1 Y_X0_stretchTo k_X0_stretchTo_47 [vR 3, vI x1, jk, vI x3] [vI t0] M r := by
  unfold F_X0_stretchTo_3_47 at h
  refine p_istore_n (Nat.le_of_ble_eq_true rfl) rfl ?_
  have h := lt_h h
  refine p_iinc (Nat.le_of_ble_eq_true rfl) rfl (ci_1 _) rfl ?_
  refine p_goto 10 rfl rfl ?_
  exact p_fg (hk13 h) ⟨Or.inr rfl, Or.inr rfl, Or.inr rfl, Or.inr rfl, trivial⟩
set_option maxRecDepth 100000 in
theorem S_X0_stretchTo_3_13 {l : Launch} (hl : l.stackTraces = false) : ∀ (n : Nat) {M : PM} {x1 : Int32} {x2 : Int32} {x3 : Int32} {r : PR}, F_X0_stretchTo_3_13  n M x1 x2 x3 = some r → PW l 1 Y_X0_stretchTo k_X0_stretchTo_13 [vR 3, vI x1, vI x2, vI x3] [] M r := by
  intro n
  induction n with
  | zero => intro M x1 x2 x3 r h; exact nomatch (show (none : Option PR) = some r from h)
  | succ n ih =>
    intro M x1 x2 x3 r h
    rw [F_X0_stretchTo_3_13] at h
    refine p_iload_n rfl ?_
    refine p_aload_n rfl ?_
    refine p_getI fk_X0_50 gt_3 rfl ?_
    refine p_icmp_ge h 33 rfl rfl (fun _ h => ?_) (fun _ h => ?_)
    · refine p_iload_n rfl ?_
      refine p_iload_n rfl ?_
      refine p_isub ?_
      refine p_iconst cn_1 ?_
      refine p_iadd ?_
      exact p_iret rfl h
    · refine p_aload_n rfl ?_
      refine p_getR fk_X0_27 gt_3 rfl rfl ?_
      refine p_iload_n rfl ?_
      refine p_iald gt_15 h (fun h => ?_)
      refine p_iload_n rfl ?_
      refine p_icmp_ge h 29 rfl rfl (fun _ h => ?_) (fun _ h => ?_)
      · refine p_iload_n rfl ?_
        exact p_fg (S_X0_stretchTo_3_47 hl (fun h => ih h) h) ⟨Or.inr rfl, Or.inr rfl, Or.inl rfl, Or.inr rfl, trivial⟩
      · refine p_iload_n rfl ?_
        refine p_aload_n rfl ?_
        refine p_getR fk_X0_27 gt_3 rfl rfl ?_
        refine p_iload_n rfl ?_
        refine p_iald gt_15 h (fun h => ?_)
        refine p_iconst cn_1 ?_
        refine p_iadd ?_
        refine p_cI (av := [_, _]) ⟨mok_J9_max_7cf53, Or.inr ⟨53, rfl, rfl, sta_J9_max_7cf53, Or.inl lk_X0_53⟩⟩ (Nat.le_of_ble_eq_true rfl) (Nat.le_of_ble_eq_true rfl) rfl (fun _ h => pc_J9_max_7cf53 hl h) h (fun v814 M813 h => ?_)
        refine p_goto 30 rfl rfl ?_
        exact p_fg (S_X0_stretchTo_3_47 hl (fun h => ih h) h) ⟨Or.inr rfl, Or.inr rfl, Or.inl rfl, Or.inr rfl, trivial⟩
set_option maxRecDepth 100000 in
theorem S_X0_stretchTo_3 {l : Launch} (hl : l.stackTraces = false) {M : PM} {a1 : Int32} {r : PR} (h : F_X0_stretchTo_3 M a1 = some r) : PW l 1 Y_X0_stretchTo k_X0_stretchTo [vR 3, vI a1, jk, jk] [] M r := by
  unfold F_X0_stretchTo_3 at h
  refine p_iload_n rfl ?_
  refine p_bipush cb_64 ?_
  refine p_isub ?_
  refine p_iconst cn_1 ?_
  refine p_iadd ?_
  refine p_iconst cn_0 ?_
  refine p_cI (av := [_, _]) ⟨mok_J9_max_7cf53, Or.inr ⟨53, rfl, rfl, sta_J9_max_7cf53, Or.inl lk_X0_53⟩⟩ (Nat.le_of_ble_eq_true rfl) (Nat.le_of_ble_eq_true rfl) rfl (fun _ h => pc_J9_max_7cf53 hl h) h (fun v816 M815 h => ?_)
  refine p_istore_n (Nat.le_of_ble_eq_true rfl) rfl ?_
  refine p_iconst cn_0 ?_
  refine p_istore_n (Nat.le_of_ble_eq_true rfl) rfl ?_
  exact p_fg (S_X0_stretchTo_3_13 hl FUEL h) ⟨Or.inr rfl, Or.inr rfl, Or.inr rfl, Or.inr rfl, trivial⟩
set_option maxRecDepth 100000 in
theorem pc_X0_stretchTo_3 {l : Launch} (hl : l.stackTraces = false) {M : PM} {a1 : Int32} {r : PR} (h : F_X0_stretchTo_3 M a1 = some r) : PC l 1 Y_X0_stretchTo [vR 3, vI a1] M r := pc_of hl (by decide +kernel) cok_X0_stretchTo (Nat.le_of_ble_eq_true rfl) rfl (S_X0_stretchTo_3 hl  h) rfl
def F_X1_nthBack_27_9 : Nat → PM → Int32 → Int32 → Int32 → Option PR
  | 0, _, _, _, _ => none
  | n + 1, M, x3, x4, x6 => (if x6 < x3 then some (.inl (some (.int (-1))), M) else cI (F_X0_stretchTo_3 M x6) fun v818 M817 => lt ((x6 - v818) + 1) fun y819 => cI (F_X0_turnsOn_3 M817 y819) fun v821 M820 => cJ (F_X1_daysFrom_27 M820 v821) fun v823 M822 => cJ (F_X10_low M822 v818) fun v825 M824 => lt (v823 &&& v825) fun y826 => cI (F_J13_bitCount_95d88 M824 y826) fun v828 M827 => (if v828 < x4 then lt (x4 - v828) fun y829 => cI (F_J9_max_7cf53 M827 v818 1) fun v831 M830 => lt (x6 - v831) fun y832 => F_X1_nthBack_27_9 n M830 x3 y829 y832 else cI (F_X10_nthLowest M827 y826 ((v828 - x4) + 1)) fun v834 M833 => lt (y819 + v834) fun y835 => (if y835 < x3 then some (.inl (some (.int (-1))), M833) else some (.inl (some (.int y835)), M833))))
def F_X1_nthBack_27 (M : PM) (a1 : Int32) (a2 : Int32) (a3 : Int32) : Option PR := F_X1_nthBack_27_9 FUEL M a3 a2 a1
set_option maxRecDepth 100000 in
theorem S_X1_nthBack_27_9 {l : Launch} (hl : l.stackTraces = false) : ∀ (n : Nat) {M : PM} {x3 : Int32} {x4 : Int32} {x6 : Int32} {r : PR}, F_X1_nthBack_27_9  n M x3 x4 x6 = some r → PW l 3 Y_X1_nthBack k_X1_nthBack_9 [vR 27, jk, jk, vI x3, vI x4, jk, vI x6, jk, jk, jk, jk, jk] [] M r := by
  intro n
  induction n with
  | zero => intro M x3 x4 x6 r h; exact nomatch (show (none : Option PR) = some r from h)
  | succ n ih =>
    intro M x3 x4 x6 r h
    rw [F_X1_nthBack_27_9] at h
    refine p_iload rfl ?_
    refine p_iload_n rfl ?_
    refine p_icmp_lt h 64 rfl rfl (fun _ h => ?_) (fun _ h => ?_)
    · refine p_iconst cn_m1 ?_
      exact p_iret rfl h
    · refine p_aload_n rfl ?_
      refine p_getR fk_X1_19 gt_27 rfl rfl ?_
      refine p_iload rfl ?_
      refine p_cI (av := [_, _]) ⟨mok_X0_stretchTo, Or.inl ⟨97, 3, 0, 0, _, rfl, rfl, rfl, gt_3, rfl, ins_X0_stretchTo, Or.inr lk_X1_97⟩⟩ (Nat.le_of_ble_eq_true rfl) (Nat.le_of_ble_eq_true rfl) rfl (fun _ h => pc_X0_stretchTo_3 hl h) h (fun v818 M817 h => ?_)
      refine p_istore (Nat.le_of_ble_eq_true rfl) rfl ?_
      refine p_iload rfl ?_
      refine p_iload rfl ?_
      refine p_isub ?_
      refine p_iconst cn_1 ?_
      refine p_iadd ?_
      have h := lt_h h
      refine p_istore (Nat.le_of_ble_eq_true rfl) rfl ?_
      refine p_aload_n rfl ?_
      refine p_aload_n rfl ?_
      refine p_getR fk_X1_19 gt_27 rfl rfl ?_
      refine p_iload rfl ?_
      refine p_cI (av := [_, _]) ⟨mok_X0_turnsOn, Or.inl ⟨59, 3, 0, 0, _, rfl, rfl, rfl, gt_3, rfl, ins_X0_turnsOn, Or.inr lk_X1_59⟩⟩ (Nat.le_of_ble_eq_true rfl) (Nat.le_of_ble_eq_true rfl) rfl (fun _ h => pc_X0_turnsOn_3 hl h) h (fun v821 M820 h => ?_)
      refine p_cJ (av := [_, _]) ⟨mok_X1_daysFrom, Or.inl ⟨62, 27, 1, 0, _, rfl, rfl, rfl, gt_27, rfl, ins_X1_daysFrom, Or.inl lk_X1_62⟩⟩ (Nat.le_of_ble_eq_true rfl) (Nat.le_of_ble_eq_true rfl) rfl (fun _ h => pc_X1_daysFrom_27 hl h) h (fun v823 M822 h => ?_)
      refine p_iload rfl ?_
      refine p_cJ (av := [_]) ⟨mok_X10_low, Or.inr ⟨66, rfl, rfl, sta_X10_low, Or.inr lk_X1_66⟩⟩ (Nat.le_of_ble_eq_true rfl) (Nat.le_of_ble_eq_true rfl) rfl (fun _ h => pc_X10_low hl h) h (fun v825 M824 h => ?_)
      refine p_land ?_
      have h := lt_h h
      refine p_lstore (Nat.le_of_ble_eq_true rfl) rfl ?_
      refine p_lload rfl ?_
      refine p_cI (av := [_]) ⟨mok_J13_bitCount_95d88, Or.inr ⟨69, rfl, rfl, sta_J13_bitCount_95d88, Or.inl lk_X1_69⟩⟩ (Nat.le_of_ble_eq_true rfl) (Nat.le_of_ble_eq_true rfl) rfl (fun _ h => pc_J13_bitCount_95d88 hl h) h (fun v828 M827 h => ?_)
      refine p_istore (Nat.le_of_ble_eq_true rfl) rfl ?_
      refine p_iload rfl ?_
      refine p_iload rfl ?_
      refine p_icmp_lt h 53 rfl rfl (fun _ h => ?_) (fun _ h => ?_)
      · refine p_iload rfl ?_
        refine p_iload rfl ?_
        refine p_isub ?_
        have h := lt_h h
        refine p_istore (Nat.le_of_ble_eq_true rfl) rfl ?_
        refine p_iload rfl ?_
        refine p_iload rfl ?_
        refine p_iconst cn_1 ?_
        refine p_cI (av := [_, _]) ⟨mok_J9_max_7cf53, Or.inr ⟨79, rfl, rfl, sta_J9_max_7cf53, Or.inl lk_X1_79⟩⟩ (Nat.le_of_ble_eq_true rfl) (Nat.le_of_ble_eq_true rfl) rfl (fun _ h => pc_J9_max_7cf53 hl h) h (fun v831 M830 h => ?_)
        refine p_isub ?_
        have h := lt_h h
        refine p_istore (Nat.le_of_ble_eq_true rfl) rfl ?_
        refine p_goto 6 rfl rfl ?_
        exact p_fg (ih h) ⟨Or.inr rfl, Or.inl rfl, Or.inl rfl, Or.inr rfl, Or.inr rfl, Or.inl rfl, Or.inr rfl, Or.inl rfl, Or.inl rfl, Or.inl rfl, Or.inl rfl, Or.inl rfl, trivial⟩
      · refine p_iload rfl ?_
        refine p_lload rfl ?_
        refine p_iload rfl ?_
        refine p_iload rfl ?_
        refine p_isub ?_
        refine p_iconst cn_1 ?_
        refine p_iadd ?_
        refine p_cI (av := [_, _]) ⟨mok_X10_nthLowest, Or.inr ⟨75, rfl, rfl, sta_X10_nthLowest, Or.inr lk_X1_75⟩⟩ (Nat.le_of_ble_eq_true rfl) (Nat.le_of_ble_eq_true rfl) rfl (fun _ h => pc_X10_nthLowest hl h) h (fun v834 M833 h => ?_)
        refine p_iadd ?_
        have h := lt_h h
        refine p_istore (Nat.le_of_ble_eq_true rfl) rfl ?_
        refine p_iload rfl ?_
        refine p_iload_n rfl ?_
        refine p_icmp_lt h 51 rfl rfl (fun _ h => ?_) (fun _ h => ?_)
        · refine p_iconst cn_m1 ?_
          exact p_iret rfl h
        · refine p_iload rfl ?_
          refine p_goto 52 rfl rfl ?_
          exact p_iret rfl h
set_option maxRecDepth 100000 in
theorem S_X1_nthBack_27 {l : Launch} (hl : l.stackTraces = false) {M : PM} {a1 : Int32} {a2 : Int32} {a3 : Int32} {r : PR} (h : F_X1_nthBack_27 M a1 a2 a3 = some r) : PW l 3 Y_X1_nthBack k_X1_nthBack [vR 27, vI a1, vI a2, vI a3, jk, jk, jk, jk, jk, jk, jk, jk] [] M r := by
  unfold F_X1_nthBack_27 at h
  refine p_iload_n rfl ?_
  refine p_istore (Nat.le_of_ble_eq_true rfl) rfl ?_
  refine p_iconst cn_1 ?_
  refine p_istore (Nat.le_of_ble_eq_true rfl) rfl ?_
  refine p_iload_n rfl ?_
  refine p_istore (Nat.le_of_ble_eq_true rfl) rfl ?_
  exact p_fg (S_X1_nthBack_27_9 hl FUEL h) ⟨Or.inr rfl, Or.inl rfl, Or.inl rfl, Or.inr rfl, Or.inr rfl, Or.inl rfl, Or.inr rfl, Or.inl rfl, Or.inl rfl, Or.inl rfl, Or.inl rfl, Or.inl rfl, trivial⟩
set_option maxRecDepth 100000 in
theorem pc_X1_nthBack_27 {l : Launch} (hl : l.stackTraces = false) {M : PM} {a1 : Int32} {a2 : Int32} {a3 : Int32} {r : PR} (h : F_X1_nthBack_27 M a1 a2 a3 = some r) : PC l 3 Y_X1_nthBack [vR 27, vI a1, vI a2, vI a3] M r := pc_of hl (by decide +kernel) cok_X1_nthBack (Nat.le_of_ble_eq_true rfl) rfl (S_X1_nthBack_27 hl  h) rfl
def F_X9_latestBegin_89 (M : PM) (a1 : Int32) (a2 : Int32) (a3 : Int32) : Option PR := cI (F_X9_isWork_89 M a1) fun v837 M836 => (if v837 = 0 then some (.inl (some (.int (-1))), M836) else if ixOK a1 8 = true then cV (F_X1_bar_27 M836 (mA M836 26 a1.toNatClampNeg) 0) fun M838 => if ixOK a1 8 = true then cI (F_X1_nthBack_27 M838 a2 (mA M838 25 a1.toNatClampNeg) a3) fun v840 M839 => some (.inl (some (.int v840)), M839) else none else none)
set_option maxRecDepth 100000 in
theorem S_X9_latestBegin_89 {l : Launch} (hl : l.stackTraces = false) {M : PM} {a1 : Int32} {a2 : Int32} {a3 : Int32} {r : PR} (h : F_X9_latestBegin_89 M a1 a2 a3 = some r) : PW l 4 Y_X9_latestBegin k_X9_latestBegin [vR 89, vI a1, vI a2, vI a3] [] M r := by
  unfold F_X9_latestBegin_89 at h
  refine p_aload_n rfl ?_
  refine p_iload_n rfl ?_
  refine p_cI (av := [_, _]) ⟨mok_X9_isWork, Or.inl ⟨35, 89, 9, 0, _, rfl, rfl, rfl, gt_89, rfl, ins_X9_isWork, Or.inl lk_X9_35⟩⟩ (Nat.le_of_ble_eq_true rfl) (Nat.le_of_ble_eq_true rfl) rfl (fun _ h => pc_X9_isWork_89 hl h) h (fun v837 M836 h => ?_)
  refine p_if_ne h 6 rfl rfl (fun _ h => ?_) (fun _ h => ?_)
  · refine p_iconst cn_m1 ?_
    exact p_iret rfl h
  · refine p_aload_n rfl ?_
    refine p_getR fk_X9_21 gt_89 rfl rfl ?_
    refine p_aload_n rfl ?_
    refine p_getR fk_X9_25 gt_89 rfl rfl ?_
    refine p_getR fk_X9_39 gt_16 rfl rfl ?_
    refine p_iload_n rfl ?_
    refine p_iald gt_26 h (fun h => ?_)
    refine p_iconst cn_0 ?_
    refine p_cV (av := [_, _, _]) ⟨mok_X1_bar, Or.inl ⟨42, 27, 1, 0, _, rfl, rfl, rfl, gt_27, rfl, ins_X1_bar, Or.inr lk_X9_42⟩⟩ (Nat.le_of_ble_eq_true rfl) (Nat.le_of_ble_eq_true rfl) rfl (fun _ h => pc_X1_bar_27 hl h) h (fun M838 h => ?_)
    refine p_aload_n rfl ?_
    refine p_getR fk_X9_21 gt_89 rfl rfl ?_
    refine p_iload_n rfl ?_
    refine p_aload_n rfl ?_
    refine p_getR fk_X9_25 gt_89 rfl rfl ?_
    refine p_getR fk_X9_48 gt_16 rfl rfl ?_
    refine p_iload_n rfl ?_
    refine p_iald gt_25 h (fun h => ?_)
    refine p_iload_n rfl ?_
    refine p_cI (av := [_, _, _, _]) ⟨mok_X1_nthBack, Or.inl ⟨55, 27, 1, 0, _, rfl, rfl, rfl, gt_27, rfl, ins_X1_nthBack, Or.inr lk_X9_55⟩⟩ (Nat.le_of_ble_eq_true rfl) (Nat.le_of_ble_eq_true rfl) rfl (fun _ h => pc_X1_nthBack_27 hl h) h (fun v840 M839 h => ?_)
    exact p_iret rfl h
set_option maxRecDepth 100000 in
theorem pc_X9_latestBegin_89 {l : Launch} (hl : l.stackTraces = false) {M : PM} {a1 : Int32} {a2 : Int32} {a3 : Int32} {r : PR} (h : F_X9_latestBegin_89 M a1 a2 a3 = some r) : PC l 4 Y_X9_latestBegin [vR 89, vI a1, vI a2, vI a3] M r := pc_of hl (by decide +kernel) cok_X9_latestBegin (Nat.le_of_ble_eq_true rfl) rfl (S_X9_latestBegin_89 hl  h) rfl
def F_X9_latestAheadOf_89_67 (k5 : PM → Int32 → Int32 → Int32 → Int32 → Option PR) (M : PM) (x1 : Int32) (x2 : Int32) (x3 : Int32) (x4 : Int32) : Option PR := lt (x4 + 1) fun y841 => k5 M x1 x2 x3 y841
def F_X9_latestAheadOf_89_5 : Nat → PM → Int32 → Int32 → Int32 → Int32 → Option PR
  | 0, _, _, _, _, _ => none
  | n + 1, M, x1, x2, x3, x4 => (if mI M 16 12 ≤ x4 then some (.inl (some (.int x3)), M) else if ixOK ((x1 &&& ((1 <<< (x4 &&& 31)) ^^^ (-1))) &&& 255) 256 = true then lt (mA M 91 ((x1 &&& ((1 <<< (x4 &&& 31)) ^^^ (-1))) &&& 255).toNatClampNeg) fun y842 => cI (F_X10_isIn M x4 x1) fun v844 M843 => (if v844 = 0 then F_X9_latestAheadOf_89_67 (F_X9_latestAheadOf_89_5 n) M843 x1 x2 x3 x4 else (if y842 = (-1) then F_X9_latestAheadOf_89_67 (F_X9_latestAheadOf_89_5 n) M843 x1 x2 x3 x4 else cI (F_X9_latestBegin_89 M843 x4 (y842 - 1) x2) fun v846 M845 => cI (F_J9_max_7cf53 M845 x3 v846) fun v848 M847 => F_X9_latestAheadOf_89_67 (F_X9_latestAheadOf_89_5 n) M847 x1 x2 v848 x4)) else none)
def F_X9_latestAheadOf_89 (M : PM) (a1 : Int32) (a2 : Int32) : Option PR := F_X9_latestAheadOf_89_5 FUEL M a1 a2 (-1) 0
set_option maxRecDepth 100000 in
theorem S_X9_latestAheadOf_89_67 {l : Launch} (hl : l.stackTraces = false) {k5 : PM → Int32 → Int32 → Int32 → Int32 → Option PR} (hk5 : ∀ {M : PM} {x1 : Int32} {x2 : Int32} {x3 : Int32} {x4 : Int32} {r : PR}, k5 M x1 x2 x3 x4 = some r → PW l 5 Y_X9_latestAheadOf k_X9_latestAheadOf_5 [vR 89, vI x1, vI x2, vI x3, vI x4, jk] [] M r) {M : PM} {x1 : Int32} {x2 : Int32} {x3 : Int32} {x4 : Int32} {r : PR} (h : F_X9_latestAheadOf_89_67 k5 M x1 x2 x3 x4 = some r) : PW l 5 Y_X9_latestAheadOf k_X9_latestAheadOf_67 [vR 89, vI x1, vI x2, vI x3, vI x4, jk] [] M r := by
  unfold F_X9_latestAheadOf_89_67 at h
  have h := lt_h h
  refine p_iinc (Nat.le_of_ble_eq_true rfl) rfl (ci_1 _) rfl ?_
  refine p_goto 4 rfl rfl ?_
  exact p_fg (hk5 h) ⟨Or.inr rfl, Or.inr rfl, Or.inr rfl, Or.inr rfl, Or.inr rfl, Or.inl rfl, trivial⟩
set_option maxRecDepth 100000 in
theorem S_X9_latestAheadOf_89_5 {l : Launch} (hl : l.stackTraces = false) : ∀ (n : Nat) {M : PM} {x1 : Int32} {x2 : Int32} {x3 : Int32} {x4 : Int32} {r : PR}, F_X9_latestAheadOf_89_5  n M x1 x2 x3 x4 = some r → PW l 5 Y_X9_latestAheadOf k_X9_latestAheadOf_5 [vR 89, vI x1, vI x2, vI x3, vI x4, jk] [] M r := by
  intro n
  induction n with
  | zero => intro M x1 x2 x3 x4 r h; exact nomatch (show (none : Option PR) = some r from h)
  | succ n ih =>
    intro M x1 x2 x3 x4 r h
    rw [F_X9_latestAheadOf_89_5] at h
    refine p_iload rfl ?_
    refine p_aload_n rfl ?_
    refine p_getR fk_X9_25 gt_89 rfl rfl ?_
    refine p_getI fk_X9_29 gt_16 rfl ?_
    refine p_icmp_ge h 41 rfl rfl (fun _ h => ?_) (fun _ h => ?_)
    · refine p_iload_n rfl ?_
      exact p_iret rfl h
    · refine p_aload_n rfl ?_
      refine p_getR fk_X9_15 gt_89 rfl rfl ?_
      refine p_iload_n rfl ?_
      refine p_iconst cn_1 ?_
      refine p_iload rfl ?_
      refine p_ishl ?_
      refine p_iconst cn_m1 ?_
      refine p_ixor ?_
      refine p_iand ?_
      refine p_sipush cs_255 ?_
      refine p_iand ?_
      refine p_iald gt_91 h (fun h => ?_)
      have h := lt_h h
      refine p_istore (Nat.le_of_ble_eq_true rfl) rfl ?_
      refine p_iload rfl ?_
      refine p_iload_n rfl ?_
      refine p_cI (av := [_, _]) ⟨mok_X10_isIn, Or.inr ⟨81, rfl, rfl, sta_X10_isIn, Or.inr lk_X9_81⟩⟩ (Nat.le_of_ble_eq_true rfl) (Nat.le_of_ble_eq_true rfl) rfl (fun _ h => pc_X10_isIn hl h) h (fun v844 M843 h => ?_)
      refine p_if_eq h 39 rfl rfl (fun _ h => ?_) (fun _ h => ?_)
      · exact p_fg (S_X9_latestAheadOf_89_67 hl (fun h => ih h) h) ⟨Or.inr rfl, Or.inr rfl, Or.inr rfl, Or.inr rfl, Or.inr rfl, Or.inl rfl, trivial⟩
      · refine p_iload rfl ?_
        refine p_iconst cn_m1 ?_
        refine p_icmp_eq h 39 rfl rfl (fun _ h => ?_) (fun _ h => ?_)
        · exact p_fg (S_X9_latestAheadOf_89_67 hl (fun h => ih h) h) ⟨Or.inr rfl, Or.inr rfl, Or.inr rfl, Or.inr rfl, Or.inr rfl, Or.inl rfl, trivial⟩
        · refine p_iload_n rfl ?_
          refine p_aload_n rfl ?_
          refine p_iload rfl ?_
          refine p_iload rfl ?_
          refine p_iconst cn_1 ?_
          refine p_isub ?_
          refine p_iload_n rfl ?_
          refine p_cI (av := [_, _, _, _]) ⟨mok_X9_latestBegin, Or.inl ⟨94, 89, 9, 0, _, rfl, rfl, rfl, gt_89, rfl, ins_X9_latestBegin, Or.inl lk_X9_94⟩⟩ (Nat.le_of_ble_eq_true rfl) (Nat.le_of_ble_eq_true rfl) rfl (fun _ h => pc_X9_latestBegin_89 hl h) h (fun v846 M845 h => ?_)
          refine p_cI (av := [_, _]) ⟨mok_J9_max_7cf53, Or.inr ⟨97, rfl, rfl, sta_J9_max_7cf53, Or.inl lk_X9_97⟩⟩ (Nat.le_of_ble_eq_true rfl) (Nat.le_of_ble_eq_true rfl) rfl (fun _ h => pc_J9_max_7cf53 hl h) h (fun v848 M847 h => ?_)
          refine p_istore_n (Nat.le_of_ble_eq_true rfl) rfl ?_
          exact p_fg (S_X9_latestAheadOf_89_67 hl (fun h => ih h) h) ⟨Or.inr rfl, Or.inr rfl, Or.inr rfl, Or.inr rfl, Or.inr rfl, Or.inl rfl, trivial⟩
set_option maxRecDepth 100000 in
theorem S_X9_latestAheadOf_89 {l : Launch} (hl : l.stackTraces = false) {M : PM} {a1 : Int32} {a2 : Int32} {r : PR} (h : F_X9_latestAheadOf_89 M a1 a2 = some r) : PW l 5 Y_X9_latestAheadOf k_X9_latestAheadOf [vR 89, vI a1, vI a2, jk, jk, jk] [] M r := by
  unfold F_X9_latestAheadOf_89 at h
  refine p_iconst cn_m1 ?_
  refine p_istore_n (Nat.le_of_ble_eq_true rfl) rfl ?_
  refine p_iconst cn_0 ?_
  refine p_istore (Nat.le_of_ble_eq_true rfl) rfl ?_
  exact p_fg (S_X9_latestAheadOf_89_5 hl FUEL h) ⟨Or.inr rfl, Or.inr rfl, Or.inr rfl, Or.inr rfl, Or.inr rfl, Or.inl rfl, trivial⟩
set_option maxRecDepth 100000 in
theorem pc_X9_latestAheadOf_89 {l : Launch} (hl : l.stackTraces = false) {M : PM} {a1 : Int32} {a2 : Int32} {r : PR} (h : F_X9_latestAheadOf_89 M a1 a2 = some r) : PC l 5 Y_X9_latestAheadOf [vR 89, vI a1, vI a2] M r := pc_of hl (by decide +kernel) cok_X9_latestAheadOf (Nat.le_of_ble_eq_true rfl) rfl (S_X9_latestAheadOf_89 hl  h) rfl
def F_X9_firstOrder_89_79 : Nat → PM → Int32 → Int32 → Int32 → Int32 → Option PR
  | 0, _, _, _, _, _ => none
  | n + 1, M, x2, x3, x4, x5 => (if mI M 16 12 ≤ x5 then some (.inl (some (.int x3)), M) else cI (F_X9_firstInTime_89 M x2 x4) fun v850 M849 => lt ((10 * x3) + v850) fun y851 => cI (F_X9_endOf_89 M849 v850 x4) fun v853 M852 => lt (v853 + 1) fun y854 => lt (x2 &&& ((1 <<< (v850 &&& 31)) ^^^ (-1))) fun y855 => lt (x5 + 1) fun y856 => F_X9_firstOrder_89_79 n M852 y855 y851 y854 y856)
def F_X9_firstOrder_89_71 (M : PM) (x1 : Int32) (x2 : Int32) : Option PR := F_X9_firstOrder_89_79 FUEL M x2 0 x1 0
def F_X9_firstOrder_89_41 : Nat → PM → Int32 → Int32 → Int32 → Option PR
  | 0, _, _, _, _ => none
  | n + 1, M, x1, x2, x3 => (if x2 < x3 then F_X9_firstOrder_89_71 M x1 x2 else (if 256 ≤ x3 then F_X9_firstOrder_89_71 M x1 x2 else cI (F_X9_latestAheadOf_89 M x3 x1) fun v858 M857 => if ixOK x3 256 = true then lt (x3 + 1) fun y859 => F_X9_firstOrder_89_41 n (sA M857 91 x3.toNatClampNeg v858) x1 x2 y859 else none))
def F_X9_firstOrder_89 (M : PM) (a1 : Int32) : Option PR := cI (F_X10_all M (mI M 16 12)) fun v861 M860 => if ixOK (v861 &&& 255) 256 = true then if ixOK 0 256 = true then if ixOK 0 256 = true then (if mA (sA M860 91 (0 : Int32).toNatClampNeg (mA M860 90 (v861 &&& 255).toNatClampNeg)) 91 (0 : Int32).toNatClampNeg = (-1) then some (.inl (some (.int (-1))), sA M860 91 (0 : Int32).toNatClampNeg (mA M860 90 (v861 &&& 255).toNatClampNeg)) else F_X9_firstOrder_89_41 FUEL (sA M860 91 (0 : Int32).toNatClampNeg (mA M860 90 (v861 &&& 255).toNatClampNeg)) a1 v861 1) else none else none else none
set_option maxRecDepth 100000 in
theorem S_X9_firstOrder_89_79 {l : Launch} (hl : l.stackTraces = false) : ∀ (n : Nat) {M : PM} {x2 : Int32} {x3 : Int32} {x4 : Int32} {x5 : Int32} {r : PR}, F_X9_firstOrder_89_79  n M x2 x3 x4 x5 = some r → PW l 6 Y_X9_firstOrder k_X9_firstOrder_79 [vR 89, jk, vI x2, vI x3, vI x4, vI x5, jk] [] M r := by
  intro n
  induction n with
  | zero => intro M x2 x3 x4 x5 r h; exact nomatch (show (none : Option PR) = some r from h)
  | succ n ih =>
    intro M x2 x3 x4 x5 r h
    rw [F_X9_firstOrder_89_79] at h
    refine p_iload rfl ?_
    refine p_aload_n rfl ?_
    refine p_getR fk_X9_25 gt_89 rfl rfl ?_
    refine p_getI fk_X9_29 gt_16 rfl ?_
    refine p_icmp_ge h 80 rfl rfl (fun _ h => ?_) (fun _ h => ?_)
    · refine p_iload_n rfl ?_
      exact p_iret rfl h
    · refine p_aload_n rfl ?_
      refine p_iload_n rfl ?_
      refine p_iload rfl ?_
      refine p_cI (av := [_, _, _]) ⟨mok_X9_firstInTime, Or.inl ⟨91, 89, 9, 0, _, rfl, rfl, rfl, gt_89, rfl, ins_X9_firstInTime, Or.inl lk_X9_91⟩⟩ (Nat.le_of_ble_eq_true rfl) (Nat.le_of_ble_eq_true rfl) rfl (fun _ h => pc_X9_firstInTime_89 hl h) h (fun v850 M849 h => ?_)
      refine p_istore (Nat.le_of_ble_eq_true rfl) rfl ?_
      refine p_bipush cb_10 ?_
      refine p_iload_n rfl ?_
      refine p_imul ?_
      refine p_iload rfl ?_
      refine p_iadd ?_
      have h := lt_h h
      refine p_istore_n (Nat.le_of_ble_eq_true rfl) rfl ?_
      refine p_aload_n rfl ?_
      refine p_iload rfl ?_
      refine p_iload rfl ?_
      refine p_cI (av := [_, _, _]) ⟨mok_X9_endOf, Or.inl ⟨85, 89, 9, 0, _, rfl, rfl, rfl, gt_89, rfl, ins_X9_endOf, Or.inl lk_X9_85⟩⟩ (Nat.le_of_ble_eq_true rfl) (Nat.le_of_ble_eq_true rfl) rfl (fun _ h => pc_X9_endOf_89 hl h) h (fun v853 M852 h => ?_)
      refine p_iconst cn_1 ?_
      refine p_iadd ?_
      have h := lt_h h
      refine p_istore (Nat.le_of_ble_eq_true rfl) rfl ?_
      refine p_iload_n rfl ?_
      refine p_iconst cn_1 ?_
      refine p_iload rfl ?_
      refine p_ishl ?_
      refine p_iconst cn_m1 ?_
      refine p_ixor ?_
      refine p_iand ?_
      have h := lt_h h
      refine p_istore_n (Nat.le_of_ble_eq_true rfl) rfl ?_
      have h := lt_h h
      refine p_iinc (Nat.le_of_ble_eq_true rfl) rfl (ci_1 _) rfl ?_
      refine p_goto 47 rfl rfl ?_
      exact p_fg (ih h) ⟨Or.inr rfl, Or.inl rfl, Or.inr rfl, Or.inr rfl, Or.inr rfl, Or.inr rfl, Or.inl rfl, trivial⟩
set_option maxRecDepth 100000 in
theorem S_X9_firstOrder_89_71 {l : Launch} (hl : l.stackTraces = false) {M : PM} {x1 : Int32} {x2 : Int32} {r : PR} (h : F_X9_firstOrder_89_71  M x1 x2 = some r) : PW l 6 Y_X9_firstOrder k_X9_firstOrder_71 [vR 89, vI x1, vI x2, jk, jk, jk, jk] [] M r := by
  unfold F_X9_firstOrder_89_71 at h
  refine p_iconst cn_0 ?_
  refine p_istore_n (Nat.le_of_ble_eq_true rfl) rfl ?_
  refine p_iload_n rfl ?_
  refine p_istore (Nat.le_of_ble_eq_true rfl) rfl ?_
  refine p_iconst cn_0 ?_
  refine p_istore (Nat.le_of_ble_eq_true rfl) rfl ?_
  exact p_fg (S_X9_firstOrder_89_79 hl FUEL h) ⟨Or.inr rfl, Or.inl rfl, Or.inr rfl, Or.inr rfl, Or.inr rfl, Or.inr rfl, Or.inl rfl, trivial⟩
set_option maxRecDepth 100000 in
theorem S_X9_firstOrder_89_41 {l : Launch} (hl : l.stackTraces = false) : ∀ (n : Nat) {M : PM} {x1 : Int32} {x2 : Int32} {x3 : Int32} {r : PR}, F_X9_firstOrder_89_41  n M x1 x2 x3 = some r → PW l 6 Y_X9_firstOrder k_X9_firstOrder_41 [vR 89, vI x1, vI x2, vI x3, jk, jk, jk] [] M r := by
  intro n
  induction n with
  | zero => intro M x1 x2 x3 r h; exact nomatch (show (none : Option PR) = some r from h)
  | succ n ih =>
    intro M x1 x2 x3 r h
    rw [F_X9_firstOrder_89_41] at h
    refine p_iload_n rfl ?_
    refine p_iload_n rfl ?_
    refine p_icmp_gt h 41 rfl rfl (fun _ h => ?_) (fun _ h => ?_)
    · exact p_fg (S_X9_firstOrder_89_71 hl h) ⟨Or.inr rfl, Or.inr rfl, Or.inr rfl, Or.inl rfl, Or.inl rfl, Or.inl rfl, Or.inl rfl, trivial⟩
    · refine p_iload_n rfl ?_
      refine p_sipush cs_256 ?_
      refine p_icmp_ge h 41 rfl rfl (fun _ h => ?_) (fun _ h => ?_)
      · exact p_fg (S_X9_firstOrder_89_71 hl h) ⟨Or.inr rfl, Or.inr rfl, Or.inr rfl, Or.inl rfl, Or.inl rfl, Or.inl rfl, Or.inl rfl, trivial⟩
      · refine p_aload_n rfl ?_
        refine p_getR fk_X9_15 gt_89 rfl rfl ?_
        refine p_iload_n rfl ?_
        refine p_aload_n rfl ?_
        refine p_iload_n rfl ?_
        refine p_iload_n rfl ?_
        refine p_cI (av := [_, _, _]) ⟨mok_X9_latestAheadOf, Or.inl ⟨88, 89, 9, 0, _, rfl, rfl, rfl, gt_89, rfl, ins_X9_latestAheadOf, Or.inl lk_X9_88⟩⟩ (Nat.le_of_ble_eq_true rfl) (Nat.le_of_ble_eq_true rfl) rfl (fun _ h => pc_X9_latestAheadOf_89 hl h) h (fun v858 M857 h => ?_)
        refine p_iast gt_91 h (fun h => ?_)
        have h := lt_h h
        refine p_iinc (Nat.le_of_ble_eq_true rfl) rfl (ci_1 _) rfl ?_
        refine p_goto 25 rfl rfl ?_
        exact p_fg (ih h) ⟨Or.inr rfl, Or.inr rfl, Or.inr rfl, Or.inr rfl, Or.inl rfl, Or.inl rfl, Or.inl rfl, trivial⟩
set_option maxRecDepth 100000 in
theorem S_X9_firstOrder_89 {l : Launch} (hl : l.stackTraces = false) {M : PM} {a1 : Int32} {r : PR} (h : F_X9_firstOrder_89 M a1 = some r) : PW l 6 Y_X9_firstOrder k_X9_firstOrder [vR 89, vI a1, jk, jk, jk, jk, jk] [] M r := by
  unfold F_X9_firstOrder_89 at h
  refine p_aload_n rfl ?_
  refine p_getR fk_X9_25 gt_89 rfl rfl ?_
  refine p_getI fk_X9_29 gt_16 rfl ?_
  refine p_cI (av := [_]) ⟨mok_X10_all, Or.inr ⟨74, rfl, rfl, sta_X10_all, Or.inr lk_X9_74⟩⟩ (Nat.le_of_ble_eq_true rfl) (Nat.le_of_ble_eq_true rfl) rfl (fun _ h => pc_X10_all hl h) h (fun v861 M860 h => ?_)
  refine p_istore_n (Nat.le_of_ble_eq_true rfl) rfl ?_
  refine p_aload_n rfl ?_
  refine p_getR fk_X9_15 gt_89 rfl rfl ?_
  refine p_iconst cn_0 ?_
  refine p_aload_n rfl ?_
  refine p_getR fk_X9_11 gt_89 rfl rfl ?_
  refine p_iload_n rfl ?_
  refine p_sipush cs_255 ?_
  refine p_iand ?_
  refine p_iald gt_90 h (fun h => ?_)
  refine p_iast gt_91 h (fun h => ?_)
  refine p_aload_n rfl ?_
  refine p_getR fk_X9_15 gt_89 rfl rfl ?_
  refine p_iconst cn_0 ?_
  refine p_iald gt_91 h (fun h => ?_)
  refine p_iconst cn_m1 ?_
  refine p_icmp_ne h 23 rfl rfl (fun _ h => ?_) (fun _ h => ?_)
  · refine p_iconst cn_m1 ?_
    exact p_iret rfl h
  · refine p_iconst cn_1 ?_
    refine p_istore_n (Nat.le_of_ble_eq_true rfl) rfl ?_
    exact p_fg (S_X9_firstOrder_89_41 hl FUEL h) ⟨Or.inr rfl, Or.inr rfl, Or.inr rfl, Or.inr rfl, Or.inl rfl, Or.inl rfl, Or.inl rfl, trivial⟩
set_option maxRecDepth 100000 in
theorem pc_X9_firstOrder_89 {l : Launch} (hl : l.stackTraces = false) {M : PM} {a1 : Int32} {r : PR} (h : F_X9_firstOrder_89 M a1 = some r) : PC l 6 Y_X9_firstOrder [vR 89, vI a1] M r := pc_of hl (by decide +kernel) cok_X9_firstOrder (Nat.le_of_ble_eq_true rfl) rfl (S_X9_firstOrder_89 hl  h) rfl
def F_X9_earliestEnd_89 (M : PM)  : Option PR := cI (F_X10_all M (mI M 16 12)) fun v863 M862 => if ixOK (v863 &&& 255) 256 = true then lt (mA M862 90 (v863 &&& 255).toNatClampNeg) fun y864 => (if y864 = (-1) then some (.inl (some (.int (-1))), M862) else some (.inl (some (.int (y864 - 1))), M862)) else none
set_option maxRecDepth 100000 in
theorem S_X9_earliestEnd_89 {l : Launch} (hl : l.stackTraces = false) {M : PM}  {r : PR} (h : F_X9_earliestEnd_89 M  = some r) : PW l 1 Y_X9_earliestEnd k_X9_earliestEnd [vR 89, jk] [] M r := by
  unfold F_X9_earliestEnd_89 at h
  refine p_aload_n rfl ?_
  refine p_getR fk_X9_11 gt_89 rfl rfl ?_
  refine p_aload_n rfl ?_
  refine p_getR fk_X9_25 gt_89 rfl rfl ?_
  refine p_getI fk_X9_29 gt_16 rfl ?_
  refine p_cI (av := [_]) ⟨mok_X10_all, Or.inr ⟨74, rfl, rfl, sta_X10_all, Or.inr lk_X9_74⟩⟩ (Nat.le_of_ble_eq_true rfl) (Nat.le_of_ble_eq_true rfl) rfl (fun _ h => pc_X10_all hl h) h (fun v863 M862 h => ?_)
  refine p_sipush cs_255 ?_
  refine p_iand ?_
  refine p_iald gt_90 h (fun h => ?_)
  have h := lt_h h
  refine p_istore_n (Nat.le_of_ble_eq_true rfl) rfl ?_
  refine p_iload_n rfl ?_
  refine p_iconst cn_m1 ?_
  refine p_icmp_ne h 15 rfl rfl (fun _ h => ?_) (fun _ h => ?_)
  · refine p_iconst cn_m1 ?_
    refine p_goto 18 rfl rfl ?_
    exact p_iret rfl h
  · refine p_iload_n rfl ?_
    refine p_iconst cn_1 ?_
    refine p_isub ?_
    exact p_iret rfl h
set_option maxRecDepth 100000 in
theorem pc_X9_earliestEnd_89 {l : Launch} (hl : l.stackTraces = false) {M : PM}  {r : PR} (h : F_X9_earliestEnd_89 M  = some r) : PC l 1 Y_X9_earliestEnd [vR 89] M r := pc_of hl (by decide +kernel) cok_X9_earliestEnd (Nat.le_of_ble_eq_true rfl) rfl (S_X9_earliestEnd_89 hl  h) rfl
def F_X10_soonest_0 (M : PM) (a1 : Int32) (a2 : Int32) : Option PR := bV (F_X10_needDay_0 M a1) fun M865 => bV (F_X10_needEither_0 M865 a2) fun M866 => cV (F_X9_plan_89 M866 a1) fun M867 => (if a2 = 0 then cI (F_X9_earliestEnd_89 M867) fun v871 M870 => some (.inl (some (.int v871)), M870) else cI (F_X9_firstOrder_89 M867 a1) fun v869 M868 => some (.inl (some (.int v869)), M868))
set_option maxRecDepth 100000 in
theorem S_X10_soonest_0 {l : Launch} (hl : l.stackTraces = false) {M : PM} {a1 : Int32} {a2 : Int32} {r : PR} (h : F_X10_soonest_0 M a1 a2 = some r) : PW l 8 Y_X10_soonest k_X10_soonest [vR 0, vI a1, vI a2] [] M r := by
  unfold F_X10_soonest_0 at h
  refine p_aload_n rfl ?_
  refine p_iload_n rfl ?_
  refine p_bV mok_X10_needDay rfl gt_0 rfl ins_X10_needDay lk_X10_182 (Nat.le_of_ble_eq_true rfl) (Nat.le_of_ble_eq_true rfl) rfl (fun _ h => pc_X10_needDay_0 hl h) h (fun M865 h => ?_)
  refine p_aload_n rfl ?_
  refine p_iload_n rfl ?_
  refine p_bV mok_X10_needEither rfl gt_0 rfl ins_X10_needEither lk_X10_158 (Nat.le_of_ble_eq_true rfl) (Nat.le_of_ble_eq_true rfl) rfl (fun _ h => pc_X10_needEither_0 hl h) h (fun M866 h => ?_)
  refine p_aload_n rfl ?_
  refine p_getR fk_X10_72 gt_0 rfl rfl ?_
  refine p_iload_n rfl ?_
  refine p_cV (av := [_, _]) ⟨mok_X9_plan, Or.inl ⟨324, 89, 9, 0, _, rfl, rfl, rfl, gt_89, rfl, ins_X9_plan, Or.inr lk_X10_324⟩⟩ (Nat.le_of_ble_eq_true rfl) (Nat.le_of_ble_eq_true rfl) rfl (fun _ h => pc_X9_plan_89 hl h) h (fun M867 h => ?_)
  refine p_iload_n rfl ?_
  refine p_if_ne h 16 rfl rfl (fun _ h => ?_) (fun _ h => ?_)
  · refine p_aload_n rfl ?_
    refine p_getR fk_X10_72 gt_0 rfl rfl ?_
    refine p_cI (av := [_]) ⟨mok_X9_earliestEnd, Or.inl ⟨327, 89, 9, 0, _, rfl, rfl, rfl, gt_89, rfl, ins_X9_earliestEnd, Or.inr lk_X10_327⟩⟩ (Nat.le_of_ble_eq_true rfl) (Nat.le_of_ble_eq_true rfl) rfl (fun _ h => pc_X9_earliestEnd_89 hl h) h (fun v871 M870 h => ?_)
    refine p_goto 20 rfl rfl ?_
    exact p_iret rfl h
  · refine p_aload_n rfl ?_
    refine p_getR fk_X10_72 gt_0 rfl rfl ?_
    refine p_iload_n rfl ?_
    refine p_cI (av := [_, _]) ⟨mok_X9_firstOrder, Or.inl ⟨330, 89, 9, 0, _, rfl, rfl, rfl, gt_89, rfl, ins_X9_firstOrder, Or.inr lk_X10_330⟩⟩ (Nat.le_of_ble_eq_true rfl) (Nat.le_of_ble_eq_true rfl) rfl (fun _ h => pc_X9_firstOrder_89 hl h) h (fun v869 M868 h => ?_)
    exact p_iret rfl h
set_option maxRecDepth 100000 in
theorem pc_X10_soonest_0 {l : Launch} (hl : l.stackTraces = false) {M : PM} {a1 : Int32} {a2 : Int32} {r : PR} (h : F_X10_soonest_0 M a1 a2 = some r) : PC l 8 Y_X10_soonest [vR 0, vI a1, vI a2] M r := pc_of hl (by decide +kernel) cok_X10_soonest (Nat.le_of_ble_eq_true rfl) rfl (S_X10_soonest_0 hl  h) rfl
def F_X10_rest_0 (M : PM)  : Option PR := lt (mI M 16 12) fun y872 => some (.inl (some (.int y872)), sI M 16 12 0)
set_option maxRecDepth 100000 in
theorem S_X10_rest_0 {l : Launch} (hl : l.stackTraces = false) {M : PM}  {r : PR} (h : F_X10_rest_0 M  = some r) : PW l 0 Y_X10_rest k_X10_rest [vR 0, jk] [] M r := by
  unfold F_X10_rest_0 at h
  refine p_aload_n rfl ?_
  refine p_getR fk_X10_34 gt_0 rfl rfl ?_
  refine p_getI fk_X10_333 gt_16 rfl ?_
  have h := lt_h h
  refine p_istore_n (Nat.le_of_ble_eq_true rfl) rfl ?_
  refine p_aload_n rfl ?_
  refine p_getR fk_X10_34 gt_0 rfl rfl ?_
  refine p_iconst cn_0 ?_
  refine p_putI fk_X10_333 gt_16 rfl ?_
  refine p_iload_n rfl ?_
  exact p_iret rfl h
set_option maxRecDepth 100000 in
theorem pc_X10_rest_0 {l : Launch} (hl : l.stackTraces = false) {M : PM}  {r : PR} (h : F_X10_rest_0 M  = some r) : PC l 0 Y_X10_rest [vR 0] M r := pc_of hl (by decide +kernel) cok_X10_rest (Nat.le_of_ble_eq_true rfl) rfl (S_X10_rest_0 hl  h) rfl
def F_X10_needTwoLaws_0 (M : PM) (a1 : Int32) (a2 : Int32) : Option PR := bV (F_X10_needLaw_0 M a1) fun M873 => bV (F_X10_needLaw_0 M873 a2) fun M874 => (if a1 = a2 then bV (F_X10_need_0 M874 0) fun M875 => some (.inl none, M875) else bV (F_X10_need_0 M874 1) fun M876 => some (.inl none, M876))
set_option maxRecDepth 100000 in
theorem S_X10_needTwoLaws_0 {l : Launch} (hl : l.stackTraces = false) {M : PM} {a1 : Int32} {a2 : Int32} {r : PR} (h : F_X10_needTwoLaws_0 M a1 a2 = some r) : PW l 8 Y_X10_needTwoLaws k_X10_needTwoLaws [vR 0, vI a1, vI a2] [] M r := by
  unfold F_X10_needTwoLaws_0 at h
  refine p_aload_n rfl ?_
  refine p_iload_n rfl ?_
  refine p_bV mok_X10_needLaw rfl gt_0 rfl ins_X10_needLaw lk_X10_155 (Nat.le_of_ble_eq_true rfl) (Nat.le_of_ble_eq_true rfl) rfl (fun _ h => pc_X10_needLaw_0 hl h) h (fun M873 h => ?_)
  refine p_aload_n rfl ?_
  refine p_iload_n rfl ?_
  refine p_bV mok_X10_needLaw rfl gt_0 rfl ins_X10_needLaw lk_X10_155 (Nat.le_of_ble_eq_true rfl) (Nat.le_of_ble_eq_true rfl) rfl (fun _ h => pc_X10_needLaw_0 hl h) h (fun M874 h => ?_)
  refine p_aload_n rfl ?_
  refine p_iload_n rfl ?_
  refine p_iload_n rfl ?_
  refine p_icmp_eq h 12 rfl rfl (fun _ h => ?_) (fun _ h => ?_)
  · refine p_iconst cn_0 ?_
    refine p_bV mok_X10_need rfl gt_0 rfl ins_X10_need lk_X10_101 (Nat.le_of_ble_eq_true rfl) (Nat.le_of_ble_eq_true rfl) rfl (fun _ h => pc_X10_need_0 hl h) h (fun M875 h => ?_)
    exact p_ret rfl h
  · refine p_iconst cn_1 ?_
    refine p_goto 13 rfl rfl ?_
    refine p_bV mok_X10_need rfl gt_0 rfl ins_X10_need lk_X10_101 (Nat.le_of_ble_eq_true rfl) (Nat.le_of_ble_eq_true rfl) rfl (fun _ h => pc_X10_need_0 hl h) h (fun M876 h => ?_)
    exact p_ret rfl h
set_option maxRecDepth 100000 in
theorem pc_X10_needTwoLaws_0 {l : Launch} (hl : l.stackTraces = false) {M : PM} {a1 : Int32} {a2 : Int32} {r : PR} (h : F_X10_needTwoLaws_0 M a1 a2 = some r) : PC l 8 Y_X10_needTwoLaws [vR 0, vI a1, vI a2] M r := pc_of hl (by decide +kernel) cok_X10_needTwoLaws (Nat.le_of_ble_eq_true rfl) rfl (S_X10_needTwoLaws_0 hl  h) rfl
def F_X2_daysWithout_4 (M : PM) (a1 : Int32) (a2 : Int32) (a3 : Int32) : Option PR := cI (F_X2_weekOf_4 M a1) fun v878 M877 => cI (F_X2_weekOf_4 M877 a2) fun v880 M879 => cI (F_X10_commonTurn M879 v878 v880) fun v882 M881 => (if v882 < 1 then some (.inl (some (.int 0)), M881) else cI (F_X2_weekOf_4 M881 a1) fun v884 M883 => (if 1 ≤ v884 then cI (F_X2_weekOf_4 M883 a1) fun v886 M885 => if v886 = 0 then none else cI (F_X2_meetingWith_4 M885 a1) fun v888 M887 => cI (F_X10_isIn M887 a2 v888) fun v890 M889 => (if v890 = 0 then some (.inl (some (.int ((a3 / v886) - 0))), M889) else if v882 = 0 then none else some (.inl (some (.int ((a3 / v886) - (a3 / v882)))), M889)) else some (.inl (some (.int 0)), M883)))
set_option maxRecDepth 100000 in
theorem S_X2_daysWithout_4 {l : Launch} (hl : l.stackTraces = false) {M : PM} {a1 : Int32} {a2 : Int32} {a3 : Int32} {r : PR} (h : F_X2_daysWithout_4 M a1 a2 a3 = some r) : PW l 2 Y_X2_daysWithout k_X2_daysWithout [vR 4, vI a1, vI a2, vI a3, jk] [] M r := by
  unfold F_X2_daysWithout_4 at h
  refine p_aload_n rfl ?_
  refine p_iload_n rfl ?_
  refine p_cI (av := [_, _]) ⟨mok_X2_weekOf, Or.inl ⟨105, 4, 2, 0, _, rfl, rfl, rfl, gt_4, rfl, ins_X2_weekOf, Or.inl lk_X2_105⟩⟩ (Nat.le_of_ble_eq_true rfl) (Nat.le_of_ble_eq_true rfl) rfl (fun _ h => pc_X2_weekOf_4 hl h) h (fun v878 M877 h => ?_)
  refine p_aload_n rfl ?_
  refine p_iload_n rfl ?_
  refine p_cI (av := [_, _]) ⟨mok_X2_weekOf, Or.inl ⟨105, 4, 2, 0, _, rfl, rfl, rfl, gt_4, rfl, ins_X2_weekOf, Or.inl lk_X2_105⟩⟩ (Nat.le_of_ble_eq_true rfl) (Nat.le_of_ble_eq_true rfl) rfl (fun _ h => pc_X2_weekOf_4 hl h) h (fun v880 M879 h => ?_)
  refine p_cI (av := [_, _]) ⟨mok_X10_commonTurn, Or.inr ⟨68, rfl, rfl, sta_X10_commonTurn, Or.inr lk_X2_68⟩⟩ (Nat.le_of_ble_eq_true rfl) (Nat.le_of_ble_eq_true rfl) rfl (fun _ h => pc_X10_commonTurn hl h) h (fun v882 M881 h => ?_)
  refine p_istore (Nat.le_of_ble_eq_true rfl) rfl ?_
  refine p_iload rfl ?_
  refine p_iconst cn_1 ?_
  refine p_icmp_lt h 16 rfl rfl (fun _ h => ?_) (fun _ h => ?_)
  · refine p_iconst cn_0 ?_
    exact p_iret rfl h
  · refine p_aload_n rfl ?_
    refine p_iload_n rfl ?_
    refine p_cI (av := [_, _]) ⟨mok_X2_weekOf, Or.inl ⟨105, 4, 2, 0, _, rfl, rfl, rfl, gt_4, rfl, ins_X2_weekOf, Or.inl lk_X2_105⟩⟩ (Nat.le_of_ble_eq_true rfl) (Nat.le_of_ble_eq_true rfl) rfl (fun _ h => pc_X2_weekOf_4 hl h) h (fun v884 M883 h => ?_)
    refine p_iconst cn_1 ?_
    refine p_icmp_ge h 18 rfl rfl (fun _ h => ?_) (fun _ h => ?_)
    · refine p_iload_n rfl ?_
      refine p_aload_n rfl ?_
      refine p_iload_n rfl ?_
      refine p_cI (av := [_, _]) ⟨mok_X2_weekOf, Or.inl ⟨105, 4, 2, 0, _, rfl, rfl, rfl, gt_4, rfl, ins_X2_weekOf, Or.inl lk_X2_105⟩⟩ (Nat.le_of_ble_eq_true rfl) (Nat.le_of_ble_eq_true rfl) rfl (fun _ h => pc_X2_weekOf_4 hl h) h (fun v886 M885 h => ?_)
      refine p_idiv h (fun h => ?_)
      refine p_iload_n rfl ?_
      refine p_aload_n rfl ?_
      refine p_iload_n rfl ?_
      refine p_cI (av := [_, _]) ⟨mok_X2_meetingWith, Or.inl ⟨108, 4, 2, 0, _, rfl, rfl, rfl, gt_4, rfl, ins_X2_meetingWith, Or.inl lk_X2_108⟩⟩ (Nat.le_of_ble_eq_true rfl) (Nat.le_of_ble_eq_true rfl) rfl (fun _ h => pc_X2_meetingWith_4 hl h) h (fun v888 M887 h => ?_)
      refine p_cI (av := [_, _]) ⟨mok_X10_isIn, Or.inr ⟨61, rfl, rfl, sta_X10_isIn, Or.inr lk_X2_61⟩⟩ (Nat.le_of_ble_eq_true rfl) (Nat.le_of_ble_eq_true rfl) rfl (fun _ h => pc_X10_isIn hl h) h (fun v890 M889 h => ?_)
      refine p_if_eq h 33 rfl rfl (fun _ h => ?_) (fun _ h => ?_)
      · refine p_iconst cn_0 ?_
        refine p_isub ?_
        exact p_iret rfl h
      · refine p_iload_n rfl ?_
        refine p_iload rfl ?_
        refine p_idiv h (fun h => ?_)
        refine p_goto 34 rfl rfl ?_
        refine p_isub ?_
        exact p_iret rfl h
    · refine p_iconst cn_0 ?_
      exact p_iret rfl h
set_option maxRecDepth 100000 in
theorem pc_X2_daysWithout_4 {l : Launch} (hl : l.stackTraces = false) {M : PM} {a1 : Int32} {a2 : Int32} {a3 : Int32} {r : PR} (h : F_X2_daysWithout_4 M a1 a2 a3 = some r) : PC l 2 Y_X2_daysWithout [vR 4, vI a1, vI a2, vI a3] M r := pc_of hl (by decide +kernel) cok_X2_daysWithout (Nat.le_of_ble_eq_true rfl) rfl (S_X2_daysWithout_4 hl  h) rfl
def F_X10_thief_0 (M : PM) (a1 : Int32) (a2 : Int32) : Option PR := bV (F_X10_needTwoLaws_0 M a1 a2) fun M891 => cI (F_X2_daysWithout_4 M891 a1 a2 (mI M891 3 6)) fun v893 M892 => some (.inl (some (.int v893)), M892)
set_option maxRecDepth 100000 in
theorem S_X10_thief_0 {l : Launch} (hl : l.stackTraces = false) {M : PM} {a1 : Int32} {a2 : Int32} {r : PR} (h : F_X10_thief_0 M a1 a2 = some r) : PW l 9 Y_X10_thief k_X10_thief [vR 0, vI a1, vI a2] [] M r := by
  unfold F_X10_thief_0 at h
  refine p_aload_n rfl ?_
  refine p_iload_n rfl ?_
  refine p_iload_n rfl ?_
  refine p_bV mok_X10_needTwoLaws rfl gt_0 rfl ins_X10_needTwoLaws lk_X10_335 (Nat.le_of_ble_eq_true rfl) (Nat.le_of_ble_eq_true rfl) rfl (fun _ h => pc_X10_needTwoLaws_0 hl h) h (fun M891 h => ?_)
  refine p_aload_n rfl ?_
  refine p_getR fk_X10_27 gt_0 rfl rfl ?_
  refine p_getR fk_X10_128 gt_3 rfl rfl ?_
  refine p_iload_n rfl ?_
  refine p_iload_n rfl ?_
  refine p_aload_n rfl ?_
  refine p_getR fk_X10_27 gt_0 rfl rfl ?_
  refine p_getI fk_X10_149 gt_3 rfl ?_
  refine p_cI (av := [_, _, _, _]) ⟨mok_X2_daysWithout, Or.inl ⟨338, 4, 2, 0, _, rfl, rfl, rfl, gt_4, rfl, ins_X2_daysWithout, Or.inr lk_X10_338⟩⟩ (Nat.le_of_ble_eq_true rfl) (Nat.le_of_ble_eq_true rfl) rfl (fun _ h => pc_X2_daysWithout_4 hl h) h (fun v893 M892 h => ?_)
  exact p_iret rfl h
set_option maxRecDepth 100000 in
theorem pc_X10_thief_0 {l : Launch} (hl : l.stackTraces = false) {M : PM} {a1 : Int32} {a2 : Int32} {r : PR} (h : F_X10_thief_0 M a1 a2 = some r) : PC l 9 Y_X10_thief [vR 0, vI a1, vI a2] M r := pc_of hl (by decide +kernel) cok_X10_thief (Nat.le_of_ble_eq_true rfl) rfl (S_X10_thief_0 hl  h) rfl
def F_X2_watchDay_4_86 (k42 : PM → Int32 → Int32 → Int32 → Int32 → Int32 → Int32 → Option PR) (M : PM) (x1 : Int32) (x2 : Int32) (x3 : Int32) (x5 : Int32) (x6 : Int32) (x7 : Int32) : Option PR := cI (F_X2_weekOf_4 M x1) fun v895 M894 => cI (F_J9_max_7cf53 M894 v895 1) fun v897 M896 => lt (x7 + v897) fun y898 => k42 M896 x1 x2 x3 x5 x6 y898
def F_X2_watchDay_4_82 (k42 : PM → Int32 → Int32 → Int32 → Int32 → Int32 → Int32 → Option PR) (M : PM) (x1 : Int32) (x2 : Int32) (x3 : Int32) (x5 : Int32) (x7 : Int32) (x8 : Int32) : Option PR := F_X2_watchDay_4_86 k42 M x1 x2 x3 x5 x8 x7
def F_X2_watchDay_4_42 : Nat → PM → Int32 → Int32 → Int32 → Int32 → Int32 → Int32 → Option PR
  | 0, _, _, _, _, _, _, _ => none
  | n + 1, M, x1, x2, x3, x5, x6, x7 => (if x5 ≤ x7 then some (.inl (some (.int x6)), M) else cI (F_X2_isHeld_4 M x2 x7) fun v900 M899 => (if v900 = 0 then cI (F_X10_left M899 x7 x3) fun v902 M901 => (if x6 = (-1) then F_X2_watchDay_4_82 (F_X2_watchDay_4_42 n) M901 x1 x2 x3 x5 x7 v902 else (if x6 = v902 then F_X2_watchDay_4_82 (F_X2_watchDay_4_42 n) M901 x1 x2 x3 x5 x7 v902 else some (.inl (some (.int (-1))), M901))) else F_X2_watchDay_4_86 (F_X2_watchDay_4_42 n) M899 x1 x2 x3 x5 x6 x7))
def F_X2_watchDay_4_30 (M : PM) (x1 : Int32) (x2 : Int32) (x3 : Int32) (t0 : Int32) : Option PR := cI (F_X2_dayOf_4 M x1) fun v904 M903 => F_X2_watchDay_4_42 FUEL M903 x1 x2 x3 t0 (-1) v904
def F_X2_watchDay_4 (M : PM) (a1 : Int32) (a2 : Int32) (a3 : Int32) : Option PR := cI (F_X2_weekOf_4 M a1) fun v906 M905 => cI (F_X2_weekOf_4 M905 a2) fun v908 M907 => cI (F_X10_commonTurn M907 v906 v908) fun v910 M909 => cI (F_X10_left M909 v910 a3) fun v912 M911 => (if v912 = 0 then F_X2_watchDay_4_30 M911 a1 a2 a3 v910 else F_X2_watchDay_4_30 M911 a1 a2 a3 0)
set_option maxRecDepth 100000 in
theorem S_X2_watchDay_4_86 {l : Launch} (hl : l.stackTraces = false) {k42 : PM → Int32 → Int32 → Int32 → Int32 → Int32 → Int32 → Option PR} (hk42 : ∀ {M : PM} {x1 : Int32} {x2 : Int32} {x3 : Int32} {x5 : Int32} {x6 : Int32} {x7 : Int32} {r : PR}, k42 M x1 x2 x3 x5 x6 x7 = some r → PW l 2 Y_X2_watchDay k_X2_watchDay_42 [vR 4, vI x1, vI x2, vI x3, jk, vI x5, vI x6, vI x7, jk] [] M r) {M : PM} {x1 : Int32} {x2 : Int32} {x3 : Int32} {x5 : Int32} {x6 : Int32} {x7 : Int32} {r : PR} (h : F_X2_watchDay_4_86 k42 M x1 x2 x3 x5 x6 x7 = some r) : PW l 2 Y_X2_watchDay k_X2_watchDay_86 [vR 4, vI x1, vI x2, vI x3, jk, vI x5, vI x6, vI x7, jk] [] M r := by
  unfold F_X2_watchDay_4_86 at h
  refine p_iload rfl ?_
  refine p_aload_n rfl ?_
  refine p_iload_n rfl ?_
  refine p_cI (av := [_, _]) ⟨mok_X2_weekOf, Or.inl ⟨105, 4, 2, 0, _, rfl, rfl, rfl, gt_4, rfl, ins_X2_weekOf, Or.inl lk_X2_105⟩⟩ (Nat.le_of_ble_eq_true rfl) (Nat.le_of_ble_eq_true rfl) rfl (fun _ h => pc_X2_weekOf_4 hl h) h (fun v895 M894 h => ?_)
  refine p_iconst cn_1 ?_
  refine p_cI (av := [_, _]) ⟨mok_J9_max_7cf53, Or.inr ⟨9, rfl, rfl, sta_J9_max_7cf53, Or.inl lk_X2_9⟩⟩ (Nat.le_of_ble_eq_true rfl) (Nat.le_of_ble_eq_true rfl) rfl (fun _ h => pc_J9_max_7cf53 hl h) h (fun v897 M896 h => ?_)
  refine p_iadd ?_
  have h := lt_h h
  refine p_istore (Nat.le_of_ble_eq_true rfl) rfl ?_
  refine p_goto 22 rfl rfl ?_
  exact p_fg (hk42 h) ⟨Or.inr rfl, Or.inr rfl, Or.inr rfl, Or.inr rfl, Or.inl rfl, Or.inr rfl, Or.inr rfl, Or.inr rfl, Or.inl rfl, trivial⟩
set_option maxRecDepth 100000 in
theorem S_X2_watchDay_4_82 {l : Launch} (hl : l.stackTraces = false) {k42 : PM → Int32 → Int32 → Int32 → Int32 → Int32 → Int32 → Option PR} (hk42 : ∀ {M : PM} {x1 : Int32} {x2 : Int32} {x3 : Int32} {x5 : Int32} {x6 : Int32} {x7 : Int32} {r : PR}, k42 M x1 x2 x3 x5 x6 x7 = some r → PW l 2 Y_X2_watchDay k_X2_watchDay_42 [vR 4, vI x1, vI x2, vI x3, jk, vI x5, vI x6, vI x7, jk] [] M r) {M : PM} {x1 : Int32} {x2 : Int32} {x3 : Int32} {x5 : Int32} {x7 : Int32} {x8 : Int32} {r : PR} (h : F_X2_watchDay_4_82 k42 M x1 x2 x3 x5 x7 x8 = some r) : PW l 2 Y_X2_watchDay k_X2_watchDay_82 [vR 4, vI x1, vI x2, vI x3, jk, vI x5, jk, vI x7, vI x8] [] M r := by
  unfold F_X2_watchDay_4_82 at h
  refine p_iload rfl ?_
  refine p_istore (Nat.le_of_ble_eq_true rfl) rfl ?_
  exact p_fg (S_X2_watchDay_4_86 hl hk42 h) ⟨Or.inr rfl, Or.inr rfl, Or.inr rfl, Or.inr rfl, Or.inl rfl, Or.inr rfl, Or.inr rfl, Or.inr rfl, Or.inl rfl, trivial⟩
set_option maxRecDepth 100000 in
theorem S_X2_watchDay_4_42 {l : Launch} (hl : l.stackTraces = false) : ∀ (n : Nat) {M : PM} {x1 : Int32} {x2 : Int32} {x3 : Int32} {x5 : Int32} {x6 : Int32} {x7 : Int32} {r : PR}, F_X2_watchDay_4_42  n M x1 x2 x3 x5 x6 x7 = some r → PW l 2 Y_X2_watchDay k_X2_watchDay_42 [vR 4, vI x1, vI x2, vI x3, jk, vI x5, vI x6, vI x7, jk] [] M r := by
  intro n
  induction n with
  | zero => intro M x1 x2 x3 x5 x6 x7 r h; exact nomatch (show (none : Option PR) = some r from h)
  | succ n ih =>
    intro M x1 x2 x3 x5 x6 x7 r h
    rw [F_X2_watchDay_4_42] at h
    refine p_iload rfl ?_
    refine p_iload rfl ?_
    refine p_icmp_ge h 53 rfl rfl (fun _ h => ?_) (fun _ h => ?_)
    · refine p_iload rfl ?_
      exact p_iret rfl h
    · refine p_aload_n rfl ?_
      refine p_iload_n rfl ?_
      refine p_iload rfl ?_
      refine p_cI (av := [_, _, _]) ⟨mok_X2_isHeld, Or.inl ⟨71, 4, 2, 0, _, rfl, rfl, rfl, gt_4, rfl, ins_X2_isHeld, Or.inl lk_X2_71⟩⟩ (Nat.le_of_ble_eq_true rfl) (Nat.le_of_ble_eq_true rfl) rfl (fun _ h => pc_X2_isHeld_4 hl h) h (fun v900 M899 h => ?_)
      refine p_if_ne h 44 rfl rfl (fun _ h => ?_) (fun _ h => ?_)
      · refine p_iload rfl ?_
        refine p_iload_n rfl ?_
        refine p_cI (av := [_, _]) ⟨mok_X10_left, Or.inr ⟨54, rfl, rfl, sta_X10_left, Or.inr lk_X2_54⟩⟩ (Nat.le_of_ble_eq_true rfl) (Nat.le_of_ble_eq_true rfl) rfl (fun _ h => pc_X10_left hl h) h (fun v902 M901 h => ?_)
        refine p_istore (Nat.le_of_ble_eq_true rfl) rfl ?_
        refine p_iload rfl ?_
        refine p_iconst cn_m1 ?_
        refine p_icmp_eq h 42 rfl rfl (fun _ h => ?_) (fun _ h => ?_)
        · exact p_fg (S_X2_watchDay_4_82 hl (fun h => ih h) h) ⟨Or.inr rfl, Or.inr rfl, Or.inr rfl, Or.inr rfl, Or.inl rfl, Or.inr rfl, Or.inl rfl, Or.inr rfl, Or.inr rfl, trivial⟩
        · refine p_iload rfl ?_
          refine p_iload rfl ?_
          refine p_icmp_eq h 42 rfl rfl (fun _ h => ?_) (fun _ h => ?_)
          · exact p_fg (S_X2_watchDay_4_82 hl (fun h => ih h) h) ⟨Or.inr rfl, Or.inr rfl, Or.inr rfl, Or.inr rfl, Or.inl rfl, Or.inr rfl, Or.inl rfl, Or.inr rfl, Or.inr rfl, trivial⟩
          · refine p_iconst cn_m1 ?_
            exact p_iret rfl h
      · exact p_fg (S_X2_watchDay_4_86 hl (fun h => ih h) h) ⟨Or.inr rfl, Or.inr rfl, Or.inr rfl, Or.inr rfl, Or.inl rfl, Or.inr rfl, Or.inr rfl, Or.inr rfl, Or.inl rfl, trivial⟩
set_option maxRecDepth 100000 in
theorem S_X2_watchDay_4_30 {l : Launch} (hl : l.stackTraces = false) {M : PM} {x1 : Int32} {x2 : Int32} {x3 : Int32} {t0 : Int32} {r : PR} (h : F_X2_watchDay_4_30  M x1 x2 x3 t0 = some r) : PW l 2 Y_X2_watchDay k_X2_watchDay_30 [vR 4, vI x1, vI x2, vI x3, jk, jk, jk, jk, jk] [vI t0] M r := by
  unfold F_X2_watchDay_4_30 at h
  refine p_istore (Nat.le_of_ble_eq_true rfl) rfl ?_
  refine p_iconst cn_m1 ?_
  refine p_istore (Nat.le_of_ble_eq_true rfl) rfl ?_
  refine p_aload_n rfl ?_
  refine p_iload_n rfl ?_
  refine p_cI (av := [_, _]) ⟨mok_X2_dayOf, Or.inl ⟨111, 4, 2, 0, _, rfl, rfl, rfl, gt_4, rfl, ins_X2_dayOf, Or.inl lk_X2_111⟩⟩ (Nat.le_of_ble_eq_true rfl) (Nat.le_of_ble_eq_true rfl) rfl (fun _ h => pc_X2_dayOf_4 hl h) h (fun v904 M903 h => ?_)
  refine p_istore (Nat.le_of_ble_eq_true rfl) rfl ?_
  exact p_fg (S_X2_watchDay_4_42 hl FUEL h) ⟨Or.inr rfl, Or.inr rfl, Or.inr rfl, Or.inr rfl, Or.inl rfl, Or.inr rfl, Or.inr rfl, Or.inr rfl, Or.inl rfl, trivial⟩
set_option maxRecDepth 100000 in
theorem S_X2_watchDay_4 {l : Launch} (hl : l.stackTraces = false) {M : PM} {a1 : Int32} {a2 : Int32} {a3 : Int32} {r : PR} (h : F_X2_watchDay_4 M a1 a2 a3 = some r) : PW l 2 Y_X2_watchDay k_X2_watchDay [vR 4, vI a1, vI a2, vI a3, jk, jk, jk, jk, jk] [] M r := by
  unfold F_X2_watchDay_4 at h
  refine p_aload_n rfl ?_
  refine p_iload_n rfl ?_
  refine p_cI (av := [_, _]) ⟨mok_X2_weekOf, Or.inl ⟨105, 4, 2, 0, _, rfl, rfl, rfl, gt_4, rfl, ins_X2_weekOf, Or.inl lk_X2_105⟩⟩ (Nat.le_of_ble_eq_true rfl) (Nat.le_of_ble_eq_true rfl) rfl (fun _ h => pc_X2_weekOf_4 hl h) h (fun v906 M905 h => ?_)
  refine p_aload_n rfl ?_
  refine p_iload_n rfl ?_
  refine p_cI (av := [_, _]) ⟨mok_X2_weekOf, Or.inl ⟨105, 4, 2, 0, _, rfl, rfl, rfl, gt_4, rfl, ins_X2_weekOf, Or.inl lk_X2_105⟩⟩ (Nat.le_of_ble_eq_true rfl) (Nat.le_of_ble_eq_true rfl) rfl (fun _ h => pc_X2_weekOf_4 hl h) h (fun v908 M907 h => ?_)
  refine p_cI (av := [_, _]) ⟨mok_X10_commonTurn, Or.inr ⟨68, rfl, rfl, sta_X10_commonTurn, Or.inr lk_X2_68⟩⟩ (Nat.le_of_ble_eq_true rfl) (Nat.le_of_ble_eq_true rfl) rfl (fun _ h => pc_X10_commonTurn hl h) h (fun v910 M909 h => ?_)
  refine p_istore (Nat.le_of_ble_eq_true rfl) rfl ?_
  refine p_iload rfl ?_
  refine p_iload_n rfl ?_
  refine p_cI (av := [_, _]) ⟨mok_X10_left, Or.inr ⟨54, rfl, rfl, sta_X10_left, Or.inr lk_X2_54⟩⟩ (Nat.le_of_ble_eq_true rfl) (Nat.le_of_ble_eq_true rfl) rfl (fun _ h => pc_X10_left hl h) h (fun v912 M911 h => ?_)
  refine p_if_ne h 14 rfl rfl (fun _ h => ?_) (fun _ h => ?_)
  · refine p_iload rfl ?_
    refine p_goto 15 rfl rfl ?_
    exact p_fg (S_X2_watchDay_4_30 hl h) ⟨Or.inr rfl, Or.inr rfl, Or.inr rfl, Or.inr rfl, Or.inl rfl, Or.inl rfl, Or.inl rfl, Or.inl rfl, Or.inl rfl, trivial⟩
  · refine p_iconst cn_0 ?_
    exact p_fg (S_X2_watchDay_4_30 hl h) ⟨Or.inr rfl, Or.inr rfl, Or.inr rfl, Or.inr rfl, Or.inl rfl, Or.inl rfl, Or.inl rfl, Or.inl rfl, Or.inl rfl, trivial⟩
set_option maxRecDepth 100000 in
theorem pc_X2_watchDay_4 {l : Launch} (hl : l.stackTraces = false) {M : PM} {a1 : Int32} {a2 : Int32} {a3 : Int32} {r : PR} (h : F_X2_watchDay_4 M a1 a2 a3 = some r) : PC l 2 Y_X2_watchDay [vR 4, vI a1, vI a2, vI a3] M r := pc_of hl (by decide +kernel) cok_X2_watchDay (Nat.le_of_ble_eq_true rfl) rfl (S_X2_watchDay_4 hl  h) rfl
def F_X10_guard_0_9 : Nat → PM → Int32 → Int32 → Int32 → Option PR
  | 0, _, _, _, _ => none
  | n + 1, M, x1, x2, x3 => (if x3 < 2 then some (.inl (some (.int (-1))), M) else cI (F_X2_watchDay_4 M x1 x2 x3) fun v914 M913 => (if v914 = (-1) then lt (x3 + (-1)) fun y915 => F_X10_guard_0_9 n M913 x1 x2 y915 else some (.inl (some (.int ((100 * x3) + v914))), M913)))
def F_X10_guard_0 (M : PM) (a1 : Int32) (a2 : Int32) : Option PR := bV (F_X10_needTwoLaws_0 M a1 a2) fun M916 => F_X10_guard_0_9 FUEL M916 a1 a2 24
set_option maxRecDepth 100000 in
theorem S_X10_guard_0_9 {l : Launch} (hl : l.stackTraces = false) : ∀ (n : Nat) {M : PM} {x1 : Int32} {x2 : Int32} {x3 : Int32} {r : PR}, F_X10_guard_0_9  n M x1 x2 x3 = some r → PW l 9 Y_X10_guard k_X10_guard_9 [vR 0, vI x1, vI x2, vI x3, jk] [] M r := by
  intro n
  induction n with
  | zero => intro M x1 x2 x3 r h; exact nomatch (show (none : Option PR) = some r from h)
  | succ n ih =>
    intro M x1 x2 x3 r h
    rw [F_X10_guard_0_9] at h
    refine p_iload_n rfl ?_
    refine p_iconst cn_2 ?_
    refine p_icmp_lt h 28 rfl rfl (fun _ h => ?_) (fun _ h => ?_)
    · refine p_iconst cn_m1 ?_
      exact p_iret rfl h
    · refine p_aload_n rfl ?_
      refine p_getR fk_X10_27 gt_0 rfl rfl ?_
      refine p_getR fk_X10_128 gt_3 rfl rfl ?_
      refine p_iload_n rfl ?_
      refine p_iload_n rfl ?_
      refine p_iload_n rfl ?_
      refine p_cI (av := [_, _, _, _]) ⟨mok_X2_watchDay, Or.inl ⟨341, 4, 2, 0, _, rfl, rfl, rfl, gt_4, rfl, ins_X2_watchDay, Or.inr lk_X10_341⟩⟩ (Nat.le_of_ble_eq_true rfl) (Nat.le_of_ble_eq_true rfl) rfl (fun _ h => pc_X2_watchDay_4 hl h) h (fun v914 M913 h => ?_)
      refine p_istore (Nat.le_of_ble_eq_true rfl) rfl ?_
      refine p_iload rfl ?_
      refine p_iconst cn_m1 ?_
      refine p_icmp_eq h 26 rfl rfl (fun _ h => ?_) (fun _ h => ?_)
      · have h := lt_h h
        refine p_iinc (Nat.le_of_ble_eq_true rfl) rfl (ci_m1 _) rfl ?_
        refine p_goto 6 rfl rfl ?_
        exact p_fg (ih h) ⟨Or.inr rfl, Or.inr rfl, Or.inr rfl, Or.inr rfl, Or.inl rfl, trivial⟩
      · refine p_bipush cb_100 ?_
        refine p_iload_n rfl ?_
        refine p_imul ?_
        refine p_iload rfl ?_
        refine p_iadd ?_
        exact p_iret rfl h
set_option maxRecDepth 100000 in
theorem S_X10_guard_0 {l : Launch} (hl : l.stackTraces = false) {M : PM} {a1 : Int32} {a2 : Int32} {r : PR} (h : F_X10_guard_0 M a1 a2 = some r) : PW l 9 Y_X10_guard k_X10_guard [vR 0, vI a1, vI a2, jk, jk] [] M r := by
  unfold F_X10_guard_0 at h
  refine p_aload_n rfl ?_
  refine p_iload_n rfl ?_
  refine p_iload_n rfl ?_
  refine p_bV mok_X10_needTwoLaws rfl gt_0 rfl ins_X10_needTwoLaws lk_X10_335 (Nat.le_of_ble_eq_true rfl) (Nat.le_of_ble_eq_true rfl) rfl (fun _ h => pc_X10_needTwoLaws_0 hl h) h (fun M916 h => ?_)
  refine p_bipush cb_24 ?_
  refine p_istore_n (Nat.le_of_ble_eq_true rfl) rfl ?_
  exact p_fg (S_X10_guard_0_9 hl FUEL h) ⟨Or.inr rfl, Or.inr rfl, Or.inr rfl, Or.inr rfl, Or.inl rfl, trivial⟩
set_option maxRecDepth 100000 in
theorem pc_X10_guard_0 {l : Launch} (hl : l.stackTraces = false) {M : PM} {a1 : Int32} {a2 : Int32} {r : PR} (h : F_X10_guard_0 M a1 a2 = some r) : PC l 9 Y_X10_guard [vR 0, vI a1, vI a2] M r := pc_of hl (by decide +kernel) cok_X10_guard (Nat.le_of_ble_eq_true rfl) rfl (S_X10_guard_0 hl  h) rfl
