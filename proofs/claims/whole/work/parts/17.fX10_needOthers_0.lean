def F_X10_needOthers_0 (M : PM) (a1 : Int32) : Option PR := cI (F_X10_all M (mI M 9 4)) fun v918 M917 => (if a1 &&& (v918 ^^^ (-1)) = 0 then bV (F_X10_need_0 M917 1) fun M920 => some (.inl none, M920) else bV (F_X10_need_0 M917 0) fun M919 => some (.inl none, M919))
set_option maxRecDepth 100000 in
theorem S_X10_needOthers_0 {l : Launch} (hl : l.stackTraces = false) {M : PM} {a1 : Int32} {r : PR} (h : F_X10_needOthers_0 M a1 = some r) : PW l 7 Y_X10_needOthers k_X10_needOthers [vR 0, vI a1] [] M r := by
  unfold F_X10_needOthers_0 at h
  refine p_aload_n rfl ?_
  refine p_iload_n rfl ?_
  refine p_aload_n rfl ?_
  refine p_getR fk_X10_27 gt_0 rfl rfl ?_
  refine p_getR fk_X10_140 gt_3 rfl rfl ?_
  refine p_getI fk_X10_132 gt_9 rfl ?_
  refine p_cI (av := [_]) ⟨mok_X10_all, Or.inr ⟨237, rfl, rfl, sta_X10_all, Or.inl lk_X10_237⟩⟩ (Nat.le_of_ble_eq_true rfl) (Nat.le_of_ble_eq_true rfl) rfl (fun _ h => pc_X10_all hl h) h (fun v918 M917 h => ?_)
  refine p_iconst cn_m1 ?_
  refine p_ixor ?_
  refine p_iand ?_
  refine p_if_ne h 13 rfl rfl (fun _ h => ?_) (fun _ h => ?_)
  · refine p_iconst cn_1 ?_
    refine p_goto 14 rfl rfl ?_
    refine p_bV mok_X10_need rfl gt_0 rfl ins_X10_need lk_X10_101 (Nat.le_of_ble_eq_true rfl) (Nat.le_of_ble_eq_true rfl) rfl (fun _ h => pc_X10_need_0 hl h) h (fun M920 h => ?_)
    exact p_ret rfl h
  · refine p_iconst cn_0 ?_
    refine p_bV mok_X10_need rfl gt_0 rfl ins_X10_need lk_X10_101 (Nat.le_of_ble_eq_true rfl) (Nat.le_of_ble_eq_true rfl) rfl (fun _ h => pc_X10_need_0 hl h) h (fun M919 h => ?_)
    exact p_ret rfl h
set_option maxRecDepth 100000 in
theorem pc_X10_needOthers_0 {l : Launch} (hl : l.stackTraces = false) {M : PM} {a1 : Int32} {r : PR} (h : F_X10_needOthers_0 M a1 = some r) : PC l 7 Y_X10_needOthers [vR 0, vI a1] M r := pc_of hl (by decide +kernel) cok_X10_needOthers (Nat.le_of_ble_eq_true rfl) rfl (S_X10_needOthers_0 hl  h) rfl
def F_X10_trade_0_24 : Nat → PM → Int32 → Int32 → Option PR
  | 0, _, _, _ => none
  | n + 1, M, x3, x4 => (if mI M 3 7 ≤ x4 then some (.inl (some (.int x3)), M) else cJ (F_X1_daysFrom_27 M x4) fun v922 M921 => cJ (F_X10_low M921 ((mI M921 3 7) - x4)) fun v924 M923 => cI (F_J13_bitCount_95d88 M923 (v922 &&& v924)) fun v926 M925 => lt (x3 + v926) fun y927 => lt (x4 + 64) fun y928 => F_X10_trade_0_24 n M925 y927 y928)
def F_X10_trade_0 (M : PM) (a1 : Int32) (a2 : Int32) : Option PR := bV (F_X10_needLaws_0 M a1) fun M929 => bV (F_X10_needOthers_0 M929 a2) fun M930 => cV (F_X1_bar_27 M930 a1 a2) fun M931 => F_X10_trade_0_24 FUEL M931 0 0
set_option maxRecDepth 100000 in
theorem S_X10_trade_0_24 {l : Launch} (hl : l.stackTraces = false) : ∀ (n : Nat) {M : PM} {x3 : Int32} {x4 : Int32} {r : PR}, F_X10_trade_0_24  n M x3 x4 = some r → PW l 8 Y_X10_trade k_X10_trade_24 [vR 0, jk, jk, vI x3, vI x4] [] M r := by
  intro n
  induction n with
  | zero => intro M x3 x4 r h; exact nomatch (show (none : Option PR) = some r from h)
  | succ n ih =>
    intro M x3 x4 r h
    rw [F_X10_trade_0_24] at h
    refine p_iload rfl ?_
    refine p_aload_n rfl ?_
    refine p_getR fk_X10_27 gt_0 rfl rfl ?_
    refine p_getI fk_X10_152 gt_3 rfl ?_
    refine p_icmp_ge h 37 rfl rfl (fun _ h => ?_) (fun _ h => ?_)
    · refine p_iload_n rfl ?_
      exact p_iret rfl h
    · refine p_iload_n rfl ?_
      refine p_aload_n rfl ?_
      refine p_getR fk_X10_63 gt_0 rfl rfl ?_
      refine p_iload rfl ?_
      refine p_cJ (av := [_, _]) ⟨mok_X1_daysFrom, Or.inl ⟨347, 27, 1, 0, _, rfl, rfl, rfl, gt_27, rfl, ins_X1_daysFrom, Or.inr lk_X10_347⟩⟩ (Nat.le_of_ble_eq_true rfl) (Nat.le_of_ble_eq_true rfl) rfl (fun _ h => pc_X1_daysFrom_27 hl h) h (fun v922 M921 h => ?_)
      refine p_aload_n rfl ?_
      refine p_getR fk_X10_27 gt_0 rfl rfl ?_
      refine p_getI fk_X10_152 gt_3 rfl ?_
      refine p_iload rfl ?_
      refine p_isub ?_
      refine p_cJ (av := [_]) ⟨mok_X10_low, Or.inr ⟨229, rfl, rfl, sta_X10_low, Or.inl lk_X10_229⟩⟩ (Nat.le_of_ble_eq_true rfl) (Nat.le_of_ble_eq_true rfl) rfl (fun _ h => pc_X10_low hl h) h (fun v924 M923 h => ?_)
      refine p_land ?_
      refine p_cI (av := [_]) ⟨mok_J13_bitCount_95d88, Or.inr ⟨232, rfl, rfl, sta_J13_bitCount_95d88, Or.inl lk_X10_232⟩⟩ (Nat.le_of_ble_eq_true rfl) (Nat.le_of_ble_eq_true rfl) rfl (fun _ h => pc_J13_bitCount_95d88 hl h) h (fun v926 M925 h => ?_)
      refine p_iadd ?_
      have h := lt_h h
      refine p_istore_n (Nat.le_of_ble_eq_true rfl) rfl ?_
      have h := lt_h h
      refine p_iinc (Nat.le_of_ble_eq_true rfl) rfl (ci_64 _) rfl ?_
      refine p_goto 15 rfl rfl ?_
      exact p_fg (ih h) ⟨Or.inr rfl, Or.inl rfl, Or.inl rfl, Or.inr rfl, Or.inr rfl, trivial⟩
set_option maxRecDepth 100000 in
theorem S_X10_trade_0 {l : Launch} (hl : l.stackTraces = false) {M : PM} {a1 : Int32} {a2 : Int32} {r : PR} (h : F_X10_trade_0 M a1 a2 = some r) : PW l 8 Y_X10_trade k_X10_trade [vR 0, vI a1, vI a2, jk, jk] [] M r := by
  unfold F_X10_trade_0 at h
  refine p_aload_n rfl ?_
  refine p_iload_n rfl ?_
  refine p_bV mok_X10_needLaws rfl gt_0 rfl ins_X10_needLaws lk_X10_201 (Nat.le_of_ble_eq_true rfl) (Nat.le_of_ble_eq_true rfl) rfl (fun _ h => pc_X10_needLaws_0 hl h) h (fun M929 h => ?_)
  refine p_aload_n rfl ?_
  refine p_iload_n rfl ?_
  refine p_bV mok_X10_needOthers rfl gt_0 rfl ins_X10_needOthers lk_X10_344 (Nat.le_of_ble_eq_true rfl) (Nat.le_of_ble_eq_true rfl) rfl (fun _ h => pc_X10_needOthers_0 hl h) h (fun M930 h => ?_)
  refine p_aload_n rfl ?_
  refine p_getR fk_X10_63 gt_0 rfl rfl ?_
  refine p_iload_n rfl ?_
  refine p_iload_n rfl ?_
  refine p_cV (av := [_, _, _]) ⟨mok_X1_bar, Or.inl ⟨240, 27, 1, 0, _, rfl, rfl, rfl, gt_27, rfl, ins_X1_bar, Or.inr lk_X10_240⟩⟩ (Nat.le_of_ble_eq_true rfl) (Nat.le_of_ble_eq_true rfl) rfl (fun _ h => pc_X1_bar_27 hl h) h (fun M931 h => ?_)
  refine p_iconst cn_0 ?_
  refine p_istore_n (Nat.le_of_ble_eq_true rfl) rfl ?_
  refine p_iconst cn_0 ?_
  refine p_istore (Nat.le_of_ble_eq_true rfl) rfl ?_
  exact p_fg (S_X10_trade_0_24 hl FUEL h) ⟨Or.inr rfl, Or.inl rfl, Or.inl rfl, Or.inr rfl, Or.inr rfl, trivial⟩
set_option maxRecDepth 100000 in
theorem pc_X10_trade_0 {l : Launch} (hl : l.stackTraces = false) {M : PM} {a1 : Int32} {a2 : Int32} {r : PR} (h : F_X10_trade_0 M a1 a2 = some r) : PC l 8 Y_X10_trade [vR 0, vI a1, vI a2] M r := pc_of hl (by decide +kernel) cok_X10_trade (Nat.le_of_ble_eq_true rfl) rfl (S_X10_trade_0 hl  h) rfl
def F_X10_market_0 (M : PM) (a1 : Int32) (a2 : Int32) (a3 : Int32) : Option PR := bV (F_X10_needDay_0 M a1) fun M932 => bV (F_X10_needLaws_0 M932 a2) fun M933 => bV (F_X10_needOthers_0 M933 a3) fun M934 => cV (F_X1_bar_27 M934 a2 a3) fun M935 => cI (F_X1_nthFrom_27 M935 a1 1) fun v937 M936 => some (.inl (some (.int v937)), M936)
set_option maxRecDepth 100000 in
theorem S_X10_market_0 {l : Launch} (hl : l.stackTraces = false) {M : PM} {a1 : Int32} {a2 : Int32} {a3 : Int32} {r : PR} (h : F_X10_market_0 M a1 a2 a3 = some r) : PW l 8 Y_X10_market k_X10_market [vR 0, vI a1, vI a2, vI a3] [] M r := by
  unfold F_X10_market_0 at h
  refine p_aload_n rfl ?_
  refine p_iload_n rfl ?_
  refine p_bV mok_X10_needDay rfl gt_0 rfl ins_X10_needDay lk_X10_182 (Nat.le_of_ble_eq_true rfl) (Nat.le_of_ble_eq_true rfl) rfl (fun _ h => pc_X10_needDay_0 hl h) h (fun M932 h => ?_)
  refine p_aload_n rfl ?_
  refine p_iload_n rfl ?_
  refine p_bV mok_X10_needLaws rfl gt_0 rfl ins_X10_needLaws lk_X10_201 (Nat.le_of_ble_eq_true rfl) (Nat.le_of_ble_eq_true rfl) rfl (fun _ h => pc_X10_needLaws_0 hl h) h (fun M933 h => ?_)
  refine p_aload_n rfl ?_
  refine p_iload_n rfl ?_
  refine p_bV mok_X10_needOthers rfl gt_0 rfl ins_X10_needOthers lk_X10_344 (Nat.le_of_ble_eq_true rfl) (Nat.le_of_ble_eq_true rfl) rfl (fun _ h => pc_X10_needOthers_0 hl h) h (fun M934 h => ?_)
  refine p_aload_n rfl ?_
  refine p_getR fk_X10_63 gt_0 rfl rfl ?_
  refine p_iload_n rfl ?_
  refine p_iload_n rfl ?_
  refine p_cV (av := [_, _, _]) ⟨mok_X1_bar, Or.inl ⟨240, 27, 1, 0, _, rfl, rfl, rfl, gt_27, rfl, ins_X1_bar, Or.inr lk_X10_240⟩⟩ (Nat.le_of_ble_eq_true rfl) (Nat.le_of_ble_eq_true rfl) rfl (fun _ h => pc_X1_bar_27 hl h) h (fun M935 h => ?_)
  refine p_aload_n rfl ?_
  refine p_getR fk_X10_63 gt_0 rfl rfl ?_
  refine p_iload_n rfl ?_
  refine p_iconst cn_1 ?_
  refine p_cI (av := [_, _, _]) ⟨mok_X1_nthFrom, Or.inl ⟨349, 27, 1, 0, _, rfl, rfl, rfl, gt_27, rfl, ins_X1_nthFrom, Or.inr lk_X10_349⟩⟩ (Nat.le_of_ble_eq_true rfl) (Nat.le_of_ble_eq_true rfl) rfl (fun _ h => pc_X1_nthFrom_27 hl h) h (fun v937 M936 h => ?_)
  exact p_iret rfl h
set_option maxRecDepth 100000 in
theorem pc_X10_market_0 {l : Launch} (hl : l.stackTraces = false) {M : PM} {a1 : Int32} {a2 : Int32} {a3 : Int32} {r : PR} (h : F_X10_market_0 M a1 a2 a3 = some r) : PC l 8 Y_X10_market [vR 0, vI a1, vI a2, vI a3] M r := pc_of hl (by decide +kernel) cok_X10_market (Nat.le_of_ble_eq_true rfl) rfl (S_X10_market_0 hl  h) rfl
def F_X3_copy_43_16_160 : Nat → PM → Int32 → Option PR
  | 0, _, _ => none
  | n + 1, M, x2 => (if mI M 43 12 ≤ x2 then some (.inl none, M) else if ixOK x2 8 = true then if ixOK x2 8 = true then if ixOK x2 8 = true then if ixOK x2 8 = true then lt (x2 + 1) fun y938 => F_X3_copy_43_16_160 n (sA (sA M 52 x2.toNatClampNeg (mA M 25 x2.toNatClampNeg)) 53 x2.toNatClampNeg (mA (sA M 52 x2.toNatClampNeg (mA M 25 x2.toNatClampNeg)) 26 x2.toNatClampNeg)) y938 else none else none else none else none)
def F_X3_copy_43_16_88 : Nat → PM → Int32 → Option PR
  | 0, _, _ => none
  | n + 1, M, x2 => (if mI M 43 9 ≤ x2 then F_X3_copy_43_16_160 FUEL (sI M 43 12 (mI M 16 12)) 0 else if ixOK x2 20 = true then if ixOK x2 20 = true then if ixOK x2 20 = true then if ixOK x2 20 = true then if ixOK x2 20 = true then if ixOK x2 20 = true then lt (sA (sA (sA M 48 x2.toNatClampNeg (mA M 21 x2.toNatClampNeg)) 49 x2.toNatClampNeg (mA (sA M 48 x2.toNatClampNeg (mA M 21 x2.toNatClampNeg)) 22 x2.toNatClampNeg)) 50 x2.toNatClampNeg (mA (sA (sA M 48 x2.toNatClampNeg (mA M 21 x2.toNatClampNeg)) 49 x2.toNatClampNeg (mA (sA M 48 x2.toNatClampNeg (mA M 21 x2.toNatClampNeg)) 22 x2.toNatClampNeg)) 23 x2.toNatClampNeg)) fun M939 => if ixOK x2 20 = true then if ixOK x2 20 = true then lt (x2 + 1) fun y940 => F_X3_copy_43_16_88 n (sA M939 51 x2.toNatClampNeg ((mA M939 24 x2.toNatClampNeg) &&& 1)) y940 else none else none else none else none else none else none else none else none)
def F_X3_copy_43_16_28 : Nat → PM → Int32 → Option PR
  | 0, _, _ => none
  | n + 1, M, x2 => (if mI M 43 4 ≤ x2 then F_X3_copy_43_16_88 FUEL (sI M 43 9 (mI M 16 9)) 0 else if ixOK x2 20 = true then if ixOK x2 20 = true then if ixOK x2 20 = true then if ixOK x2 20 = true then if ixOK x2 20 = true then if ixOK x2 20 = true then lt (sA (sA (sA M 45 x2.toNatClampNeg (mA M 18 x2.toNatClampNeg)) 46 x2.toNatClampNeg (mA (sA M 45 x2.toNatClampNeg (mA M 18 x2.toNatClampNeg)) 19 x2.toNatClampNeg)) 47 x2.toNatClampNeg ((mA (sA (sA M 45 x2.toNatClampNeg (mA M 18 x2.toNatClampNeg)) 46 x2.toNatClampNeg (mA (sA M 45 x2.toNatClampNeg (mA M 18 x2.toNatClampNeg)) 19 x2.toNatClampNeg)) 20 x2.toNatClampNeg) &&& 1)) fun M941 => lt (x2 + 1) fun y942 => F_X3_copy_43_16_28 n M941 y942 else none else none else none else none else none else none)
def F_X3_copy_43_16 (M : PM)  : Option PR := if cpOK 0 0 120 120 120 = true then lt (sI (cA M 17 44 (0 : Int32).toNatClampNeg (0 : Int32).toNatClampNeg (120 : Int32).toNatClampNeg) 43 4 (mI (cA M 17 44 (0 : Int32).toNatClampNeg (0 : Int32).toNatClampNeg (120 : Int32).toNatClampNeg) 16 4)) fun M943 => F_X3_copy_43_16_28 FUEL M943 0 else none
set_option maxRecDepth 100000 in
theorem S_X3_copy_43_16_160 {l : Launch} (hl : l.stackTraces = false) : ∀ (n : Nat) {M : PM} {x2 : Int32} {r : PR}, F_X3_copy_43_16_160  n M x2 = some r → PW l 1 Y_X3_copy k_X3_copy_160 [vR 43, vR 16, vI x2] [] M r := by
  intro n
  induction n with
  | zero => intro M x2 r h; exact nomatch (show (none : Option PR) = some r from h)
  | succ n ih =>
    intro M x2 r h
    rw [F_X3_copy_43_16_160] at h
    refine p_iload_n rfl ?_
    refine p_aload_n rfl ?_
    refine p_getI fk_X3_59 gt_43 rfl ?_
    refine p_icmp_ge h 118 rfl rfl (fun _ h => ?_) (fun _ h => ?_)
    · exact p_ret rfl h
    · refine p_aload_n rfl ?_
      refine p_getR fk_X3_37 gt_43 rfl rfl ?_
      refine p_iload_n rfl ?_
      refine p_aload_n rfl ?_
      refine p_getR fk_X3_37 gt_16 rfl rfl ?_
      refine p_iload_n rfl ?_
      refine p_iald gt_25 h (fun h => ?_)
      refine p_iast gt_52 h (fun h => ?_)
      refine p_aload_n rfl ?_
      refine p_getR fk_X3_40 gt_43 rfl rfl ?_
      refine p_iload_n rfl ?_
      refine p_aload_n rfl ?_
      refine p_getR fk_X3_40 gt_16 rfl rfl ?_
      refine p_iload_n rfl ?_
      refine p_iald gt_26 h (fun h => ?_)
      refine p_iast gt_53 h (fun h => ?_)
      have h := lt_h h
      refine p_iinc (Nat.le_of_ble_eq_true rfl) rfl (ci_1 _) rfl ?_
      refine p_goto 96 rfl rfl ?_
      exact p_fg (ih h) ⟨Or.inr rfl, Or.inr rfl, Or.inr rfl, trivial⟩
set_option maxRecDepth 100000 in
theorem S_X3_copy_43_16_88 {l : Launch} (hl : l.stackTraces = false) : ∀ (n : Nat) {M : PM} {x2 : Int32} {r : PR}, F_X3_copy_43_16_88  n M x2 = some r → PW l 1 Y_X3_copy k_X3_copy_88 [vR 43, vR 16, vI x2] [] M r := by
  intro n
  induction n with
  | zero => intro M x2 r h; exact nomatch (show (none : Option PR) = some r from h)
  | succ n ih =>
    intro M x2 r h
    rw [F_X3_copy_43_16_88] at h
    refine p_iload_n rfl ?_
    refine p_aload_n rfl ?_
    refine p_getI fk_X3_56 gt_43 rfl ?_
    refine p_icmp_ge h 90 rfl rfl (fun _ h => ?_) (fun _ h => ?_)
    · refine p_aload_n rfl ?_
      refine p_aload_n rfl ?_
      refine p_getI fk_X3_59 gt_16 rfl ?_
      refine p_putI fk_X3_59 gt_43 rfl ?_
      refine p_iconst cn_0 ?_
      refine p_istore_n (Nat.le_of_ble_eq_true rfl) rfl ?_
      exact p_fg (S_X3_copy_43_16_160 hl FUEL h) ⟨Or.inr rfl, Or.inr rfl, Or.inr rfl, trivial⟩
    · refine p_aload_n rfl ?_
      refine p_getR fk_X3_25 gt_43 rfl rfl ?_
      refine p_iload_n rfl ?_
      refine p_aload_n rfl ?_
      refine p_getR fk_X3_25 gt_16 rfl rfl ?_
      refine p_iload_n rfl ?_
      refine p_iald gt_21 h (fun h => ?_)
      refine p_iast gt_48 h (fun h => ?_)
      refine p_aload_n rfl ?_
      refine p_getR fk_X3_28 gt_43 rfl rfl ?_
      refine p_iload_n rfl ?_
      refine p_aload_n rfl ?_
      refine p_getR fk_X3_28 gt_16 rfl rfl ?_
      refine p_iload_n rfl ?_
      refine p_iald gt_22 h (fun h => ?_)
      refine p_iast gt_49 h (fun h => ?_)
      refine p_aload_n rfl ?_
      refine p_getR fk_X3_31 gt_43 rfl rfl ?_
      refine p_iload_n rfl ?_
      refine p_aload_n rfl ?_
      refine p_getR fk_X3_31 gt_16 rfl rfl ?_
      refine p_iload_n rfl ?_
      refine p_iald gt_23 h (fun h => ?_)
      refine p_iast gt_50 h (fun h => ?_)
      have h := lt_h h
      refine p_aload_n rfl ?_
      refine p_getR fk_X3_34 gt_43 rfl rfl ?_
      refine p_iload_n rfl ?_
      refine p_aload_n rfl ?_
      refine p_getR fk_X3_34 gt_16 rfl rfl ?_
      refine p_iload_n rfl ?_
      refine p_zald gt_24 h (fun h => ?_)
      refine p_zast gt_51 h (fun h => ?_)
      have h := lt_h h
      refine p_iinc (Nat.le_of_ble_eq_true rfl) rfl (ci_1 _) rfl ?_
      refine p_goto 52 rfl rfl ?_
      exact p_fg (ih h) ⟨Or.inr rfl, Or.inr rfl, Or.inr rfl, trivial⟩
set_option maxRecDepth 100000 in
theorem S_X3_copy_43_16_28 {l : Launch} (hl : l.stackTraces = false) : ∀ (n : Nat) {M : PM} {x2 : Int32} {r : PR}, F_X3_copy_43_16_28  n M x2 = some r → PW l 1 Y_X3_copy k_X3_copy_28 [vR 43, vR 16, vI x2] [] M r := by
  intro n
  induction n with
  | zero => intro M x2 r h; exact nomatch (show (none : Option PR) = some r from h)
  | succ n ih =>
    intro M x2 r h
    rw [F_X3_copy_43_16_28] at h
    refine p_iload_n rfl ?_
    refine p_aload_n rfl ?_
    refine p_getI fk_X3_52 gt_43 rfl ?_
    refine p_icmp_ge h 46 rfl rfl (fun _ h => ?_) (fun _ h => ?_)
    · refine p_aload_n rfl ?_
      refine p_aload_n rfl ?_
      refine p_getI fk_X3_56 gt_16 rfl ?_
      refine p_putI fk_X3_56 gt_43 rfl ?_
      refine p_iconst cn_0 ?_
      refine p_istore_n (Nat.le_of_ble_eq_true rfl) rfl ?_
      exact p_fg (S_X3_copy_43_16_88 hl FUEL h) ⟨Or.inr rfl, Or.inr rfl, Or.inr rfl, trivial⟩
    · refine p_aload_n rfl ?_
      refine p_getR fk_X3_15 gt_43 rfl rfl ?_
      refine p_iload_n rfl ?_
      refine p_aload_n rfl ?_
      refine p_getR fk_X3_15 gt_16 rfl rfl ?_
      refine p_iload_n rfl ?_
      refine p_iald gt_18 h (fun h => ?_)
      refine p_iast gt_45 h (fun h => ?_)
      refine p_aload_n rfl ?_
      refine p_getR fk_X3_18 gt_43 rfl rfl ?_
      refine p_iload_n rfl ?_
      refine p_aload_n rfl ?_
      refine p_getR fk_X3_18 gt_16 rfl rfl ?_
      refine p_iload_n rfl ?_
      refine p_iald gt_19 h (fun h => ?_)
      refine p_iast gt_46 h (fun h => ?_)
      refine p_aload_n rfl ?_
      refine p_getR fk_X3_21 gt_43 rfl rfl ?_
      refine p_iload_n rfl ?_
      refine p_aload_n rfl ?_
      refine p_getR fk_X3_21 gt_16 rfl rfl ?_
      refine p_iload_n rfl ?_
      refine p_zald gt_20 h (fun h => ?_)
      refine p_zast gt_47 h (fun h => ?_)
      have h := lt_h h
      have h := lt_h h
      refine p_iinc (Nat.le_of_ble_eq_true rfl) rfl (ci_1 _) rfl ?_
      refine p_goto 16 rfl rfl ?_
      exact p_fg (ih h) ⟨Or.inr rfl, Or.inr rfl, Or.inr rfl, trivial⟩
set_option maxRecDepth 100000 in
theorem S_X3_copy_43_16 {l : Launch} (hl : l.stackTraces = false) {M : PM}  {r : PR} (h : F_X3_copy_43_16 M  = some r) : PW l 1 Y_X3_copy k_X3_copy [vR 43, vR 16, jk] [] M r := by
  unfold F_X3_copy_43_16 at h
  refine p_aload_n rfl ?_
  refine p_getR fk_X3_9 gt_16 rfl rfl ?_
  refine p_iconst cn_0 ?_
  refine p_aload_n rfl ?_
  refine p_getR fk_X3_9 gt_43 rfl rfl ?_
  refine p_iconst cn_0 ?_
  refine p_aload_n rfl ?_
  refine p_getR fk_X3_9 gt_43 rfl rfl ?_
  refine p_alen gt_44 (by simp) al_120 ?_
  refine p_copyI cp_X3_46 (Nat.le_of_ble_eq_true rfl) (Nat.le_of_ble_eq_true rfl) gt_17 gt_44 h (fun h => ?_)
  refine p_aload_n rfl ?_
  refine p_aload_n rfl ?_
  refine p_getI fk_X3_52 gt_16 rfl ?_
  refine p_putI fk_X3_52 gt_43 rfl ?_
  have h := lt_h h
  refine p_iconst cn_0 ?_
  refine p_istore_n (Nat.le_of_ble_eq_true rfl) rfl ?_
  exact p_fg (S_X3_copy_43_16_28 hl FUEL h) ⟨Or.inr rfl, Or.inr rfl, Or.inr rfl, trivial⟩
set_option maxRecDepth 100000 in
theorem pc_X3_copy_43_16 {l : Launch} (hl : l.stackTraces = false) {M : PM}  {r : PR} (h : F_X3_copy_43_16 M  = some r) : PC l 1 Y_X3_copy [vR 43, vR 16] M r := pc_of hl (by decide +kernel) cok_X3_copy (Nat.le_of_ble_eq_true rfl) rfl (S_X3_copy_43_16 hl  h) rfl
def F_X3_copy_65_16_160 : Nat → PM → Int32 → Option PR
  | 0, _, _ => none
  | n + 1, M, x2 => (if mI M 65 12 ≤ x2 then some (.inl none, M) else if ixOK x2 8 = true then if ixOK x2 8 = true then if ixOK x2 8 = true then if ixOK x2 8 = true then lt (x2 + 1) fun y944 => F_X3_copy_65_16_160 n (sA (sA M 74 x2.toNatClampNeg (mA M 25 x2.toNatClampNeg)) 75 x2.toNatClampNeg (mA (sA M 74 x2.toNatClampNeg (mA M 25 x2.toNatClampNeg)) 26 x2.toNatClampNeg)) y944 else none else none else none else none)
def F_X3_copy_65_16_88 : Nat → PM → Int32 → Option PR
  | 0, _, _ => none
  | n + 1, M, x2 => (if mI M 65 9 ≤ x2 then F_X3_copy_65_16_160 FUEL (sI M 65 12 (mI M 16 12)) 0 else if ixOK x2 20 = true then if ixOK x2 20 = true then if ixOK x2 20 = true then if ixOK x2 20 = true then if ixOK x2 20 = true then if ixOK x2 20 = true then lt (sA (sA (sA M 70 x2.toNatClampNeg (mA M 21 x2.toNatClampNeg)) 71 x2.toNatClampNeg (mA (sA M 70 x2.toNatClampNeg (mA M 21 x2.toNatClampNeg)) 22 x2.toNatClampNeg)) 72 x2.toNatClampNeg (mA (sA (sA M 70 x2.toNatClampNeg (mA M 21 x2.toNatClampNeg)) 71 x2.toNatClampNeg (mA (sA M 70 x2.toNatClampNeg (mA M 21 x2.toNatClampNeg)) 22 x2.toNatClampNeg)) 23 x2.toNatClampNeg)) fun M945 => if ixOK x2 20 = true then if ixOK x2 20 = true then lt (x2 + 1) fun y946 => F_X3_copy_65_16_88 n (sA M945 73 x2.toNatClampNeg ((mA M945 24 x2.toNatClampNeg) &&& 1)) y946 else none else none else none else none else none else none else none else none)
def F_X3_copy_65_16_28 : Nat → PM → Int32 → Option PR
  | 0, _, _ => none
  | n + 1, M, x2 => (if mI M 65 4 ≤ x2 then F_X3_copy_65_16_88 FUEL (sI M 65 9 (mI M 16 9)) 0 else if ixOK x2 20 = true then if ixOK x2 20 = true then if ixOK x2 20 = true then if ixOK x2 20 = true then if ixOK x2 20 = true then if ixOK x2 20 = true then lt (sA (sA (sA M 67 x2.toNatClampNeg (mA M 18 x2.toNatClampNeg)) 68 x2.toNatClampNeg (mA (sA M 67 x2.toNatClampNeg (mA M 18 x2.toNatClampNeg)) 19 x2.toNatClampNeg)) 69 x2.toNatClampNeg ((mA (sA (sA M 67 x2.toNatClampNeg (mA M 18 x2.toNatClampNeg)) 68 x2.toNatClampNeg (mA (sA M 67 x2.toNatClampNeg (mA M 18 x2.toNatClampNeg)) 19 x2.toNatClampNeg)) 20 x2.toNatClampNeg) &&& 1)) fun M947 => lt (x2 + 1) fun y948 => F_X3_copy_65_16_28 n M947 y948 else none else none else none else none else none else none)
def F_X3_copy_65_16 (M : PM)  : Option PR := if cpOK 0 0 120 120 120 = true then lt (sI (cA M 17 66 (0 : Int32).toNatClampNeg (0 : Int32).toNatClampNeg (120 : Int32).toNatClampNeg) 65 4 (mI (cA M 17 66 (0 : Int32).toNatClampNeg (0 : Int32).toNatClampNeg (120 : Int32).toNatClampNeg) 16 4)) fun M949 => F_X3_copy_65_16_28 FUEL M949 0 else none
set_option maxRecDepth 100000 in
theorem S_X3_copy_65_16_160 {l : Launch} (hl : l.stackTraces = false) : ∀ (n : Nat) {M : PM} {x2 : Int32} {r : PR}, F_X3_copy_65_16_160  n M x2 = some r → PW l 1 Y_X3_copy k_X3_copy_160 [vR 65, vR 16, vI x2] [] M r := by
  intro n
  induction n with
  | zero => intro M x2 r h; exact nomatch (show (none : Option PR) = some r from h)
  | succ n ih =>
    intro M x2 r h
    rw [F_X3_copy_65_16_160] at h
    refine p_iload_n rfl ?_
    refine p_aload_n rfl ?_
    refine p_getI fk_X3_59 gt_65 rfl ?_
    refine p_icmp_ge h 118 rfl rfl (fun _ h => ?_) (fun _ h => ?_)
    · exact p_ret rfl h
    · refine p_aload_n rfl ?_
      refine p_getR fk_X3_37 gt_65 rfl rfl ?_
      refine p_iload_n rfl ?_
      refine p_aload_n rfl ?_
      refine p_getR fk_X3_37 gt_16 rfl rfl ?_
      refine p_iload_n rfl ?_
      refine p_iald gt_25 h (fun h => ?_)
      refine p_iast gt_74 h (fun h => ?_)
      refine p_aload_n rfl ?_
      refine p_getR fk_X3_40 gt_65 rfl rfl ?_
      refine p_iload_n rfl ?_
      refine p_aload_n rfl ?_
      refine p_getR fk_X3_40 gt_16 rfl rfl ?_
      refine p_iload_n rfl ?_
      refine p_iald gt_26 h (fun h => ?_)
      refine p_iast gt_75 h (fun h => ?_)
      have h := lt_h h
      refine p_iinc (Nat.le_of_ble_eq_true rfl) rfl (ci_1 _) rfl ?_
      refine p_goto 96 rfl rfl ?_
      exact p_fg (ih h) ⟨Or.inr rfl, Or.inr rfl, Or.inr rfl, trivial⟩
set_option maxRecDepth 100000 in
theorem S_X3_copy_65_16_88 {l : Launch} (hl : l.stackTraces = false) : ∀ (n : Nat) {M : PM} {x2 : Int32} {r : PR}, F_X3_copy_65_16_88  n M x2 = some r → PW l 1 Y_X3_copy k_X3_copy_88 [vR 65, vR 16, vI x2] [] M r := by
  intro n
  induction n with
  | zero => intro M x2 r h; exact nomatch (show (none : Option PR) = some r from h)
  | succ n ih =>
    intro M x2 r h
    rw [F_X3_copy_65_16_88] at h
    refine p_iload_n rfl ?_
    refine p_aload_n rfl ?_
    refine p_getI fk_X3_56 gt_65 rfl ?_
    refine p_icmp_ge h 90 rfl rfl (fun _ h => ?_) (fun _ h => ?_)
    · refine p_aload_n rfl ?_
      refine p_aload_n rfl ?_
      refine p_getI fk_X3_59 gt_16 rfl ?_
      refine p_putI fk_X3_59 gt_65 rfl ?_
      refine p_iconst cn_0 ?_
      refine p_istore_n (Nat.le_of_ble_eq_true rfl) rfl ?_
      exact p_fg (S_X3_copy_65_16_160 hl FUEL h) ⟨Or.inr rfl, Or.inr rfl, Or.inr rfl, trivial⟩
    · refine p_aload_n rfl ?_
      refine p_getR fk_X3_25 gt_65 rfl rfl ?_
      refine p_iload_n rfl ?_
      refine p_aload_n rfl ?_
      refine p_getR fk_X3_25 gt_16 rfl rfl ?_
      refine p_iload_n rfl ?_
      refine p_iald gt_21 h (fun h => ?_)
      refine p_iast gt_70 h (fun h => ?_)
      refine p_aload_n rfl ?_
      refine p_getR fk_X3_28 gt_65 rfl rfl ?_
      refine p_iload_n rfl ?_
      refine p_aload_n rfl ?_
      refine p_getR fk_X3_28 gt_16 rfl rfl ?_
      refine p_iload_n rfl ?_
      refine p_iald gt_22 h (fun h => ?_)
      refine p_iast gt_71 h (fun h => ?_)
      refine p_aload_n rfl ?_
      refine p_getR fk_X3_31 gt_65 rfl rfl ?_
      refine p_iload_n rfl ?_
      refine p_aload_n rfl ?_
      refine p_getR fk_X3_31 gt_16 rfl rfl ?_
      refine p_iload_n rfl ?_
      refine p_iald gt_23 h (fun h => ?_)
      refine p_iast gt_72 h (fun h => ?_)
      have h := lt_h h
      refine p_aload_n rfl ?_
      refine p_getR fk_X3_34 gt_65 rfl rfl ?_
      refine p_iload_n rfl ?_
      refine p_aload_n rfl ?_
      refine p_getR fk_X3_34 gt_16 rfl rfl ?_
      refine p_iload_n rfl ?_
      refine p_zald gt_24 h (fun h => ?_)
      refine p_zast gt_73 h (fun h => ?_)
      have h := lt_h h
      refine p_iinc (Nat.le_of_ble_eq_true rfl) rfl (ci_1 _) rfl ?_
      refine p_goto 52 rfl rfl ?_
      exact p_fg (ih h) ⟨Or.inr rfl, Or.inr rfl, Or.inr rfl, trivial⟩
set_option maxRecDepth 100000 in
theorem S_X3_copy_65_16_28 {l : Launch} (hl : l.stackTraces = false) : ∀ (n : Nat) {M : PM} {x2 : Int32} {r : PR}, F_X3_copy_65_16_28  n M x2 = some r → PW l 1 Y_X3_copy k_X3_copy_28 [vR 65, vR 16, vI x2] [] M r := by
  intro n
  induction n with
  | zero => intro M x2 r h; exact nomatch (show (none : Option PR) = some r from h)
  | succ n ih =>
    intro M x2 r h
    rw [F_X3_copy_65_16_28] at h
    refine p_iload_n rfl ?_
    refine p_aload_n rfl ?_
    refine p_getI fk_X3_52 gt_65 rfl ?_
    refine p_icmp_ge h 46 rfl rfl (fun _ h => ?_) (fun _ h => ?_)
    · refine p_aload_n rfl ?_
      refine p_aload_n rfl ?_
      refine p_getI fk_X3_56 gt_16 rfl ?_
      refine p_putI fk_X3_56 gt_65 rfl ?_
      refine p_iconst cn_0 ?_
      refine p_istore_n (Nat.le_of_ble_eq_true rfl) rfl ?_
      exact p_fg (S_X3_copy_65_16_88 hl FUEL h) ⟨Or.inr rfl, Or.inr rfl, Or.inr rfl, trivial⟩
    · refine p_aload_n rfl ?_
      refine p_getR fk_X3_15 gt_65 rfl rfl ?_
      refine p_iload_n rfl ?_
      refine p_aload_n rfl ?_
      refine p_getR fk_X3_15 gt_16 rfl rfl ?_
      refine p_iload_n rfl ?_
      refine p_iald gt_18 h (fun h => ?_)
      refine p_iast gt_67 h (fun h => ?_)
      refine p_aload_n rfl ?_
      refine p_getR fk_X3_18 gt_65 rfl rfl ?_
      refine p_iload_n rfl ?_
      refine p_aload_n rfl ?_
      refine p_getR fk_X3_18 gt_16 rfl rfl ?_
      refine p_iload_n rfl ?_
      refine p_iald gt_19 h (fun h => ?_)
      refine p_iast gt_68 h (fun h => ?_)
      refine p_aload_n rfl ?_
      refine p_getR fk_X3_21 gt_65 rfl rfl ?_
      refine p_iload_n rfl ?_
      refine p_aload_n rfl ?_
      refine p_getR fk_X3_21 gt_16 rfl rfl ?_
      refine p_iload_n rfl ?_
      refine p_zald gt_20 h (fun h => ?_)
      refine p_zast gt_69 h (fun h => ?_)
      have h := lt_h h
      have h := lt_h h
      refine p_iinc (Nat.le_of_ble_eq_true rfl) rfl (ci_1 _) rfl ?_
      refine p_goto 16 rfl rfl ?_
      exact p_fg (ih h) ⟨Or.inr rfl, Or.inr rfl, Or.inr rfl, trivial⟩
set_option maxRecDepth 100000 in
theorem S_X3_copy_65_16 {l : Launch} (hl : l.stackTraces = false) {M : PM}  {r : PR} (h : F_X3_copy_65_16 M  = some r) : PW l 1 Y_X3_copy k_X3_copy [vR 65, vR 16, jk] [] M r := by
  unfold F_X3_copy_65_16 at h
  refine p_aload_n rfl ?_
  refine p_getR fk_X3_9 gt_16 rfl rfl ?_
  refine p_iconst cn_0 ?_
  refine p_aload_n rfl ?_
  refine p_getR fk_X3_9 gt_65 rfl rfl ?_
  refine p_iconst cn_0 ?_
  refine p_aload_n rfl ?_
  refine p_getR fk_X3_9 gt_65 rfl rfl ?_
  refine p_alen gt_66 (by simp) al_120 ?_
  refine p_copyI cp_X3_46 (Nat.le_of_ble_eq_true rfl) (Nat.le_of_ble_eq_true rfl) gt_17 gt_66 h (fun h => ?_)
  refine p_aload_n rfl ?_
  refine p_aload_n rfl ?_
  refine p_getI fk_X3_52 gt_16 rfl ?_
  refine p_putI fk_X3_52 gt_65 rfl ?_
  have h := lt_h h
  refine p_iconst cn_0 ?_
  refine p_istore_n (Nat.le_of_ble_eq_true rfl) rfl ?_
  exact p_fg (S_X3_copy_65_16_28 hl FUEL h) ⟨Or.inr rfl, Or.inr rfl, Or.inr rfl, trivial⟩
set_option maxRecDepth 100000 in
theorem pc_X3_copy_65_16 {l : Launch} (hl : l.stackTraces = false) {M : PM}  {r : PR} (h : F_X3_copy_65_16 M  = some r) : PC l 1 Y_X3_copy [vR 65, vR 16] M r := pc_of hl (by decide +kernel) cok_X3_copy (Nat.le_of_ble_eq_true rfl) rfl (S_X3_copy_65_16 hl  h) rfl
def F_X3_copy_54_16_160 : Nat → PM → Int32 → Option PR
  | 0, _, _ => none
  | n + 1, M, x2 => (if mI M 54 12 ≤ x2 then some (.inl none, M) else if ixOK x2 8 = true then if ixOK x2 8 = true then if ixOK x2 8 = true then if ixOK x2 8 = true then lt (x2 + 1) fun y950 => F_X3_copy_54_16_160 n (sA (sA M 63 x2.toNatClampNeg (mA M 25 x2.toNatClampNeg)) 64 x2.toNatClampNeg (mA (sA M 63 x2.toNatClampNeg (mA M 25 x2.toNatClampNeg)) 26 x2.toNatClampNeg)) y950 else none else none else none else none)
def F_X3_copy_54_16_88 : Nat → PM → Int32 → Option PR
  | 0, _, _ => none
  | n + 1, M, x2 => (if mI M 54 9 ≤ x2 then F_X3_copy_54_16_160 FUEL (sI M 54 12 (mI M 16 12)) 0 else if ixOK x2 20 = true then if ixOK x2 20 = true then if ixOK x2 20 = true then if ixOK x2 20 = true then if ixOK x2 20 = true then if ixOK x2 20 = true then lt (sA (sA (sA M 59 x2.toNatClampNeg (mA M 21 x2.toNatClampNeg)) 60 x2.toNatClampNeg (mA (sA M 59 x2.toNatClampNeg (mA M 21 x2.toNatClampNeg)) 22 x2.toNatClampNeg)) 61 x2.toNatClampNeg (mA (sA (sA M 59 x2.toNatClampNeg (mA M 21 x2.toNatClampNeg)) 60 x2.toNatClampNeg (mA (sA M 59 x2.toNatClampNeg (mA M 21 x2.toNatClampNeg)) 22 x2.toNatClampNeg)) 23 x2.toNatClampNeg)) fun M951 => if ixOK x2 20 = true then if ixOK x2 20 = true then lt (x2 + 1) fun y952 => F_X3_copy_54_16_88 n (sA M951 62 x2.toNatClampNeg ((mA M951 24 x2.toNatClampNeg) &&& 1)) y952 else none else none else none else none else none else none else none else none)
def F_X3_copy_54_16_28 : Nat → PM → Int32 → Option PR
  | 0, _, _ => none
  | n + 1, M, x2 => (if mI M 54 4 ≤ x2 then F_X3_copy_54_16_88 FUEL (sI M 54 9 (mI M 16 9)) 0 else if ixOK x2 20 = true then if ixOK x2 20 = true then if ixOK x2 20 = true then if ixOK x2 20 = true then if ixOK x2 20 = true then if ixOK x2 20 = true then lt (sA (sA (sA M 56 x2.toNatClampNeg (mA M 18 x2.toNatClampNeg)) 57 x2.toNatClampNeg (mA (sA M 56 x2.toNatClampNeg (mA M 18 x2.toNatClampNeg)) 19 x2.toNatClampNeg)) 58 x2.toNatClampNeg ((mA (sA (sA M 56 x2.toNatClampNeg (mA M 18 x2.toNatClampNeg)) 57 x2.toNatClampNeg (mA (sA M 56 x2.toNatClampNeg (mA M 18 x2.toNatClampNeg)) 19 x2.toNatClampNeg)) 20 x2.toNatClampNeg) &&& 1)) fun M953 => lt (x2 + 1) fun y954 => F_X3_copy_54_16_28 n M953 y954 else none else none else none else none else none else none)
def F_X3_copy_54_16 (M : PM)  : Option PR := if cpOK 0 0 120 120 120 = true then lt (sI (cA M 17 55 (0 : Int32).toNatClampNeg (0 : Int32).toNatClampNeg (120 : Int32).toNatClampNeg) 54 4 (mI (cA M 17 55 (0 : Int32).toNatClampNeg (0 : Int32).toNatClampNeg (120 : Int32).toNatClampNeg) 16 4)) fun M955 => F_X3_copy_54_16_28 FUEL M955 0 else none
set_option maxRecDepth 100000 in
theorem S_X3_copy_54_16_160 {l : Launch} (hl : l.stackTraces = false) : ∀ (n : Nat) {M : PM} {x2 : Int32} {r : PR}, F_X3_copy_54_16_160  n M x2 = some r → PW l 1 Y_X3_copy k_X3_copy_160 [vR 54, vR 16, vI x2] [] M r := by
  intro n
  induction n with
  | zero => intro M x2 r h; exact nomatch (show (none : Option PR) = some r from h)
  | succ n ih =>
    intro M x2 r h
    rw [F_X3_copy_54_16_160] at h
    refine p_iload_n rfl ?_
    refine p_aload_n rfl ?_
    refine p_getI fk_X3_59 gt_54 rfl ?_
    refine p_icmp_ge h 118 rfl rfl (fun _ h => ?_) (fun _ h => ?_)
    · exact p_ret rfl h
    · refine p_aload_n rfl ?_
      refine p_getR fk_X3_37 gt_54 rfl rfl ?_
      refine p_iload_n rfl ?_
      refine p_aload_n rfl ?_
      refine p_getR fk_X3_37 gt_16 rfl rfl ?_
      refine p_iload_n rfl ?_
      refine p_iald gt_25 h (fun h => ?_)
      refine p_iast gt_63 h (fun h => ?_)
      refine p_aload_n rfl ?_
      refine p_getR fk_X3_40 gt_54 rfl rfl ?_
      refine p_iload_n rfl ?_
      refine p_aload_n rfl ?_
      refine p_getR fk_X3_40 gt_16 rfl rfl ?_
      refine p_iload_n rfl ?_
      refine p_iald gt_26 h (fun h => ?_)
      refine p_iast gt_64 h (fun h => ?_)
      have h := lt_h h
      refine p_iinc (Nat.le_of_ble_eq_true rfl) rfl (ci_1 _) rfl ?_
      refine p_goto 96 rfl rfl ?_
      exact p_fg (ih h) ⟨Or.inr rfl, Or.inr rfl, Or.inr rfl, trivial⟩
set_option maxRecDepth 100000 in
theorem S_X3_copy_54_16_88 {l : Launch} (hl : l.stackTraces = false) : ∀ (n : Nat) {M : PM} {x2 : Int32} {r : PR}, F_X3_copy_54_16_88  n M x2 = some r → PW l 1 Y_X3_copy k_X3_copy_88 [vR 54, vR 16, vI x2] [] M r := by
  intro n
  induction n with
  | zero => intro M x2 r h; exact nomatch (show (none : Option PR) = some r from h)
  | succ n ih =>
    intro M x2 r h
    rw [F_X3_copy_54_16_88] at h
    refine p_iload_n rfl ?_
    refine p_aload_n rfl ?_
    refine p_getI fk_X3_56 gt_54 rfl ?_
    refine p_icmp_ge h 90 rfl rfl (fun _ h => ?_) (fun _ h => ?_)
    · refine p_aload_n rfl ?_
      refine p_aload_n rfl ?_
      refine p_getI fk_X3_59 gt_16 rfl ?_
      refine p_putI fk_X3_59 gt_54 rfl ?_
      refine p_iconst cn_0 ?_
      refine p_istore_n (Nat.le_of_ble_eq_true rfl) rfl ?_
      exact p_fg (S_X3_copy_54_16_160 hl FUEL h) ⟨Or.inr rfl, Or.inr rfl, Or.inr rfl, trivial⟩
    · refine p_aload_n rfl ?_
      refine p_getR fk_X3_25 gt_54 rfl rfl ?_
      refine p_iload_n rfl ?_
      refine p_aload_n rfl ?_
      refine p_getR fk_X3_25 gt_16 rfl rfl ?_
      refine p_iload_n rfl ?_
      refine p_iald gt_21 h (fun h => ?_)
      refine p_iast gt_59 h (fun h => ?_)
      refine p_aload_n rfl ?_
      refine p_getR fk_X3_28 gt_54 rfl rfl ?_
      refine p_iload_n rfl ?_
      refine p_aload_n rfl ?_
      refine p_getR fk_X3_28 gt_16 rfl rfl ?_
      refine p_iload_n rfl ?_
      refine p_iald gt_22 h (fun h => ?_)
      refine p_iast gt_60 h (fun h => ?_)
      refine p_aload_n rfl ?_
      refine p_getR fk_X3_31 gt_54 rfl rfl ?_
      refine p_iload_n rfl ?_
      refine p_aload_n rfl ?_
      refine p_getR fk_X3_31 gt_16 rfl rfl ?_
      refine p_iload_n rfl ?_
      refine p_iald gt_23 h (fun h => ?_)
      refine p_iast gt_61 h (fun h => ?_)
      have h := lt_h h
      refine p_aload_n rfl ?_
      refine p_getR fk_X3_34 gt_54 rfl rfl ?_
      refine p_iload_n rfl ?_
      refine p_aload_n rfl ?_
      refine p_getR fk_X3_34 gt_16 rfl rfl ?_
      refine p_iload_n rfl ?_
      refine p_zald gt_24 h (fun h => ?_)
      refine p_zast gt_62 h (fun h => ?_)
      have h := lt_h h
      refine p_iinc (Nat.le_of_ble_eq_true rfl) rfl (ci_1 _) rfl ?_
      refine p_goto 52 rfl rfl ?_
      exact p_fg (ih h) ⟨Or.inr rfl, Or.inr rfl, Or.inr rfl, trivial⟩
set_option maxRecDepth 100000 in
theorem S_X3_copy_54_16_28 {l : Launch} (hl : l.stackTraces = false) : ∀ (n : Nat) {M : PM} {x2 : Int32} {r : PR}, F_X3_copy_54_16_28  n M x2 = some r → PW l 1 Y_X3_copy k_X3_copy_28 [vR 54, vR 16, vI x2] [] M r := by
  intro n
  induction n with
  | zero => intro M x2 r h; exact nomatch (show (none : Option PR) = some r from h)
  | succ n ih =>
    intro M x2 r h
    rw [F_X3_copy_54_16_28] at h
    refine p_iload_n rfl ?_
    refine p_aload_n rfl ?_
    refine p_getI fk_X3_52 gt_54 rfl ?_
    refine p_icmp_ge h 46 rfl rfl (fun _ h => ?_) (fun _ h => ?_)
    · refine p_aload_n rfl ?_
      refine p_aload_n rfl ?_
      refine p_getI fk_X3_56 gt_16 rfl ?_
      refine p_putI fk_X3_56 gt_54 rfl ?_
      refine p_iconst cn_0 ?_
      refine p_istore_n (Nat.le_of_ble_eq_true rfl) rfl ?_
      exact p_fg (S_X3_copy_54_16_88 hl FUEL h) ⟨Or.inr rfl, Or.inr rfl, Or.inr rfl, trivial⟩
    · refine p_aload_n rfl ?_
      refine p_getR fk_X3_15 gt_54 rfl rfl ?_
      refine p_iload_n rfl ?_
      refine p_aload_n rfl ?_
      refine p_getR fk_X3_15 gt_16 rfl rfl ?_
      refine p_iload_n rfl ?_
      refine p_iald gt_18 h (fun h => ?_)
      refine p_iast gt_56 h (fun h => ?_)
      refine p_aload_n rfl ?_
      refine p_getR fk_X3_18 gt_54 rfl rfl ?_
      refine p_iload_n rfl ?_
      refine p_aload_n rfl ?_
      refine p_getR fk_X3_18 gt_16 rfl rfl ?_
      refine p_iload_n rfl ?_
      refine p_iald gt_19 h (fun h => ?_)
      refine p_iast gt_57 h (fun h => ?_)
      refine p_aload_n rfl ?_
      refine p_getR fk_X3_21 gt_54 rfl rfl ?_
      refine p_iload_n rfl ?_
      refine p_aload_n rfl ?_
      refine p_getR fk_X3_21 gt_16 rfl rfl ?_
      refine p_iload_n rfl ?_
      refine p_zald gt_20 h (fun h => ?_)
      refine p_zast gt_58 h (fun h => ?_)
      have h := lt_h h
      have h := lt_h h
      refine p_iinc (Nat.le_of_ble_eq_true rfl) rfl (ci_1 _) rfl ?_
      refine p_goto 16 rfl rfl ?_
      exact p_fg (ih h) ⟨Or.inr rfl, Or.inr rfl, Or.inr rfl, trivial⟩
set_option maxRecDepth 100000 in
theorem S_X3_copy_54_16 {l : Launch} (hl : l.stackTraces = false) {M : PM}  {r : PR} (h : F_X3_copy_54_16 M  = some r) : PW l 1 Y_X3_copy k_X3_copy [vR 54, vR 16, jk] [] M r := by
  unfold F_X3_copy_54_16 at h
  refine p_aload_n rfl ?_
  refine p_getR fk_X3_9 gt_16 rfl rfl ?_
  refine p_iconst cn_0 ?_
  refine p_aload_n rfl ?_
  refine p_getR fk_X3_9 gt_54 rfl rfl ?_
  refine p_iconst cn_0 ?_
  refine p_aload_n rfl ?_
  refine p_getR fk_X3_9 gt_54 rfl rfl ?_
  refine p_alen gt_55 (by simp) al_120 ?_
  refine p_copyI cp_X3_46 (Nat.le_of_ble_eq_true rfl) (Nat.le_of_ble_eq_true rfl) gt_17 gt_55 h (fun h => ?_)
  refine p_aload_n rfl ?_
  refine p_aload_n rfl ?_
  refine p_getI fk_X3_52 gt_16 rfl ?_
  refine p_putI fk_X3_52 gt_54 rfl ?_
  have h := lt_h h
  refine p_iconst cn_0 ?_
  refine p_istore_n (Nat.le_of_ble_eq_true rfl) rfl ?_
  exact p_fg (S_X3_copy_54_16_28 hl FUEL h) ⟨Or.inr rfl, Or.inr rfl, Or.inr rfl, trivial⟩
set_option maxRecDepth 100000 in
theorem pc_X3_copy_54_16 {l : Launch} (hl : l.stackTraces = false) {M : PM}  {r : PR} (h : F_X3_copy_54_16 M  = some r) : PC l 1 Y_X3_copy [vR 54, vR 16] M r := pc_of hl (by decide +kernel) cok_X3_copy (Nat.le_of_ble_eq_true rfl) rfl (S_X3_copy_54_16 hl  h) rfl
def F_X10_image_0 (M : PM)  : Option PR := (if mI M 0 5 < 3 then (if mI M 0 5 = 0 then cV (F_X3_copy_43_16 M) fun M956 => some (.inl (some (.int (mI (sI M956 0 5 ((mI M956 0 5) + 1)) 0 5))), sI M956 0 5 ((mI M956 0 5) + 1)) else if mI M 0 5 = 1 then cV (F_X3_copy_54_16 M) fun M957 => some (.inl (some (.int (mI (sI M957 0 5 ((mI M957 0 5) + 1)) 0 5))), sI M957 0 5 ((mI M957 0 5) + 1)) else if mI M 0 5 = 2 then cV (F_X3_copy_65_16 M) fun M958 => some (.inl (some (.int (mI (sI M958 0 5 ((mI M958 0 5) + 1)) 0 5))), sI M958 0 5 ((mI M958 0 5) + 1)) else none) else some (.inl (some (.int (-1))), M))
set_option maxRecDepth 100000 in
theorem S_X10_image_0 {l : Launch} (hl : l.stackTraces = false) {M : PM}  {r : PR} (h : F_X10_image_0 M  = some r) : PW l 2 Y_X10_image k_X10_image [vR 0] [] M r := by
  unfold F_X10_image_0 at h
  refine p_aload_n rfl ?_
  refine p_getI fk_X10_125 gt_0 rfl ?_
  refine p_aload_n rfl ?_
  refine p_getR fk_X10_38 gt_0 rfl rfl ?_
  refine p_alen gt_42 (by simp) al_3 ?_
  refine p_icmp_lt h 8 rfl rfl (fun _ h => ?_) (fun _ h => ?_)
  · refine p_aload_n rfl ?_
    refine p_getR fk_X10_38 gt_0 rfl rfl ?_
    refine p_aload_n rfl ?_
    refine p_getI fk_X10_125 gt_0 rfl ?_
    refine p_ald3 gt_42 rfl rfl rfl h (fun _ h => ?_) (fun _ h => ?_) (fun _ h => ?_)
    · refine p_aload_n rfl ?_
      refine p_getR fk_X10_34 gt_0 rfl rfl ?_
      refine p_cV (av := [_, _]) ⟨mok_X3_copy, Or.inl ⟨352, 43, 3, 0, _, rfl, rfl, rfl, gt_43, rfl, ins_X3_copy, Or.inr lk_X10_352⟩⟩ (Nat.le_of_ble_eq_true rfl) (Nat.le_of_ble_eq_true rfl) rfl (fun _ h => pc_X3_copy_43_16 hl h) h (fun M956 h => ?_)
      refine p_aload_n rfl ?_
      refine p_dup rfl ?_
      refine p_getI fk_X10_125 gt_0 rfl ?_
      refine p_iconst cn_1 ?_
      refine p_iadd ?_
      refine p_putI fk_X10_125 gt_0 rfl ?_
      refine p_aload_n rfl ?_
      refine p_getI fk_X10_125 gt_0 rfl ?_
      exact p_iret rfl h
    · refine p_aload_n rfl ?_
      refine p_getR fk_X10_34 gt_0 rfl rfl ?_
      refine p_cV (av := [_, _]) ⟨mok_X3_copy, Or.inl ⟨352, 54, 3, 0, _, rfl, rfl, rfl, gt_54, rfl, ins_X3_copy, Or.inr lk_X10_352⟩⟩ (Nat.le_of_ble_eq_true rfl) (Nat.le_of_ble_eq_true rfl) rfl (fun _ h => pc_X3_copy_54_16 hl h) h (fun M957 h => ?_)
      refine p_aload_n rfl ?_
      refine p_dup rfl ?_
      refine p_getI fk_X10_125 gt_0 rfl ?_
      refine p_iconst cn_1 ?_
      refine p_iadd ?_
      refine p_putI fk_X10_125 gt_0 rfl ?_
      refine p_aload_n rfl ?_
      refine p_getI fk_X10_125 gt_0 rfl ?_
      exact p_iret rfl h
    · refine p_aload_n rfl ?_
      refine p_getR fk_X10_34 gt_0 rfl rfl ?_
      refine p_cV (av := [_, _]) ⟨mok_X3_copy, Or.inl ⟨352, 65, 3, 0, _, rfl, rfl, rfl, gt_65, rfl, ins_X3_copy, Or.inr lk_X10_352⟩⟩ (Nat.le_of_ble_eq_true rfl) (Nat.le_of_ble_eq_true rfl) rfl (fun _ h => pc_X3_copy_65_16 hl h) h (fun M958 h => ?_)
      refine p_aload_n rfl ?_
      refine p_dup rfl ?_
      refine p_getI fk_X10_125 gt_0 rfl ?_
      refine p_iconst cn_1 ?_
      refine p_iadd ?_
      refine p_putI fk_X10_125 gt_0 rfl ?_
      refine p_aload_n rfl ?_
      refine p_getI fk_X10_125 gt_0 rfl ?_
      exact p_iret rfl h
  · refine p_iconst cn_m1 ?_
    exact p_iret rfl h
set_option maxRecDepth 100000 in
theorem pc_X10_image_0 {l : Launch} (hl : l.stackTraces = false) {M : PM}  {r : PR} (h : F_X10_image_0 M  = some r) : PC l 2 Y_X10_image [vR 0] M r := pc_of hl (by decide +kernel) cok_X10_image (Nat.le_of_ble_eq_true rfl) rfl (S_X10_image_0 hl  h) rfl
def F_X3_copy_16_43_160 : Nat → PM → Int32 → Option PR
  | 0, _, _ => none
  | n + 1, M, x2 => (if mI M 16 12 ≤ x2 then some (.inl none, M) else if ixOK x2 8 = true then if ixOK x2 8 = true then if ixOK x2 8 = true then if ixOK x2 8 = true then lt (x2 + 1) fun y959 => F_X3_copy_16_43_160 n (sA (sA M 25 x2.toNatClampNeg (mA M 52 x2.toNatClampNeg)) 26 x2.toNatClampNeg (mA (sA M 25 x2.toNatClampNeg (mA M 52 x2.toNatClampNeg)) 53 x2.toNatClampNeg)) y959 else none else none else none else none)
def F_X3_copy_16_43_88 : Nat → PM → Int32 → Option PR
  | 0, _, _ => none
  | n + 1, M, x2 => (if mI M 16 9 ≤ x2 then F_X3_copy_16_43_160 FUEL (sI M 16 12 (mI M 43 12)) 0 else if ixOK x2 20 = true then if ixOK x2 20 = true then if ixOK x2 20 = true then if ixOK x2 20 = true then if ixOK x2 20 = true then if ixOK x2 20 = true then lt (sA (sA (sA M 21 x2.toNatClampNeg (mA M 48 x2.toNatClampNeg)) 22 x2.toNatClampNeg (mA (sA M 21 x2.toNatClampNeg (mA M 48 x2.toNatClampNeg)) 49 x2.toNatClampNeg)) 23 x2.toNatClampNeg (mA (sA (sA M 21 x2.toNatClampNeg (mA M 48 x2.toNatClampNeg)) 22 x2.toNatClampNeg (mA (sA M 21 x2.toNatClampNeg (mA M 48 x2.toNatClampNeg)) 49 x2.toNatClampNeg)) 50 x2.toNatClampNeg)) fun M960 => if ixOK x2 20 = true then if ixOK x2 20 = true then lt (x2 + 1) fun y961 => F_X3_copy_16_43_88 n (sA M960 24 x2.toNatClampNeg ((mA M960 51 x2.toNatClampNeg) &&& 1)) y961 else none else none else none else none else none else none else none else none)
def F_X3_copy_16_43_28 : Nat → PM → Int32 → Option PR
  | 0, _, _ => none
  | n + 1, M, x2 => (if mI M 16 4 ≤ x2 then F_X3_copy_16_43_88 FUEL (sI M 16 9 (mI M 43 9)) 0 else if ixOK x2 20 = true then if ixOK x2 20 = true then if ixOK x2 20 = true then if ixOK x2 20 = true then if ixOK x2 20 = true then if ixOK x2 20 = true then lt (sA (sA (sA M 18 x2.toNatClampNeg (mA M 45 x2.toNatClampNeg)) 19 x2.toNatClampNeg (mA (sA M 18 x2.toNatClampNeg (mA M 45 x2.toNatClampNeg)) 46 x2.toNatClampNeg)) 20 x2.toNatClampNeg ((mA (sA (sA M 18 x2.toNatClampNeg (mA M 45 x2.toNatClampNeg)) 19 x2.toNatClampNeg (mA (sA M 18 x2.toNatClampNeg (mA M 45 x2.toNatClampNeg)) 46 x2.toNatClampNeg)) 47 x2.toNatClampNeg) &&& 1)) fun M962 => lt (x2 + 1) fun y963 => F_X3_copy_16_43_28 n M962 y963 else none else none else none else none else none else none)
def F_X3_copy_16_43 (M : PM)  : Option PR := if cpOK 0 0 120 120 120 = true then lt (sI (cA M 44 17 (0 : Int32).toNatClampNeg (0 : Int32).toNatClampNeg (120 : Int32).toNatClampNeg) 16 4 (mI (cA M 44 17 (0 : Int32).toNatClampNeg (0 : Int32).toNatClampNeg (120 : Int32).toNatClampNeg) 43 4)) fun M964 => F_X3_copy_16_43_28 FUEL M964 0 else none
set_option maxRecDepth 100000 in
theorem S_X3_copy_16_43_160 {l : Launch} (hl : l.stackTraces = false) : ∀ (n : Nat) {M : PM} {x2 : Int32} {r : PR}, F_X3_copy_16_43_160  n M x2 = some r → PW l 1 Y_X3_copy k_X3_copy_160 [vR 16, vR 43, vI x2] [] M r := by
  intro n
  induction n with
  | zero => intro M x2 r h; exact nomatch (show (none : Option PR) = some r from h)
  | succ n ih =>
    intro M x2 r h
    rw [F_X3_copy_16_43_160] at h
    refine p_iload_n rfl ?_
    refine p_aload_n rfl ?_
    refine p_getI fk_X3_59 gt_16 rfl ?_
    refine p_icmp_ge h 118 rfl rfl (fun _ h => ?_) (fun _ h => ?_)
    · exact p_ret rfl h
    · refine p_aload_n rfl ?_
      refine p_getR fk_X3_37 gt_16 rfl rfl ?_
      refine p_iload_n rfl ?_
      refine p_aload_n rfl ?_
      refine p_getR fk_X3_37 gt_43 rfl rfl ?_
      refine p_iload_n rfl ?_
      refine p_iald gt_52 h (fun h => ?_)
      refine p_iast gt_25 h (fun h => ?_)
      refine p_aload_n rfl ?_
      refine p_getR fk_X3_40 gt_16 rfl rfl ?_
      refine p_iload_n rfl ?_
      refine p_aload_n rfl ?_
      refine p_getR fk_X3_40 gt_43 rfl rfl ?_
      refine p_iload_n rfl ?_
      refine p_iald gt_53 h (fun h => ?_)
      refine p_iast gt_26 h (fun h => ?_)
      have h := lt_h h
      refine p_iinc (Nat.le_of_ble_eq_true rfl) rfl (ci_1 _) rfl ?_
      refine p_goto 96 rfl rfl ?_
      exact p_fg (ih h) ⟨Or.inr rfl, Or.inr rfl, Or.inr rfl, trivial⟩
set_option maxRecDepth 100000 in
theorem S_X3_copy_16_43_88 {l : Launch} (hl : l.stackTraces = false) : ∀ (n : Nat) {M : PM} {x2 : Int32} {r : PR}, F_X3_copy_16_43_88  n M x2 = some r → PW l 1 Y_X3_copy k_X3_copy_88 [vR 16, vR 43, vI x2] [] M r := by
  intro n
  induction n with
  | zero => intro M x2 r h; exact nomatch (show (none : Option PR) = some r from h)
  | succ n ih =>
    intro M x2 r h
    rw [F_X3_copy_16_43_88] at h
    refine p_iload_n rfl ?_
    refine p_aload_n rfl ?_
    refine p_getI fk_X3_56 gt_16 rfl ?_
    refine p_icmp_ge h 90 rfl rfl (fun _ h => ?_) (fun _ h => ?_)
    · refine p_aload_n rfl ?_
      refine p_aload_n rfl ?_
      refine p_getI fk_X3_59 gt_43 rfl ?_
      refine p_putI fk_X3_59 gt_16 rfl ?_
      refine p_iconst cn_0 ?_
      refine p_istore_n (Nat.le_of_ble_eq_true rfl) rfl ?_
      exact p_fg (S_X3_copy_16_43_160 hl FUEL h) ⟨Or.inr rfl, Or.inr rfl, Or.inr rfl, trivial⟩
    · refine p_aload_n rfl ?_
      refine p_getR fk_X3_25 gt_16 rfl rfl ?_
      refine p_iload_n rfl ?_
      refine p_aload_n rfl ?_
      refine p_getR fk_X3_25 gt_43 rfl rfl ?_
      refine p_iload_n rfl ?_
      refine p_iald gt_48 h (fun h => ?_)
      refine p_iast gt_21 h (fun h => ?_)
      refine p_aload_n rfl ?_
      refine p_getR fk_X3_28 gt_16 rfl rfl ?_
      refine p_iload_n rfl ?_
      refine p_aload_n rfl ?_
      refine p_getR fk_X3_28 gt_43 rfl rfl ?_
      refine p_iload_n rfl ?_
      refine p_iald gt_49 h (fun h => ?_)
      refine p_iast gt_22 h (fun h => ?_)
      refine p_aload_n rfl ?_
      refine p_getR fk_X3_31 gt_16 rfl rfl ?_
      refine p_iload_n rfl ?_
      refine p_aload_n rfl ?_
      refine p_getR fk_X3_31 gt_43 rfl rfl ?_
      refine p_iload_n rfl ?_
      refine p_iald gt_50 h (fun h => ?_)
      refine p_iast gt_23 h (fun h => ?_)
      have h := lt_h h
      refine p_aload_n rfl ?_
      refine p_getR fk_X3_34 gt_16 rfl rfl ?_
      refine p_iload_n rfl ?_
      refine p_aload_n rfl ?_
      refine p_getR fk_X3_34 gt_43 rfl rfl ?_
      refine p_iload_n rfl ?_
      refine p_zald gt_51 h (fun h => ?_)
      refine p_zast gt_24 h (fun h => ?_)
      have h := lt_h h
      refine p_iinc (Nat.le_of_ble_eq_true rfl) rfl (ci_1 _) rfl ?_
      refine p_goto 52 rfl rfl ?_
      exact p_fg (ih h) ⟨Or.inr rfl, Or.inr rfl, Or.inr rfl, trivial⟩
set_option maxRecDepth 100000 in
theorem S_X3_copy_16_43_28 {l : Launch} (hl : l.stackTraces = false) : ∀ (n : Nat) {M : PM} {x2 : Int32} {r : PR}, F_X3_copy_16_43_28  n M x2 = some r → PW l 1 Y_X3_copy k_X3_copy_28 [vR 16, vR 43, vI x2] [] M r := by
  intro n
  induction n with
  | zero => intro M x2 r h; exact nomatch (show (none : Option PR) = some r from h)
  | succ n ih =>
    intro M x2 r h
    rw [F_X3_copy_16_43_28] at h
    refine p_iload_n rfl ?_
    refine p_aload_n rfl ?_
    refine p_getI fk_X3_52 gt_16 rfl ?_
    refine p_icmp_ge h 46 rfl rfl (fun _ h => ?_) (fun _ h => ?_)
    · refine p_aload_n rfl ?_
      refine p_aload_n rfl ?_
      refine p_getI fk_X3_56 gt_43 rfl ?_
      refine p_putI fk_X3_56 gt_16 rfl ?_
      refine p_iconst cn_0 ?_
      refine p_istore_n (Nat.le_of_ble_eq_true rfl) rfl ?_
      exact p_fg (S_X3_copy_16_43_88 hl FUEL h) ⟨Or.inr rfl, Or.inr rfl, Or.inr rfl, trivial⟩
    · refine p_aload_n rfl ?_
      refine p_getR fk_X3_15 gt_16 rfl rfl ?_
      refine p_iload_n rfl ?_
      refine p_aload_n rfl ?_
      refine p_getR fk_X3_15 gt_43 rfl rfl ?_
      refine p_iload_n rfl ?_
      refine p_iald gt_45 h (fun h => ?_)
      refine p_iast gt_18 h (fun h => ?_)
      refine p_aload_n rfl ?_
      refine p_getR fk_X3_18 gt_16 rfl rfl ?_
      refine p_iload_n rfl ?_
      refine p_aload_n rfl ?_
      refine p_getR fk_X3_18 gt_43 rfl rfl ?_
      refine p_iload_n rfl ?_
      refine p_iald gt_46 h (fun h => ?_)
      refine p_iast gt_19 h (fun h => ?_)
      refine p_aload_n rfl ?_
      refine p_getR fk_X3_21 gt_16 rfl rfl ?_
      refine p_iload_n rfl ?_
      refine p_aload_n rfl ?_
      refine p_getR fk_X3_21 gt_43 rfl rfl ?_
      refine p_iload_n rfl ?_
      refine p_zald gt_47 h (fun h => ?_)
      refine p_zast gt_20 h (fun h => ?_)
      have h := lt_h h
      have h := lt_h h
      refine p_iinc (Nat.le_of_ble_eq_true rfl) rfl (ci_1 _) rfl ?_
      refine p_goto 16 rfl rfl ?_
      exact p_fg (ih h) ⟨Or.inr rfl, Or.inr rfl, Or.inr rfl, trivial⟩
set_option maxRecDepth 100000 in
theorem S_X3_copy_16_43 {l : Launch} (hl : l.stackTraces = false) {M : PM}  {r : PR} (h : F_X3_copy_16_43 M  = some r) : PW l 1 Y_X3_copy k_X3_copy [vR 16, vR 43, jk] [] M r := by
  unfold F_X3_copy_16_43 at h
  refine p_aload_n rfl ?_
  refine p_getR fk_X3_9 gt_43 rfl rfl ?_
  refine p_iconst cn_0 ?_
  refine p_aload_n rfl ?_
  refine p_getR fk_X3_9 gt_16 rfl rfl ?_
  refine p_iconst cn_0 ?_
  refine p_aload_n rfl ?_
  refine p_getR fk_X3_9 gt_16 rfl rfl ?_
  refine p_alen gt_17 (by simp) al_120 ?_
  refine p_copyI cp_X3_46 (Nat.le_of_ble_eq_true rfl) (Nat.le_of_ble_eq_true rfl) gt_44 gt_17 h (fun h => ?_)
  refine p_aload_n rfl ?_
  refine p_aload_n rfl ?_
  refine p_getI fk_X3_52 gt_43 rfl ?_
  refine p_putI fk_X3_52 gt_16 rfl ?_
  have h := lt_h h
  refine p_iconst cn_0 ?_
  refine p_istore_n (Nat.le_of_ble_eq_true rfl) rfl ?_
  exact p_fg (S_X3_copy_16_43_28 hl FUEL h) ⟨Or.inr rfl, Or.inr rfl, Or.inr rfl, trivial⟩
set_option maxRecDepth 100000 in
theorem pc_X3_copy_16_43 {l : Launch} (hl : l.stackTraces = false) {M : PM}  {r : PR} (h : F_X3_copy_16_43 M  = some r) : PC l 1 Y_X3_copy [vR 16, vR 43] M r := pc_of hl (by decide +kernel) cok_X3_copy (Nat.le_of_ble_eq_true rfl) rfl (S_X3_copy_16_43 hl  h) rfl
def F_X3_copy_16_65_160 : Nat → PM → Int32 → Option PR
  | 0, _, _ => none
  | n + 1, M, x2 => (if mI M 16 12 ≤ x2 then some (.inl none, M) else if ixOK x2 8 = true then if ixOK x2 8 = true then if ixOK x2 8 = true then if ixOK x2 8 = true then lt (x2 + 1) fun y965 => F_X3_copy_16_65_160 n (sA (sA M 25 x2.toNatClampNeg (mA M 74 x2.toNatClampNeg)) 26 x2.toNatClampNeg (mA (sA M 25 x2.toNatClampNeg (mA M 74 x2.toNatClampNeg)) 75 x2.toNatClampNeg)) y965 else none else none else none else none)
def F_X3_copy_16_65_88 : Nat → PM → Int32 → Option PR
  | 0, _, _ => none
  | n + 1, M, x2 => (if mI M 16 9 ≤ x2 then F_X3_copy_16_65_160 FUEL (sI M 16 12 (mI M 65 12)) 0 else if ixOK x2 20 = true then if ixOK x2 20 = true then if ixOK x2 20 = true then if ixOK x2 20 = true then if ixOK x2 20 = true then if ixOK x2 20 = true then lt (sA (sA (sA M 21 x2.toNatClampNeg (mA M 70 x2.toNatClampNeg)) 22 x2.toNatClampNeg (mA (sA M 21 x2.toNatClampNeg (mA M 70 x2.toNatClampNeg)) 71 x2.toNatClampNeg)) 23 x2.toNatClampNeg (mA (sA (sA M 21 x2.toNatClampNeg (mA M 70 x2.toNatClampNeg)) 22 x2.toNatClampNeg (mA (sA M 21 x2.toNatClampNeg (mA M 70 x2.toNatClampNeg)) 71 x2.toNatClampNeg)) 72 x2.toNatClampNeg)) fun M966 => if ixOK x2 20 = true then if ixOK x2 20 = true then lt (x2 + 1) fun y967 => F_X3_copy_16_65_88 n (sA M966 24 x2.toNatClampNeg ((mA M966 73 x2.toNatClampNeg) &&& 1)) y967 else none else none else none else none else none else none else none else none)
def F_X3_copy_16_65_28 : Nat → PM → Int32 → Option PR
  | 0, _, _ => none
  | n + 1, M, x2 => (if mI M 16 4 ≤ x2 then F_X3_copy_16_65_88 FUEL (sI M 16 9 (mI M 65 9)) 0 else if ixOK x2 20 = true then if ixOK x2 20 = true then if ixOK x2 20 = true then if ixOK x2 20 = true then if ixOK x2 20 = true then if ixOK x2 20 = true then lt (sA (sA (sA M 18 x2.toNatClampNeg (mA M 67 x2.toNatClampNeg)) 19 x2.toNatClampNeg (mA (sA M 18 x2.toNatClampNeg (mA M 67 x2.toNatClampNeg)) 68 x2.toNatClampNeg)) 20 x2.toNatClampNeg ((mA (sA (sA M 18 x2.toNatClampNeg (mA M 67 x2.toNatClampNeg)) 19 x2.toNatClampNeg (mA (sA M 18 x2.toNatClampNeg (mA M 67 x2.toNatClampNeg)) 68 x2.toNatClampNeg)) 69 x2.toNatClampNeg) &&& 1)) fun M968 => lt (x2 + 1) fun y969 => F_X3_copy_16_65_28 n M968 y969 else none else none else none else none else none else none)
def F_X3_copy_16_65 (M : PM)  : Option PR := if cpOK 0 0 120 120 120 = true then lt (sI (cA M 66 17 (0 : Int32).toNatClampNeg (0 : Int32).toNatClampNeg (120 : Int32).toNatClampNeg) 16 4 (mI (cA M 66 17 (0 : Int32).toNatClampNeg (0 : Int32).toNatClampNeg (120 : Int32).toNatClampNeg) 65 4)) fun M970 => F_X3_copy_16_65_28 FUEL M970 0 else none
set_option maxRecDepth 100000 in
theorem S_X3_copy_16_65_160 {l : Launch} (hl : l.stackTraces = false) : ∀ (n : Nat) {M : PM} {x2 : Int32} {r : PR}, F_X3_copy_16_65_160  n M x2 = some r → PW l 1 Y_X3_copy k_X3_copy_160 [vR 16, vR 65, vI x2] [] M r := by
  intro n
  induction n with
  | zero => intro M x2 r h; exact nomatch (show (none : Option PR) = some r from h)
  | succ n ih =>
    intro M x2 r h
    rw [F_X3_copy_16_65_160] at h
    refine p_iload_n rfl ?_
    refine p_aload_n rfl ?_
    refine p_getI fk_X3_59 gt_16 rfl ?_
    refine p_icmp_ge h 118 rfl rfl (fun _ h => ?_) (fun _ h => ?_)
    · exact p_ret rfl h
    · refine p_aload_n rfl ?_
      refine p_getR fk_X3_37 gt_16 rfl rfl ?_
      refine p_iload_n rfl ?_
      refine p_aload_n rfl ?_
      refine p_getR fk_X3_37 gt_65 rfl rfl ?_
      refine p_iload_n rfl ?_
      refine p_iald gt_74 h (fun h => ?_)
      refine p_iast gt_25 h (fun h => ?_)
      refine p_aload_n rfl ?_
      refine p_getR fk_X3_40 gt_16 rfl rfl ?_
      refine p_iload_n rfl ?_
      refine p_aload_n rfl ?_
      refine p_getR fk_X3_40 gt_65 rfl rfl ?_
      refine p_iload_n rfl ?_
      refine p_iald gt_75 h (fun h => ?_)
      refine p_iast gt_26 h (fun h => ?_)
      have h := lt_h h
      refine p_iinc (Nat.le_of_ble_eq_true rfl) rfl (ci_1 _) rfl ?_
      refine p_goto 96 rfl rfl ?_
      exact p_fg (ih h) ⟨Or.inr rfl, Or.inr rfl, Or.inr rfl, trivial⟩
set_option maxRecDepth 100000 in
theorem S_X3_copy_16_65_88 {l : Launch} (hl : l.stackTraces = false) : ∀ (n : Nat) {M : PM} {x2 : Int32} {r : PR}, F_X3_copy_16_65_88  n M x2 = some r → PW l 1 Y_X3_copy k_X3_copy_88 [vR 16, vR 65, vI x2] [] M r := by
  intro n
  induction n with
  | zero => intro M x2 r h; exact nomatch (show (none : Option PR) = some r from h)
  | succ n ih =>
    intro M x2 r h
    rw [F_X3_copy_16_65_88] at h
    refine p_iload_n rfl ?_
    refine p_aload_n rfl ?_
    refine p_getI fk_X3_56 gt_16 rfl ?_
    refine p_icmp_ge h 90 rfl rfl (fun _ h => ?_) (fun _ h => ?_)
    · refine p_aload_n rfl ?_
      refine p_aload_n rfl ?_
      refine p_getI fk_X3_59 gt_65 rfl ?_
      refine p_putI fk_X3_59 gt_16 rfl ?_
      refine p_iconst cn_0 ?_
      refine p_istore_n (Nat.le_of_ble_eq_true rfl) rfl ?_
      exact p_fg (S_X3_copy_16_65_160 hl FUEL h) ⟨Or.inr rfl, Or.inr rfl, Or.inr rfl, trivial⟩
    · refine p_aload_n rfl ?_
      refine p_getR fk_X3_25 gt_16 rfl rfl ?_
      refine p_iload_n rfl ?_
      refine p_aload_n rfl ?_
      refine p_getR fk_X3_25 gt_65 rfl rfl ?_
      refine p_iload_n rfl ?_
      refine p_iald gt_70 h (fun h => ?_)
      refine p_iast gt_21 h (fun h => ?_)
      refine p_aload_n rfl ?_
      refine p_getR fk_X3_28 gt_16 rfl rfl ?_
      refine p_iload_n rfl ?_
      refine p_aload_n rfl ?_
      refine p_getR fk_X3_28 gt_65 rfl rfl ?_
      refine p_iload_n rfl ?_
      refine p_iald gt_71 h (fun h => ?_)
      refine p_iast gt_22 h (fun h => ?_)
      refine p_aload_n rfl ?_
      refine p_getR fk_X3_31 gt_16 rfl rfl ?_
      refine p_iload_n rfl ?_
      refine p_aload_n rfl ?_
      refine p_getR fk_X3_31 gt_65 rfl rfl ?_
      refine p_iload_n rfl ?_
      refine p_iald gt_72 h (fun h => ?_)
      refine p_iast gt_23 h (fun h => ?_)
      have h := lt_h h
      refine p_aload_n rfl ?_
      refine p_getR fk_X3_34 gt_16 rfl rfl ?_
      refine p_iload_n rfl ?_
      refine p_aload_n rfl ?_
      refine p_getR fk_X3_34 gt_65 rfl rfl ?_
      refine p_iload_n rfl ?_
      refine p_zald gt_73 h (fun h => ?_)
      refine p_zast gt_24 h (fun h => ?_)
      have h := lt_h h
      refine p_iinc (Nat.le_of_ble_eq_true rfl) rfl (ci_1 _) rfl ?_
      refine p_goto 52 rfl rfl ?_
      exact p_fg (ih h) ⟨Or.inr rfl, Or.inr rfl, Or.inr rfl, trivial⟩
set_option maxRecDepth 100000 in
theorem S_X3_copy_16_65_28 {l : Launch} (hl : l.stackTraces = false) : ∀ (n : Nat) {M : PM} {x2 : Int32} {r : PR}, F_X3_copy_16_65_28  n M x2 = some r → PW l 1 Y_X3_copy k_X3_copy_28 [vR 16, vR 65, vI x2] [] M r := by
  intro n
  induction n with
  | zero => intro M x2 r h; exact nomatch (show (none : Option PR) = some r from h)
  | succ n ih =>
    intro M x2 r h
    rw [F_X3_copy_16_65_28] at h
    refine p_iload_n rfl ?_
    refine p_aload_n rfl ?_
    refine p_getI fk_X3_52 gt_16 rfl ?_
    refine p_icmp_ge h 46 rfl rfl (fun _ h => ?_) (fun _ h => ?_)
    · refine p_aload_n rfl ?_
      refine p_aload_n rfl ?_
      refine p_getI fk_X3_56 gt_65 rfl ?_
      refine p_putI fk_X3_56 gt_16 rfl ?_
      refine p_iconst cn_0 ?_
      refine p_istore_n (Nat.le_of_ble_eq_true rfl) rfl ?_
      exact p_fg (S_X3_copy_16_65_88 hl FUEL h) ⟨Or.inr rfl, Or.inr rfl, Or.inr rfl, trivial⟩
    · refine p_aload_n rfl ?_
      refine p_getR fk_X3_15 gt_16 rfl rfl ?_
      refine p_iload_n rfl ?_
      refine p_aload_n rfl ?_
      refine p_getR fk_X3_15 gt_65 rfl rfl ?_
      refine p_iload_n rfl ?_
      refine p_iald gt_67 h (fun h => ?_)
      refine p_iast gt_18 h (fun h => ?_)
      refine p_aload_n rfl ?_
      refine p_getR fk_X3_18 gt_16 rfl rfl ?_
      refine p_iload_n rfl ?_
      refine p_aload_n rfl ?_
      refine p_getR fk_X3_18 gt_65 rfl rfl ?_
      refine p_iload_n rfl ?_
      refine p_iald gt_68 h (fun h => ?_)
      refine p_iast gt_19 h (fun h => ?_)
      refine p_aload_n rfl ?_
      refine p_getR fk_X3_21 gt_16 rfl rfl ?_
      refine p_iload_n rfl ?_
      refine p_aload_n rfl ?_
      refine p_getR fk_X3_21 gt_65 rfl rfl ?_
      refine p_iload_n rfl ?_
      refine p_zald gt_69 h (fun h => ?_)
      refine p_zast gt_20 h (fun h => ?_)
      have h := lt_h h
      have h := lt_h h
      refine p_iinc (Nat.le_of_ble_eq_true rfl) rfl (ci_1 _) rfl ?_
      refine p_goto 16 rfl rfl ?_
      exact p_fg (ih h) ⟨Or.inr rfl, Or.inr rfl, Or.inr rfl, trivial⟩
set_option maxRecDepth 100000 in
theorem S_X3_copy_16_65 {l : Launch} (hl : l.stackTraces = false) {M : PM}  {r : PR} (h : F_X3_copy_16_65 M  = some r) : PW l 1 Y_X3_copy k_X3_copy [vR 16, vR 65, jk] [] M r := by
  unfold F_X3_copy_16_65 at h
  refine p_aload_n rfl ?_
  refine p_getR fk_X3_9 gt_65 rfl rfl ?_
  refine p_iconst cn_0 ?_
  refine p_aload_n rfl ?_
  refine p_getR fk_X3_9 gt_16 rfl rfl ?_
  refine p_iconst cn_0 ?_
  refine p_aload_n rfl ?_
  refine p_getR fk_X3_9 gt_16 rfl rfl ?_
  refine p_alen gt_17 (by simp) al_120 ?_
  refine p_copyI cp_X3_46 (Nat.le_of_ble_eq_true rfl) (Nat.le_of_ble_eq_true rfl) gt_66 gt_17 h (fun h => ?_)
  refine p_aload_n rfl ?_
  refine p_aload_n rfl ?_
  refine p_getI fk_X3_52 gt_65 rfl ?_
  refine p_putI fk_X3_52 gt_16 rfl ?_
  have h := lt_h h
  refine p_iconst cn_0 ?_
  refine p_istore_n (Nat.le_of_ble_eq_true rfl) rfl ?_
  exact p_fg (S_X3_copy_16_65_28 hl FUEL h) ⟨Or.inr rfl, Or.inr rfl, Or.inr rfl, trivial⟩
set_option maxRecDepth 100000 in
theorem pc_X3_copy_16_65 {l : Launch} (hl : l.stackTraces = false) {M : PM}  {r : PR} (h : F_X3_copy_16_65 M  = some r) : PC l 1 Y_X3_copy [vR 16, vR 65] M r := pc_of hl (by decide +kernel) cok_X3_copy (Nat.le_of_ble_eq_true rfl) rfl (S_X3_copy_16_65 hl  h) rfl
def F_X3_copy_16_54_160 : Nat → PM → Int32 → Option PR
  | 0, _, _ => none
  | n + 1, M, x2 => (if mI M 16 12 ≤ x2 then some (.inl none, M) else if ixOK x2 8 = true then if ixOK x2 8 = true then if ixOK x2 8 = true then if ixOK x2 8 = true then lt (x2 + 1) fun y971 => F_X3_copy_16_54_160 n (sA (sA M 25 x2.toNatClampNeg (mA M 63 x2.toNatClampNeg)) 26 x2.toNatClampNeg (mA (sA M 25 x2.toNatClampNeg (mA M 63 x2.toNatClampNeg)) 64 x2.toNatClampNeg)) y971 else none else none else none else none)
def F_X3_copy_16_54_88 : Nat → PM → Int32 → Option PR
  | 0, _, _ => none
  | n + 1, M, x2 => (if mI M 16 9 ≤ x2 then F_X3_copy_16_54_160 FUEL (sI M 16 12 (mI M 54 12)) 0 else if ixOK x2 20 = true then if ixOK x2 20 = true then if ixOK x2 20 = true then if ixOK x2 20 = true then if ixOK x2 20 = true then if ixOK x2 20 = true then lt (sA (sA (sA M 21 x2.toNatClampNeg (mA M 59 x2.toNatClampNeg)) 22 x2.toNatClampNeg (mA (sA M 21 x2.toNatClampNeg (mA M 59 x2.toNatClampNeg)) 60 x2.toNatClampNeg)) 23 x2.toNatClampNeg (mA (sA (sA M 21 x2.toNatClampNeg (mA M 59 x2.toNatClampNeg)) 22 x2.toNatClampNeg (mA (sA M 21 x2.toNatClampNeg (mA M 59 x2.toNatClampNeg)) 60 x2.toNatClampNeg)) 61 x2.toNatClampNeg)) fun M972 => if ixOK x2 20 = true then if ixOK x2 20 = true then lt (x2 + 1) fun y973 => F_X3_copy_16_54_88 n (sA M972 24 x2.toNatClampNeg ((mA M972 62 x2.toNatClampNeg) &&& 1)) y973 else none else none else none else none else none else none else none else none)
def F_X3_copy_16_54_28 : Nat → PM → Int32 → Option PR
  | 0, _, _ => none
  | n + 1, M, x2 => (if mI M 16 4 ≤ x2 then F_X3_copy_16_54_88 FUEL (sI M 16 9 (mI M 54 9)) 0 else if ixOK x2 20 = true then if ixOK x2 20 = true then if ixOK x2 20 = true then if ixOK x2 20 = true then if ixOK x2 20 = true then if ixOK x2 20 = true then lt (sA (sA (sA M 18 x2.toNatClampNeg (mA M 56 x2.toNatClampNeg)) 19 x2.toNatClampNeg (mA (sA M 18 x2.toNatClampNeg (mA M 56 x2.toNatClampNeg)) 57 x2.toNatClampNeg)) 20 x2.toNatClampNeg ((mA (sA (sA M 18 x2.toNatClampNeg (mA M 56 x2.toNatClampNeg)) 19 x2.toNatClampNeg (mA (sA M 18 x2.toNatClampNeg (mA M 56 x2.toNatClampNeg)) 57 x2.toNatClampNeg)) 58 x2.toNatClampNeg) &&& 1)) fun M974 => lt (x2 + 1) fun y975 => F_X3_copy_16_54_28 n M974 y975 else none else none else none else none else none else none)
def F_X3_copy_16_54 (M : PM)  : Option PR := if cpOK 0 0 120 120 120 = true then lt (sI (cA M 55 17 (0 : Int32).toNatClampNeg (0 : Int32).toNatClampNeg (120 : Int32).toNatClampNeg) 16 4 (mI (cA M 55 17 (0 : Int32).toNatClampNeg (0 : Int32).toNatClampNeg (120 : Int32).toNatClampNeg) 54 4)) fun M976 => F_X3_copy_16_54_28 FUEL M976 0 else none
set_option maxRecDepth 100000 in
theorem S_X3_copy_16_54_160 {l : Launch} (hl : l.stackTraces = false) : ∀ (n : Nat) {M : PM} {x2 : Int32} {r : PR}, F_X3_copy_16_54_160  n M x2 = some r → PW l 1 Y_X3_copy k_X3_copy_160 [vR 16, vR 54, vI x2] [] M r := by
  intro n
  induction n with
  | zero => intro M x2 r h; exact nomatch (show (none : Option PR) = some r from h)
  | succ n ih =>
    intro M x2 r h
    rw [F_X3_copy_16_54_160] at h
    refine p_iload_n rfl ?_
    refine p_aload_n rfl ?_
    refine p_getI fk_X3_59 gt_16 rfl ?_
    refine p_icmp_ge h 118 rfl rfl (fun _ h => ?_) (fun _ h => ?_)
    · exact p_ret rfl h
    · refine p_aload_n rfl ?_
      refine p_getR fk_X3_37 gt_16 rfl rfl ?_
      refine p_iload_n rfl ?_
      refine p_aload_n rfl ?_
      refine p_getR fk_X3_37 gt_54 rfl rfl ?_
      refine p_iload_n rfl ?_
      refine p_iald gt_63 h (fun h => ?_)
      refine p_iast gt_25 h (fun h => ?_)
      refine p_aload_n rfl ?_
      refine p_getR fk_X3_40 gt_16 rfl rfl ?_
      refine p_iload_n rfl ?_
      refine p_aload_n rfl ?_
      refine p_getR fk_X3_40 gt_54 rfl rfl ?_
      refine p_iload_n rfl ?_
      refine p_iald gt_64 h (fun h => ?_)
      refine p_iast gt_26 h (fun h => ?_)
      have h := lt_h h
      refine p_iinc (Nat.le_of_ble_eq_true rfl) rfl (ci_1 _) rfl ?_
      refine p_goto 96 rfl rfl ?_
      exact p_fg (ih h) ⟨Or.inr rfl, Or.inr rfl, Or.inr rfl, trivial⟩
set_option maxRecDepth 100000 in
theorem S_X3_copy_16_54_88 {l : Launch} (hl : l.stackTraces = false) : ∀ (n : Nat) {M : PM} {x2 : Int32} {r : PR}, F_X3_copy_16_54_88  n M x2 = some r → PW l 1 Y_X3_copy k_X3_copy_88 [vR 16, vR 54, vI x2] [] M r := by
  intro n
  induction n with
  | zero => intro M x2 r h; exact nomatch (show (none : Option PR) = some r from h)
  | succ n ih =>
    intro M x2 r h
    rw [F_X3_copy_16_54_88] at h
    refine p_iload_n rfl ?_
    refine p_aload_n rfl ?_
    refine p_getI fk_X3_56 gt_16 rfl ?_
    refine p_icmp_ge h 90 rfl rfl (fun _ h => ?_) (fun _ h => ?_)
    · refine p_aload_n rfl ?_
      refine p_aload_n rfl ?_
      refine p_getI fk_X3_59 gt_54 rfl ?_
      refine p_putI fk_X3_59 gt_16 rfl ?_
      refine p_iconst cn_0 ?_
      refine p_istore_n (Nat.le_of_ble_eq_true rfl) rfl ?_
      exact p_fg (S_X3_copy_16_54_160 hl FUEL h) ⟨Or.inr rfl, Or.inr rfl, Or.inr rfl, trivial⟩
    · refine p_aload_n rfl ?_
      refine p_getR fk_X3_25 gt_16 rfl rfl ?_
      refine p_iload_n rfl ?_
      refine p_aload_n rfl ?_
      refine p_getR fk_X3_25 gt_54 rfl rfl ?_
      refine p_iload_n rfl ?_
      refine p_iald gt_59 h (fun h => ?_)
      refine p_iast gt_21 h (fun h => ?_)
      refine p_aload_n rfl ?_
      refine p_getR fk_X3_28 gt_16 rfl rfl ?_
      refine p_iload_n rfl ?_
      refine p_aload_n rfl ?_
      refine p_getR fk_X3_28 gt_54 rfl rfl ?_
      refine p_iload_n rfl ?_
      refine p_iald gt_60 h (fun h => ?_)
      refine p_iast gt_22 h (fun h => ?_)
      refine p_aload_n rfl ?_
      refine p_getR fk_X3_31 gt_16 rfl rfl ?_
      refine p_iload_n rfl ?_
      refine p_aload_n rfl ?_
      refine p_getR fk_X3_31 gt_54 rfl rfl ?_
      refine p_iload_n rfl ?_
      refine p_iald gt_61 h (fun h => ?_)
      refine p_iast gt_23 h (fun h => ?_)
      have h := lt_h h
      refine p_aload_n rfl ?_
      refine p_getR fk_X3_34 gt_16 rfl rfl ?_
      refine p_iload_n rfl ?_
      refine p_aload_n rfl ?_
      refine p_getR fk_X3_34 gt_54 rfl rfl ?_
      refine p_iload_n rfl ?_
      refine p_zald gt_62 h (fun h => ?_)
      refine p_zast gt_24 h (fun h => ?_)
      have h := lt_h h
      refine p_iinc (Nat.le_of_ble_eq_true rfl) rfl (ci_1 _) rfl ?_
      refine p_goto 52 rfl rfl ?_
      exact p_fg (ih h) ⟨Or.inr rfl, Or.inr rfl, Or.inr rfl, trivial⟩
set_option maxRecDepth 100000 in
theorem S_X3_copy_16_54_28 {l : Launch} (hl : l.stackTraces = false) : ∀ (n : Nat) {M : PM} {x2 : Int32} {r : PR}, F_X3_copy_16_54_28  n M x2 = some r → PW l 1 Y_X3_copy k_X3_copy_28 [vR 16, vR 54, vI x2] [] M r := by
  intro n
  induction n with
  | zero => intro M x2 r h; exact nomatch (show (none : Option PR) = some r from h)
  | succ n ih =>
    intro M x2 r h
    rw [F_X3_copy_16_54_28] at h
    refine p_iload_n rfl ?_
    refine p_aload_n rfl ?_
    refine p_getI fk_X3_52 gt_16 rfl ?_
    refine p_icmp_ge h 46 rfl rfl (fun _ h => ?_) (fun _ h => ?_)
    · refine p_aload_n rfl ?_
      refine p_aload_n rfl ?_
      refine p_getI fk_X3_56 gt_54 rfl ?_
      refine p_putI fk_X3_56 gt_16 rfl ?_
      refine p_iconst cn_0 ?_
      refine p_istore_n (Nat.le_of_ble_eq_true rfl) rfl ?_
      exact p_fg (S_X3_copy_16_54_88 hl FUEL h) ⟨Or.inr rfl, Or.inr rfl, Or.inr rfl, trivial⟩
    · refine p_aload_n rfl ?_
      refine p_getR fk_X3_15 gt_16 rfl rfl ?_
      refine p_iload_n rfl ?_
      refine p_aload_n rfl ?_
      refine p_getR fk_X3_15 gt_54 rfl rfl ?_
      refine p_iload_n rfl ?_
      refine p_iald gt_56 h (fun h => ?_)
      refine p_iast gt_18 h (fun h => ?_)
      refine p_aload_n rfl ?_
      refine p_getR fk_X3_18 gt_16 rfl rfl ?_
      refine p_iload_n rfl ?_
      refine p_aload_n rfl ?_
      refine p_getR fk_X3_18 gt_54 rfl rfl ?_
      refine p_iload_n rfl ?_
      refine p_iald gt_57 h (fun h => ?_)
      refine p_iast gt_19 h (fun h => ?_)
      refine p_aload_n rfl ?_
      refine p_getR fk_X3_21 gt_16 rfl rfl ?_
      refine p_iload_n rfl ?_
      refine p_aload_n rfl ?_
      refine p_getR fk_X3_21 gt_54 rfl rfl ?_
      refine p_iload_n rfl ?_
      refine p_zald gt_58 h (fun h => ?_)
      refine p_zast gt_20 h (fun h => ?_)
      have h := lt_h h
      have h := lt_h h
      refine p_iinc (Nat.le_of_ble_eq_true rfl) rfl (ci_1 _) rfl ?_
      refine p_goto 16 rfl rfl ?_
      exact p_fg (ih h) ⟨Or.inr rfl, Or.inr rfl, Or.inr rfl, trivial⟩
set_option maxRecDepth 100000 in
theorem S_X3_copy_16_54 {l : Launch} (hl : l.stackTraces = false) {M : PM}  {r : PR} (h : F_X3_copy_16_54 M  = some r) : PW l 1 Y_X3_copy k_X3_copy [vR 16, vR 54, jk] [] M r := by
  unfold F_X3_copy_16_54 at h
  refine p_aload_n rfl ?_
  refine p_getR fk_X3_9 gt_54 rfl rfl ?_
  refine p_iconst cn_0 ?_
  refine p_aload_n rfl ?_
  refine p_getR fk_X3_9 gt_16 rfl rfl ?_
  refine p_iconst cn_0 ?_
  refine p_aload_n rfl ?_
  refine p_getR fk_X3_9 gt_16 rfl rfl ?_
  refine p_alen gt_17 (by simp) al_120 ?_
  refine p_copyI cp_X3_46 (Nat.le_of_ble_eq_true rfl) (Nat.le_of_ble_eq_true rfl) gt_55 gt_17 h (fun h => ?_)
  refine p_aload_n rfl ?_
  refine p_aload_n rfl ?_
  refine p_getI fk_X3_52 gt_54 rfl ?_
  refine p_putI fk_X3_52 gt_16 rfl ?_
  have h := lt_h h
  refine p_iconst cn_0 ?_
  refine p_istore_n (Nat.le_of_ble_eq_true rfl) rfl ?_
  exact p_fg (S_X3_copy_16_54_28 hl FUEL h) ⟨Or.inr rfl, Or.inr rfl, Or.inr rfl, trivial⟩
set_option maxRecDepth 100000 in
theorem pc_X3_copy_16_54 {l : Launch} (hl : l.stackTraces = false) {M : PM}  {r : PR} (h : F_X3_copy_16_54 M  = some r) : PC l 1 Y_X3_copy [vR 16, vR 54] M r := pc_of hl (by decide +kernel) cok_X3_copy (Nat.le_of_ble_eq_true rfl) rfl (S_X3_copy_16_54 hl  h) rfl
def F_X10_restore_0 (M : PM)  : Option PR := (if mI M 0 5 < 1 then some (.inl (some (.int (-1))), M) else (if mI M 0 5 ≤ 3 then (if mI (sI M 0 5 ((mI M 0 5) - 1)) 0 5 = 0 then cV (F_X3_copy_16_43 (sI M 0 5 ((mI M 0 5) - 1))) fun M977 => some (.inl (some (.int (mI M977 0 5))), M977) else if mI (sI M 0 5 ((mI M 0 5) - 1)) 0 5 = 1 then cV (F_X3_copy_16_54 (sI M 0 5 ((mI M 0 5) - 1))) fun M978 => some (.inl (some (.int (mI M978 0 5))), M978) else if mI (sI M 0 5 ((mI M 0 5) - 1)) 0 5 = 2 then cV (F_X3_copy_16_65 (sI M 0 5 ((mI M 0 5) - 1))) fun M979 => some (.inl (some (.int (mI M979 0 5))), M979) else none) else some (.inl (some (.int (-1))), M)))
set_option maxRecDepth 100000 in
theorem S_X10_restore_0 {l : Launch} (hl : l.stackTraces = false) {M : PM}  {r : PR} (h : F_X10_restore_0 M  = some r) : PW l 2 Y_X10_restore k_X10_restore [vR 0] [] M r := by
  unfold F_X10_restore_0 at h
  refine p_aload_n rfl ?_
  refine p_getI fk_X10_125 gt_0 rfl ?_
  refine p_iconst cn_1 ?_
  refine p_icmp_lt h 10 rfl rfl (fun _ h => ?_) (fun _ h => ?_)
  · refine p_iconst cn_m1 ?_
    exact p_iret rfl h
  · refine p_aload_n rfl ?_
    refine p_getI fk_X10_125 gt_0 rfl ?_
    refine p_aload_n rfl ?_
    refine p_getR fk_X10_38 gt_0 rfl rfl ?_
    refine p_alen gt_42 (by simp) al_3 ?_
    refine p_icmp_le h 12 rfl rfl (fun _ h => ?_) (fun _ h => ?_)
    · refine p_aload_n rfl ?_
      refine p_dup rfl ?_
      refine p_getI fk_X10_125 gt_0 rfl ?_
      refine p_iconst cn_1 ?_
      refine p_isub ?_
      refine p_putI fk_X10_125 gt_0 rfl ?_
      refine p_aload_n rfl ?_
      refine p_getR fk_X10_34 gt_0 rfl rfl ?_
      refine p_aload_n rfl ?_
      refine p_getR fk_X10_38 gt_0 rfl rfl ?_
      refine p_aload_n rfl ?_
      refine p_getI fk_X10_125 gt_0 rfl ?_
      refine p_ald3 gt_42 rfl rfl rfl h (fun _ h => ?_) (fun _ h => ?_) (fun _ h => ?_)
      · refine p_cV (av := [_, _]) ⟨mok_X3_copy, Or.inl ⟨352, 16, 3, 0, _, rfl, rfl, rfl, gt_16, rfl, ins_X3_copy, Or.inr lk_X10_352⟩⟩ (Nat.le_of_ble_eq_true rfl) (Nat.le_of_ble_eq_true rfl) rfl (fun _ h => pc_X3_copy_16_43 hl h) h (fun M977 h => ?_)
        refine p_aload_n rfl ?_
        refine p_getI fk_X10_125 gt_0 rfl ?_
        exact p_iret rfl h
      · refine p_cV (av := [_, _]) ⟨mok_X3_copy, Or.inl ⟨352, 16, 3, 0, _, rfl, rfl, rfl, gt_16, rfl, ins_X3_copy, Or.inr lk_X10_352⟩⟩ (Nat.le_of_ble_eq_true rfl) (Nat.le_of_ble_eq_true rfl) rfl (fun _ h => pc_X3_copy_16_54 hl h) h (fun M978 h => ?_)
        refine p_aload_n rfl ?_
        refine p_getI fk_X10_125 gt_0 rfl ?_
        exact p_iret rfl h
      · refine p_cV (av := [_, _]) ⟨mok_X3_copy, Or.inl ⟨352, 16, 3, 0, _, rfl, rfl, rfl, gt_16, rfl, ins_X3_copy, Or.inr lk_X10_352⟩⟩ (Nat.le_of_ble_eq_true rfl) (Nat.le_of_ble_eq_true rfl) rfl (fun _ h => pc_X3_copy_16_65 hl h) h (fun M979 h => ?_)
        refine p_aload_n rfl ?_
        refine p_getI fk_X10_125 gt_0 rfl ?_
        exact p_iret rfl h
    · refine p_iconst cn_m1 ?_
      exact p_iret rfl h
set_option maxRecDepth 100000 in
theorem pc_X10_restore_0 {l : Launch} (hl : l.stackTraces = false) {M : PM}  {r : PR} (h : F_X10_restore_0 M  = some r) : PC l 2 Y_X10_restore [vR 0] M r := pc_of hl (by decide +kernel) cok_X10_restore (Nat.le_of_ble_eq_true rfl) rfl (S_X10_restore_0 hl  h) rfl
def F_X10_status_0 (M : PM) (a1 : Int32) : Option PR := (if a1 = 0 then some (.inl (some (.int (mI M 0 14))), M) else if a1 = 1 then some (.inl (some (.int (mI M 0 15))), M) else if a1 = 2 then some (.inl (some (.int (mI M 0 16))), M) else some (.inl (some (.int (-1))), M))
set_option maxRecDepth 100000 in
theorem S_X10_status_0 {l : Launch} (hl : l.stackTraces = false) {M : PM} {a1 : Int32} {r : PR} (h : F_X10_status_0 M a1 = some r) : PW l 0 Y_X10_status k_X10_status [vR 0, vI a1] [] M r := by
  unfold F_X10_status_0 at h
  refine p_iload_n rfl ?_
  refine p_ts3 h 2 rfl rfl 5 rfl rfl 8 rfl rfl 11 rfl rfl (fun _ h => ?_) (fun _ h => ?_) (fun _ h => ?_) (fun h => ?_)
  · refine p_aload_n rfl ?_
    refine p_getI fk_X10_355 gt_0 rfl ?_
    exact p_iret rfl h
  · refine p_aload_n rfl ?_
    refine p_getI fk_X10_358 gt_0 rfl ?_
    exact p_iret rfl h
  · refine p_aload_n rfl ?_
    refine p_getI fk_X10_361 gt_0 rfl ?_
    exact p_iret rfl h
  · refine p_iconst cn_m1 ?_
    exact p_iret rfl h
set_option maxRecDepth 100000 in
theorem pc_X10_status_0 {l : Launch} (hl : l.stackTraces = false) {M : PM} {a1 : Int32} {r : PR} (h : F_X10_status_0 M a1 = some r) : PC l 0 Y_X10_status [vR 0, vI a1] M r := pc_of hl (by decide +kernel) cok_X10_status (Nat.le_of_ble_eq_true rfl) rfl (S_X10_status_0 hl  h) rfl
def F_X10_sums_0 (M : PM) (a1 : Int32) : Option PR := (if a1 = 0 then some (.inl (some (.int (mI M 16 4))), M) else if a1 = 1 then some (.inl (some (.int (mI M 16 9))), M) else if a1 = 2 then some (.inl (some (.int (mI M 16 12))), M) else if a1 = 3 then some (.inl (some (.int (mI M 0 5))), M) else if a1 = 4 then some (.inl (some (.int (mI M 1 1))), M) else some (.inl (some (.int (-1))), M))
set_option maxRecDepth 100000 in
theorem S_X10_sums_0 {l : Launch} (hl : l.stackTraces = false) {M : PM} {a1 : Int32} {r : PR} (h : F_X10_sums_0 M a1 = some r) : PW l 0 Y_X10_sums k_X10_sums [vR 0, vI a1] [] M r := by
  unfold F_X10_sums_0 at h
  refine p_iload_n rfl ?_
  refine p_ts5 h 2 rfl rfl 6 rfl rfl 10 rfl rfl 14 rfl rfl 17 rfl rfl 21 rfl rfl (fun _ h => ?_) (fun _ h => ?_) (fun _ h => ?_) (fun _ h => ?_) (fun _ h => ?_) (fun h => ?_)
  · refine p_aload_n rfl ?_
    refine p_getR fk_X10_34 gt_0 rfl rfl ?_
    refine p_getI fk_X10_301 gt_16 rfl ?_
    exact p_iret rfl h
  · refine p_aload_n rfl ?_
    refine p_getR fk_X10_34 gt_0 rfl rfl ?_
    refine p_getI fk_X10_304 gt_16 rfl ?_
    exact p_iret rfl h
  · refine p_aload_n rfl ?_
    refine p_getR fk_X10_34 gt_0 rfl rfl ?_
    refine p_getI fk_X10_333 gt_16 rfl ?_
    exact p_iret rfl h
  · refine p_aload_n rfl ?_
    refine p_getI fk_X10_125 gt_0 rfl ?_
    exact p_iret rfl h
  · refine p_aload_n rfl ?_
    refine p_getR fk_X10_21 gt_0 rfl rfl ?_
    refine p_getI fk_X10_94 gt_1 rfl ?_
    exact p_iret rfl h
  · refine p_iconst cn_m1 ?_
    exact p_iret rfl h
set_option maxRecDepth 100000 in
theorem pc_X10_sums_0 {l : Launch} (hl : l.stackTraces = false) {M : PM} {a1 : Int32} {r : PR} (h : F_X10_sums_0 M a1 = some r) : PC l 0 Y_X10_sums [vR 0, vI a1] M r := pc_of hl (by decide +kernel) cok_X10_sums (Nat.le_of_ble_eq_true rfl) rfl (S_X10_sums_0 hl  h) rfl
def F_X11_thrown_99 (M : PM)  : Option PR := some (.inl (some (.int (mI M 99 0))), M)
set_option maxRecDepth 100000 in
theorem S_X11_thrown_99 {l : Launch} (hl : l.stackTraces = false) {M : PM}  {r : PR} (h : F_X11_thrown_99 M  = some r) : PW l 0 Y_X11_thrown k_X11_thrown [vR 99] [] M r := by
  unfold F_X11_thrown_99 at h
  refine p_aload_n rfl ?_
  refine p_getI fk_X11_107 gt_99 rfl ?_
  exact p_iret rfl h
set_option maxRecDepth 100000 in
theorem pc_X11_thrown_99 {l : Launch} (hl : l.stackTraces = false) {M : PM}  {r : PR} (h : F_X11_thrown_99 M  = some r) : PC l 0 Y_X11_thrown [vR 99] M r := pc_of hl (by decide +kernel) cok_X11_thrown (Nat.le_of_ble_eq_true rfl) rfl (S_X11_thrown_99 hl  h) rfl
def F_X11_feed_99_76 (k23 : PM → Int32 → Int32 → Int32 → Int32 → Int32 → Int32 → Option PR) (M : PM) (x1 : Int32) (x2 : Int32) (x3 : Int32) (x4 : Int32) (x5 : Int32) (x6 : Int32) (t0 : Int32) : Option PR := if 4 = 0 then none else if ixOK (mI M 99 1) 500 = true then lt (sI (sA M 100 (mI M 99 1).toNatClampNeg ((t0 >>> ((24 - (8 * (x6 - x6 / 4 * 4))) &&& 31)) &&& 255)) 99 1 ((mI (sA M 100 (mI M 99 1).toNatClampNeg ((t0 >>> ((24 - (8 * (x6 - x6 / 4 * 4))) &&& 31)) &&& 255)) 99 1) + 1)) fun M980 => lt (x6 + 1) fun y981 => k23 M980 x1 x2 x3 x4 x5 y981 else none
def F_X11_feed_99_23 : Nat → PM → Int32 → Int32 → Int32 → Int32 → Int32 → Int32 → Option PR
  | 0, _, _, _, _, _, _, _ => none
  | n + 1, M, x1, x2, x3, x4, x5, x6 => (if 20 ≤ x6 then some (.inl (some (.int (mI M 99 1))), M) else (if 4 ≤ x6 then (if 8 ≤ x6 then (if 12 ≤ x6 then (if 16 ≤ x6 then F_X11_feed_99_76 (F_X11_feed_99_23 n) M x1 x2 x3 x4 x5 x6 x5 else F_X11_feed_99_76 (F_X11_feed_99_23 n) M x1 x2 x3 x4 x5 x6 x4) else F_X11_feed_99_76 (F_X11_feed_99_23 n) M x1 x2 x3 x4 x5 x6 x3) else F_X11_feed_99_76 (F_X11_feed_99_23 n) M x1 x2 x3 x4 x5 x6 x2) else F_X11_feed_99_76 (F_X11_feed_99_23 n) M x1 x2 x3 x4 x5 x6 x1))
def F_X11_feed_99 (M : PM) (a1 : Int32) (a2 : Int32) (a3 : Int32) (a4 : Int32) (a5 : Int32) : Option PR := (if (mI (sI M 99 0 0) 99 1) + 20 ≤ 500 then F_X11_feed_99_23 FUEL (sI M 99 0 0) a1 a2 a3 a4 a5 0 else some (.inl (some (.int (-1))), sI M 99 0 0))
set_option maxRecDepth 100000 in
theorem S_X11_feed_99_76 {l : Launch} (hl : l.stackTraces = false) {k23 : PM → Int32 → Int32 → Int32 → Int32 → Int32 → Int32 → Option PR} (hk23 : ∀ {M : PM} {x1 : Int32} {x2 : Int32} {x3 : Int32} {x4 : Int32} {x5 : Int32} {x6 : Int32} {r : PR}, k23 M x1 x2 x3 x4 x5 x6 = some r → PW l 0 Y_X11_feed k_X11_feed_23 [vR 99, vI x1, vI x2, vI x3, vI x4, vI x5, vI x6, jk] [] M r) {M : PM} {x1 : Int32} {x2 : Int32} {x3 : Int32} {x4 : Int32} {x5 : Int32} {x6 : Int32} {t0 : Int32} {r : PR} (h : F_X11_feed_99_76 k23 M x1 x2 x3 x4 x5 x6 t0 = some r) : PW l 0 Y_X11_feed k_X11_feed_76 [vR 99, vI x1, vI x2, vI x3, vI x4, vI x5, vI x6, jk] [vI t0] M r := by
  unfold F_X11_feed_99_76 at h
  refine p_istore (Nat.le_of_ble_eq_true rfl) rfl ?_
  refine p_aload_n rfl ?_
  refine p_getR fk_X11_13 gt_99 rfl rfl ?_
  refine p_aload_n rfl ?_
  refine p_getI fk_X11_110 gt_99 rfl ?_
  refine p_iload rfl ?_
  refine p_bipush cb_24 ?_
  refine p_bipush cb_8 ?_
  refine p_iload rfl ?_
  refine p_iconst cn_4 ?_
  refine p_irem h (fun h => ?_)
  refine p_imul ?_
  refine p_isub ?_
  refine p_ishr ?_
  refine p_sipush cs_255 ?_
  refine p_iand ?_
  refine p_iast gt_100 h (fun h => ?_)
  refine p_aload_n rfl ?_
  refine p_dup rfl ?_
  refine p_getI fk_X11_110 gt_99 rfl ?_
  refine p_iconst cn_1 ?_
  refine p_iadd ?_
  refine p_putI fk_X11_110 gt_99 rfl ?_
  have h := lt_h h
  have h := lt_h h
  refine p_iinc (Nat.le_of_ble_eq_true rfl) rfl (ci_1 _) rfl ?_
  refine p_goto 13 rfl rfl ?_
  exact p_fg (hk23 h) ⟨Or.inr rfl, Or.inr rfl, Or.inr rfl, Or.inr rfl, Or.inr rfl, Or.inr rfl, Or.inr rfl, Or.inl rfl, trivial⟩
set_option maxRecDepth 100000 in
theorem S_X11_feed_99_23 {l : Launch} (hl : l.stackTraces = false) : ∀ (n : Nat) {M : PM} {x1 : Int32} {x2 : Int32} {x3 : Int32} {x4 : Int32} {x5 : Int32} {x6 : Int32} {r : PR}, F_X11_feed_99_23  n M x1 x2 x3 x4 x5 x6 = some r → PW l 0 Y_X11_feed k_X11_feed_23 [vR 99, vI x1, vI x2, vI x3, vI x4, vI x5, vI x6, jk] [] M r := by
  intro n
  induction n with
  | zero => intro M x1 x2 x3 x4 x5 x6 r h; exact nomatch (show (none : Option PR) = some r from h)
  | succ n ih =>
    intro M x1 x2 x3 x4 x5 x6 r h
    rw [F_X11_feed_99_23] at h
    refine p_iload rfl ?_
    refine p_bipush cb_20 ?_
    refine p_icmp_ge h 62 rfl rfl (fun _ h => ?_) (fun _ h => ?_)
    · refine p_aload_n rfl ?_
      refine p_getI fk_X11_110 gt_99 rfl ?_
      exact p_iret rfl h
    · refine p_iload rfl ?_
      refine p_iconst cn_4 ?_
      refine p_icmp_ge h 21 rfl rfl (fun _ h => ?_) (fun _ h => ?_)
      · refine p_iload rfl ?_
        refine p_bipush cb_8 ?_
        refine p_icmp_ge h 26 rfl rfl (fun _ h => ?_) (fun _ h => ?_)
        · refine p_iload rfl ?_
          refine p_bipush cb_12 ?_
          refine p_icmp_ge h 31 rfl rfl (fun _ h => ?_) (fun _ h => ?_)
          · refine p_iload rfl ?_
            refine p_bipush cb_16 ?_
            refine p_icmp_ge h 36 rfl rfl (fun _ h => ?_) (fun _ h => ?_)
            · refine p_iload rfl ?_
              exact p_fg (S_X11_feed_99_76 hl (fun h => ih h) h) ⟨Or.inr rfl, Or.inr rfl, Or.inr rfl, Or.inr rfl, Or.inr rfl, Or.inr rfl, Or.inr rfl, Or.inl rfl, trivial⟩
            · refine p_iload rfl ?_
              refine p_goto 37 rfl rfl ?_
              exact p_fg (S_X11_feed_99_76 hl (fun h => ih h) h) ⟨Or.inr rfl, Or.inr rfl, Or.inr rfl, Or.inr rfl, Or.inr rfl, Or.inr rfl, Or.inr rfl, Or.inl rfl, trivial⟩
          · refine p_iload_n rfl ?_
            refine p_goto 37 rfl rfl ?_
            exact p_fg (S_X11_feed_99_76 hl (fun h => ih h) h) ⟨Or.inr rfl, Or.inr rfl, Or.inr rfl, Or.inr rfl, Or.inr rfl, Or.inr rfl, Or.inr rfl, Or.inl rfl, trivial⟩
        · refine p_iload_n rfl ?_
          refine p_goto 37 rfl rfl ?_
          exact p_fg (S_X11_feed_99_76 hl (fun h => ih h) h) ⟨Or.inr rfl, Or.inr rfl, Or.inr rfl, Or.inr rfl, Or.inr rfl, Or.inr rfl, Or.inr rfl, Or.inl rfl, trivial⟩
      · refine p_iload_n rfl ?_
        refine p_goto 37 rfl rfl ?_
        exact p_fg (S_X11_feed_99_76 hl (fun h => ih h) h) ⟨Or.inr rfl, Or.inr rfl, Or.inr rfl, Or.inr rfl, Or.inr rfl, Or.inr rfl, Or.inr rfl, Or.inl rfl, trivial⟩
set_option maxRecDepth 100000 in
theorem S_X11_feed_99 {l : Launch} (hl : l.stackTraces = false) {M : PM} {a1 : Int32} {a2 : Int32} {a3 : Int32} {a4 : Int32} {a5 : Int32} {r : PR} (h : F_X11_feed_99 M a1 a2 a3 a4 a5 = some r) : PW l 0 Y_X11_feed k_X11_feed [vR 99, vI a1, vI a2, vI a3, vI a4, vI a5, jk, jk] [] M r := by
  unfold F_X11_feed_99 at h
  refine p_aload_n rfl ?_
  refine p_iconst cn_0 ?_
  refine p_putI fk_X11_107 gt_99 rfl ?_
  refine p_aload_n rfl ?_
  refine p_getI fk_X11_110 gt_99 rfl ?_
  refine p_bipush cb_20 ?_
  refine p_iadd ?_
  refine p_sipush cs_500 ?_
  refine p_icmp_le h 11 rfl rfl (fun _ h => ?_) (fun _ h => ?_)
  · refine p_iconst cn_0 ?_
    refine p_istore (Nat.le_of_ble_eq_true rfl) rfl ?_
    exact p_fg (S_X11_feed_99_23 hl FUEL h) ⟨Or.inr rfl, Or.inr rfl, Or.inr rfl, Or.inr rfl, Or.inr rfl, Or.inr rfl, Or.inr rfl, Or.inl rfl, trivial⟩
  · refine p_iconst cn_m1 ?_
    exact p_iret rfl h
set_option maxRecDepth 100000 in
theorem pc_X11_feed_99 {l : Launch} (hl : l.stackTraces = false) {M : PM} {a1 : Int32} {a2 : Int32} {a3 : Int32} {a4 : Int32} {a5 : Int32} {r : PR} (h : F_X11_feed_99 M a1 a2 a3 a4 a5 = some r) : PC l 0 Y_X11_feed [vR 99, vI a1, vI a2, vI a3, vI a4, vI a5] M r := pc_of hl (by decide +kernel) cok_X11_feed (Nat.le_of_ble_eq_true rfl) rfl (S_X11_feed_99 hl  h) rfl
def F_X11_in (M : PM) (a0 : Int32) (a1 : Int32) (a2 : Int32) : Option PR := (if a0 < a1 then (if (0 : Int32) &&& 1 = 0 then some (.inl (some (.int 0)), M) else none) else (if a2 < a0 then (if (0 : Int32) &&& 1 = 0 then some (.inl (some (.int 0)), M) else none) else (if (1 : Int32) &&& 1 = 1 then some (.inl (some (.int 1)), M) else none)))
set_option maxRecDepth 100000 in
theorem S_X11_in {l : Launch} (hl : l.stackTraces = false) {M : PM} {a0 : Int32} {a1 : Int32} {a2 : Int32} {r : PR} (h : F_X11_in M a0 a1 a2 = some r) : PW l 0 Y_X11_in k_X11_in [vI a0, vI a1, vI a2] [] M r := by
  unfold F_X11_in at h
  refine p_iload_n rfl ?_
  refine p_iload_n rfl ?_
  refine p_icmp_lt h 8 rfl rfl (fun _ h => ?_) (fun _ h => ?_)
  · refine p_iconst cn_0 ?_
    exact p_zret rfl h
  · refine p_iload_n rfl ?_
    refine p_iload_n rfl ?_
    refine p_icmp_gt h 8 rfl rfl (fun _ h => ?_) (fun _ h => ?_)
    · refine p_iconst cn_0 ?_
      exact p_zret rfl h
    · refine p_iconst cn_1 ?_
      refine p_goto 9 rfl rfl ?_
      exact p_zret rfl h
set_option maxRecDepth 100000 in
theorem pc_X11_in {l : Launch} (hl : l.stackTraces = false) {M : PM} {a0 : Int32} {a1 : Int32} {a2 : Int32} {r : PR} (h : F_X11_in M a0 a1 a2 = some r) : PC l 0 Y_X11_in [vI a0, vI a1, vI a2] M r := pc_of hl (by decide +kernel) cok_X11_in (Nat.le_of_ble_eq_true rfl) rfl (S_X11_in hl  h) rfl
def F_X11_bad_99_26 (M : PM)  : Option PR := (if mI M 99 0 = 0 then (if (0 : Int32) &&& 1 = 0 then some (.inl (some (.int 0)), M) else none) else (if (1 : Int32) &&& 1 = 1 then some (.inl (some (.int 1)), M) else none))
def F_X11_bad_99 (M : PM) (a1 : Int32) (a2 : Int32) (a3 : Int32) : Option PR := (if a1 = 0 then F_X11_bad_99_26 M else (if mI M 99 0 = 0 then if ixOK a3 3 = true then if ixOK a3 3 = true then F_X11_bad_99_26 (sA (sI M 99 0 a2) 101 a3.toNatClampNeg ((mA (sI M 99 0 a2) 101 a3.toNatClampNeg) + 1)) else none else none else F_X11_bad_99_26 M))
set_option maxRecDepth 100000 in
theorem S_X11_bad_99_26 {l : Launch} (hl : l.stackTraces = false) {M : PM}  {r : PR} (h : F_X11_bad_99_26  M  = some r) : PW l 0 Y_X11_bad k_X11_bad_26 [vR 99, jk, jk, jk] [] M r := by
  unfold F_X11_bad_99_26 at h
  refine p_aload_n rfl ?_
  refine p_getI fk_X11_107 gt_99 rfl ?_
  refine p_if_eq h 21 rfl rfl (fun _ h => ?_) (fun _ h => ?_)
  · refine p_iconst cn_0 ?_
    exact p_zret rfl h
  · refine p_iconst cn_1 ?_
    refine p_goto 22 rfl rfl ?_
    exact p_zret rfl h
set_option maxRecDepth 100000 in
theorem S_X11_bad_99 {l : Launch} (hl : l.stackTraces = false) {M : PM} {a1 : Int32} {a2 : Int32} {a3 : Int32} {r : PR} (h : F_X11_bad_99 M a1 a2 a3 = some r) : PW l 0 Y_X11_bad k_X11_bad [vR 99, vI a1, vI a2, vI a3] [] M r := by
  unfold F_X11_bad_99 at h
  refine p_iload_n rfl ?_
  refine p_if_eq h 16 rfl rfl (fun _ h => ?_) (fun _ h => ?_)
  · exact p_fg (S_X11_bad_99_26 hl h) ⟨Or.inr rfl, Or.inl rfl, Or.inl rfl, Or.inl rfl, trivial⟩
  · refine p_aload_n rfl ?_
    refine p_getI fk_X11_107 gt_99 rfl ?_
    refine p_if_ne h 16 rfl rfl (fun _ h => ?_) (fun _ h => ?_)
    · refine p_aload_n rfl ?_
      refine p_iload_n rfl ?_
      refine p_putI fk_X11_107 gt_99 rfl ?_
      refine p_aload_n rfl ?_
      refine p_getR fk_X11_17 gt_99 rfl rfl ?_
      refine p_iload_n rfl ?_
      refine p_dup2 rfl rfl ?_
      refine p_iald gt_101 h (fun h => ?_)
      refine p_iconst cn_1 ?_
      refine p_iadd ?_
      refine p_iast gt_101 h (fun h => ?_)
      exact p_fg (S_X11_bad_99_26 hl h) ⟨Or.inr rfl, Or.inl rfl, Or.inl rfl, Or.inl rfl, trivial⟩
    · exact p_fg (S_X11_bad_99_26 hl h) ⟨Or.inr rfl, Or.inl rfl, Or.inl rfl, Or.inl rfl, trivial⟩
set_option maxRecDepth 100000 in
theorem pc_X11_bad_99 {l : Launch} (hl : l.stackTraces = false) {M : PM} {a1 : Int32} {a2 : Int32} {a3 : Int32} {r : PR} (h : F_X11_bad_99 M a1 a2 a3 = some r) : PC l 0 Y_X11_bad [vR 99, vI a1, vI a2, vI a3] M r := pc_of hl (by decide +kernel) cok_X11_bad (Nat.le_of_ble_eq_true rfl) rfl (S_X11_bad_99 hl  h) rfl
def F_X11_byteAt_99 (M : PM) (a1 : Int32) : Option PR := (if a1 < mI M 99 2 then if ixOK a1 500 = true then some (.inl (some (.int (mA M 100 a1.toNatClampNeg))), M) else none else some (.inl (some (.int (-1))), M))
set_option maxRecDepth 100000 in
theorem S_X11_byteAt_99 {l : Launch} (hl : l.stackTraces = false) {M : PM} {a1 : Int32} {r : PR} (h : F_X11_byteAt_99 M a1 = some r) : PW l 0 Y_X11_byteAt k_X11_byteAt [vR 99, vI a1] [] M r := by
  unfold F_X11_byteAt_99 at h
  refine p_iload_n rfl ?_
  refine p_aload_n rfl ?_
  refine p_getI fk_X11_113 gt_99 rfl ?_
  refine p_icmp_lt h 6 rfl rfl (fun _ h => ?_) (fun _ h => ?_)
  · refine p_aload_n rfl ?_
    refine p_getR fk_X11_13 gt_99 rfl rfl ?_
    refine p_iload_n rfl ?_
    refine p_iald gt_100 h (fun h => ?_)
    exact p_iret rfl h
  · refine p_iconst cn_m1 ?_
    refine p_goto 10 rfl rfl ?_
    exact p_iret rfl h
set_option maxRecDepth 100000 in
theorem pc_X11_byteAt_99 {l : Launch} (hl : l.stackTraces = false) {M : PM} {a1 : Int32} {r : PR} (h : F_X11_byteAt_99 M a1 = some r) : PC l 0 Y_X11_byteAt [vR 99, vI a1] M r := pc_of hl (by decide +kernel) cok_X11_byteAt (Nat.le_of_ble_eq_true rfl) rfl (S_X11_byteAt_99 hl  h) rfl
def F_X11_blanks_99_0 : Nat → PM → Option PR
  | 0, _ => none
  | n + 1, M => cI (F_X11_byteAt_99 M (mI M 99 4)) fun v983 M982 => (if v983 = 32 then F_X11_blanks_99_0 n (sI M982 99 4 ((mI M982 99 4) + 1)) else some (.inl none, M982))
def F_X11_blanks_99 (M : PM)  : Option PR := F_X11_blanks_99_0 FUEL M
set_option maxRecDepth 100000 in
theorem S_X11_blanks_99_0 {l : Launch} (hl : l.stackTraces = false) : ∀ (n : Nat) {M : PM}  {r : PR}, F_X11_blanks_99_0  n M  = some r → PW l 1 Y_X11_blanks k_X11_blanks [vR 99] [] M r := by
  intro n
  induction n with
  | zero => intro M  r h; exact nomatch (show (none : Option PR) = some r from h)
  | succ n ih =>
    intro M  r h
    rw [F_X11_blanks_99_0] at h
    refine p_aload_n rfl ?_
    refine p_aload_n rfl ?_
    refine p_getI fk_X11_116 gt_99 rfl ?_
    refine p_cI (av := [_, _]) ⟨mok_X11_byteAt, Or.inl ⟨119, 99, 11, 0, _, rfl, rfl, rfl, gt_99, rfl, ins_X11_byteAt, Or.inl lk_X11_119⟩⟩ (Nat.le_of_ble_eq_true rfl) (Nat.le_of_ble_eq_true rfl) rfl (fun _ h => pc_X11_byteAt_99 hl h) h (fun v983 M982 h => ?_)
    refine p_bipush cb_32 ?_
    refine p_icmp_ne h 13 rfl rfl (fun _ h => ?_) (fun _ h => ?_)
    · refine p_aload_n rfl ?_
      refine p_dup rfl ?_
      refine p_getI fk_X11_116 gt_99 rfl ?_
      refine p_iconst cn_1 ?_
      refine p_iadd ?_
      refine p_putI fk_X11_116 gt_99 rfl ?_
      refine p_goto 0 rfl rfl ?_
      exact p_fg (ih h) ⟨Or.inr rfl, trivial⟩
    · exact p_ret rfl h
set_option maxRecDepth 100000 in
theorem S_X11_blanks_99 {l : Launch} (hl : l.stackTraces = false) {M : PM}  {r : PR} (h : F_X11_blanks_99 M  = some r) : PW l 1 Y_X11_blanks k_X11_blanks [vR 99] [] M r := by
  unfold F_X11_blanks_99 at h
  exact p_fg (S_X11_blanks_99_0 hl FUEL h) ⟨Or.inr rfl, trivial⟩
set_option maxRecDepth 100000 in
theorem pc_X11_blanks_99 {l : Launch} (hl : l.stackTraces = false) {M : PM}  {r : PR} (h : F_X11_blanks_99 M  = some r) : PC l 1 Y_X11_blanks [vR 99] M r := pc_of hl (by decide +kernel) cok_X11_blanks (Nat.le_of_ble_eq_true rfl) rfl (S_X11_blanks_99 hl  h) rfl
def F_X11_starts_99 (M : PM) (a1 : Int32) : Option PR := cV (F_X11_blanks_99 (sI (sI (sI (sI (sI (sI M 99 1 0) 99 2 a1) 99 4 0) 99 5 0) 99 6 (-1)) 99 7 0)) fun M984 => some (.inl none, M984)
set_option maxRecDepth 100000 in
theorem S_X11_starts_99 {l : Launch} (hl : l.stackTraces = false) {M : PM} {a1 : Int32} {r : PR} (h : F_X11_starts_99 M a1 = some r) : PW l 2 Y_X11_starts k_X11_starts [vR 99, vI a1] [] M r := by
  unfold F_X11_starts_99 at h
  refine p_aload_n rfl ?_
  refine p_iconst cn_0 ?_
  refine p_putI fk_X11_110 gt_99 rfl ?_
  refine p_aload_n rfl ?_
  refine p_iload_n rfl ?_
  refine p_putI fk_X11_113 gt_99 rfl ?_
  refine p_aload_n rfl ?_
  refine p_iconst cn_0 ?_
  refine p_putI fk_X11_116 gt_99 rfl ?_
  refine p_aload_n rfl ?_
  refine p_iconst cn_0 ?_
  refine p_putI fk_X11_123 gt_99 rfl ?_
  refine p_aload_n rfl ?_
  refine p_iconst cn_m1 ?_
  refine p_putI fk_X11_126 gt_99 rfl ?_
  refine p_aload_n rfl ?_
  refine p_iconst cn_0 ?_
  refine p_putI fk_X11_160 gt_99 rfl ?_
  refine p_aload_n rfl ?_
  refine p_cV (av := [_]) ⟨mok_X11_blanks, Or.inl ⟨129, 99, 11, 0, _, rfl, rfl, rfl, gt_99, rfl, ins_X11_blanks, Or.inl lk_X11_129⟩⟩ (Nat.le_of_ble_eq_true rfl) (Nat.le_of_ble_eq_true rfl) rfl (fun _ h => pc_X11_blanks_99 hl h) h (fun M984 h => ?_)
  exact p_ret rfl h
set_option maxRecDepth 100000 in
theorem pc_X11_starts_99 {l : Launch} (hl : l.stackTraces = false) {M : PM} {a1 : Int32} {r : PR} (h : F_X11_starts_99 M a1 = some r) : PC l 2 Y_X11_starts [vR 99, vI a1] M r := pc_of hl (by decide +kernel) cok_X11_starts (Nat.le_of_ble_eq_true rfl) rfl (S_X11_starts_99 hl  h) rfl
def F_X11_wrong_99 (M : PM) (a1 : Int32) (a2 : Int32) : Option PR := (if mI M 99 5 = 0 then some (.inl none, sI (sI M 99 5 a1) 99 6 a2) else some (.inl none, M))
set_option maxRecDepth 100000 in
theorem S_X11_wrong_99 {l : Launch} (hl : l.stackTraces = false) {M : PM} {a1 : Int32} {a2 : Int32} {r : PR} (h : F_X11_wrong_99 M a1 a2 = some r) : PW l 0 Y_X11_wrong k_X11_wrong [vR 99, vI a1, vI a2] [] M r := by
  unfold F_X11_wrong_99 at h
  refine p_aload_n rfl ?_
  refine p_getI fk_X11_123 gt_99 rfl ?_
  refine p_if_ne h 9 rfl rfl (fun _ h => ?_) (fun _ h => ?_)
  · refine p_aload_n rfl ?_
    refine p_iload_n rfl ?_
    refine p_putI fk_X11_123 gt_99 rfl ?_
    refine p_aload_n rfl ?_
    refine p_iload_n rfl ?_
    refine p_putI fk_X11_126 gt_99 rfl ?_
    exact p_ret rfl h
  · exact p_ret rfl h
set_option maxRecDepth 100000 in
theorem pc_X11_wrong_99 {l : Launch} (hl : l.stackTraces = false) {M : PM} {a1 : Int32} {a2 : Int32} {r : PR} (h : F_X11_wrong_99 M a1 a2 = some r) : PC l 0 Y_X11_wrong [vR 99, vI a1, vI a2] M r := pc_of hl (by decide +kernel) cok_X11_wrong (Nat.le_of_ble_eq_true rfl) rfl (S_X11_wrong_99 hl  h) rfl
def F_X11_common_4 : Nat → PM → Int32 → Int32 → Option PR
  | 0, _, _, _ => none
  | n + 1, M, x2, x3 => (if x3 = 0 then some (.inl (some (.int x2)), M) else if x3 = 0 then none else lt (x2 - x2 / x3 * x3) fun y985 => F_X11_common_4 n M x3 y985)
def F_X11_common (M : PM) (a0 : Int32) (a1 : Int32) : Option PR := F_X11_common_4 FUEL M a0 a1
set_option maxRecDepth 100000 in
theorem S_X11_common_4 {l : Launch} (hl : l.stackTraces = false) : ∀ (n : Nat) {M : PM} {x2 : Int32} {x3 : Int32} {r : PR}, F_X11_common_4  n M x2 x3 = some r → PW l 0 Y_X11_common k_X11_common_4 [jk, jk, vI x2, vI x3, jk] [] M r := by
  intro n
  induction n with
  | zero => intro M x2 x3 r h; exact nomatch (show (none : Option PR) = some r from h)
  | succ n ih =>
    intro M x2 x3 r h
    rw [F_X11_common_4] at h
    refine p_iload_n rfl ?_
    refine p_if_eq h 15 rfl rfl (fun _ h => ?_) (fun _ h => ?_)
    · refine p_iload_n rfl ?_
      exact p_iret rfl h
    · refine p_iload_n rfl ?_
      refine p_iload_n rfl ?_
      refine p_irem h (fun h => ?_)
      have h := lt_h h
      refine p_istore (Nat.le_of_ble_eq_true rfl) rfl ?_
      refine p_iload_n rfl ?_
      refine p_istore_n (Nat.le_of_ble_eq_true rfl) rfl ?_
      refine p_iload rfl ?_
      refine p_istore_n (Nat.le_of_ble_eq_true rfl) rfl ?_
      refine p_goto 4 rfl rfl ?_
      exact p_fg (ih h) ⟨Or.inl rfl, Or.inl rfl, Or.inr rfl, Or.inr rfl, Or.inl rfl, trivial⟩
set_option maxRecDepth 100000 in
theorem S_X11_common {l : Launch} (hl : l.stackTraces = false) {M : PM} {a0 : Int32} {a1 : Int32} {r : PR} (h : F_X11_common M a0 a1 = some r) : PW l 0 Y_X11_common k_X11_common [vI a0, vI a1, jk, jk, jk] [] M r := by
  unfold F_X11_common at h
  refine p_iload_n rfl ?_
  refine p_istore_n (Nat.le_of_ble_eq_true rfl) rfl ?_
  refine p_iload_n rfl ?_
  refine p_istore_n (Nat.le_of_ble_eq_true rfl) rfl ?_
  exact p_fg (S_X11_common_4 hl FUEL h) ⟨Or.inl rfl, Or.inl rfl, Or.inr rfl, Or.inr rfl, Or.inl rfl, trivial⟩
set_option maxRecDepth 100000 in
theorem pc_X11_common {l : Launch} (hl : l.stackTraces = false) {M : PM} {a0 : Int32} {a1 : Int32} {r : PR} (h : F_X11_common M a0 a1 = some r) : PC l 0 Y_X11_common [vI a0, vI a1] M r := pc_of hl (by decide +kernel) cok_X11_common (Nat.le_of_ble_eq_true rfl) rfl (S_X11_common hl  h) rfl
def F_X11_both (M : PM) (a0 : Int32) (a1 : Int32) : Option PR := (if a0 ≤ 100000 then cI (F_X11_common M a0 a1) fun v987 M986 => if v987 = 0 then none else lt ((a0 / v987) * a1) fun y988 => (if y988 ≤ 100000 then some (.inl (some (.int y988)), M986) else some (.inl (some (.int 100001)), M986)) else some (.inl (some (.int a0)), M))
set_option maxRecDepth 100000 in
theorem S_X11_both {l : Launch} (hl : l.stackTraces = false) {M : PM} {a0 : Int32} {a1 : Int32} {r : PR} (h : F_X11_both M a0 a1 = some r) : PW l 1 Y_X11_both k_X11_both [vI a0, vI a1, jk] [] M r := by
  unfold F_X11_both at h
  refine p_iload_n rfl ?_
  refine p_ldc co_X11_163 ?_
  refine p_icmp_le h 5 rfl rfl (fun _ h => ?_) (fun _ h => ?_)
  · refine p_iload_n rfl ?_
    refine p_iload_n rfl ?_
    refine p_iload_n rfl ?_
    refine p_cI (av := [_, _]) ⟨mok_X11_common, Or.inr ⟨164, rfl, rfl, sta_X11_common, Or.inl lk_X11_164⟩⟩ (Nat.le_of_ble_eq_true rfl) (Nat.le_of_ble_eq_true rfl) rfl (fun _ h => pc_X11_common hl h) h (fun v987 M986 h => ?_)
    refine p_idiv h (fun h => ?_)
    refine p_iload_n rfl ?_
    refine p_imul ?_
    have h := lt_h h
    refine p_istore_n (Nat.le_of_ble_eq_true rfl) rfl ?_
    refine p_iload_n rfl ?_
    refine p_ldc co_X11_163 ?_
    refine p_icmp_le h 18 rfl rfl (fun _ h => ?_) (fun _ h => ?_)
    · refine p_iload_n rfl ?_
      exact p_iret rfl h
    · refine p_ldc co_X11_168 ?_
      refine p_goto 19 rfl rfl ?_
      exact p_iret rfl h
  · refine p_iload_n rfl ?_
    exact p_iret rfl h
set_option maxRecDepth 100000 in
theorem pc_X11_both {l : Launch} (hl : l.stackTraces = false) {M : PM} {a0 : Int32} {a1 : Int32} {r : PR} (h : F_X11_both M a0 a1 = some r) : PC l 1 Y_X11_both [vI a0, vI a1] M r := pc_of hl (by decide +kernel) cok_X11_both (Nat.le_of_ble_eq_true rfl) rfl (S_X11_both hl  h) rfl
def F_X11_wordHere_99_75 (M : PM) (x1 : Int32) (x2 : Int32) : Option PR := (if x2 ≤ 6 then some (.inl (some (.int x1)), M) else some (.inl (some (.int (-1))), M))
def F_X11_wordHere_99_68 (k8 : PM → Int32 → Int32 → Option PR) (M : PM) (x2 : Int32) (t0 : Int32) : Option PR := lt (x2 + 1) fun y989 => k8 M t0 y989
def F_X11_wordHere_99_8 : Nat → PM → Int32 → Int32 → Option PR
  | 0, _, _, _ => none
  | n + 1, M, x1, x2 => cI (F_X11_byteAt_99 M ((mI M 99 4) + x2)) fun v991 M990 => (if v991 < 97 then F_X11_wordHere_99_75 M990 x1 x2 else cI (F_X11_byteAt_99 M990 ((mI M990 99 4) + x2)) fun v993 M992 => (if 122 < v993 then F_X11_wordHere_99_75 M992 x1 x2 else (if 6 ≤ x2 then F_X11_wordHere_99_68 (F_X11_wordHere_99_8 n) M992 x2 x1 else cI (F_X11_byteAt_99 M992 ((mI M992 99 4) + x2)) fun v995 M994 => F_X11_wordHere_99_68 (F_X11_wordHere_99_8 n) M994 x2 ((((27 * x1) + v995) - 97) + 1))))
def F_X11_wordHere_99 (M : PM)  : Option PR := cV (F_X11_blanks_99 M) fun M996 => F_X11_wordHere_99_8 FUEL M996 0 0
set_option maxRecDepth 100000 in
theorem S_X11_wordHere_99_75 {l : Launch} (hl : l.stackTraces = false) {M : PM} {x1 : Int32} {x2 : Int32} {r : PR} (h : F_X11_wordHere_99_75  M x1 x2 = some r) : PW l 2 Y_X11_wordHere k_X11_wordHere_75 [jk, vI x1, vI x2] [] M r := by
  unfold F_X11_wordHere_99_75 at h
  refine p_iload_n rfl ?_
  refine p_bipush cb_6 ?_
  refine p_icmp_le h 49 rfl rfl (fun _ h => ?_) (fun _ h => ?_)
  · refine p_iload_n rfl ?_
    exact p_iret rfl h
  · refine p_iconst cn_m1 ?_
    refine p_goto 50 rfl rfl ?_
    exact p_iret rfl h
set_option maxRecDepth 100000 in
theorem S_X11_wordHere_99_68 {l : Launch} (hl : l.stackTraces = false) {k8 : PM → Int32 → Int32 → Option PR} (hk8 : ∀ {M : PM} {x1 : Int32} {x2 : Int32} {r : PR}, k8 M x1 x2 = some r → PW l 2 Y_X11_wordHere k_X11_wordHere_8 [vR 99, vI x1, vI x2] [] M r) {M : PM} {x2 : Int32} {t0 : Int32} {r : PR} (h : F_X11_wordHere_99_68 k8 M x2 t0 = some r) : PW l 2 Y_X11_wordHere k_X11_wordHere_68 [vR 99, jk, vI x2] [vI t0] M r := by
  unfold F_X11_wordHere_99_68 at h
  refine p_istore_n (Nat.le_of_ble_eq_true rfl) rfl ?_
  have h := lt_h h
  refine p_iinc (Nat.le_of_ble_eq_true rfl) rfl (ci_1 _) rfl ?_
  refine p_goto 6 rfl rfl ?_
  exact p_fg (hk8 h) ⟨Or.inr rfl, Or.inr rfl, Or.inr rfl, trivial⟩
set_option maxRecDepth 100000 in
theorem S_X11_wordHere_99_8 {l : Launch} (hl : l.stackTraces = false) : ∀ (n : Nat) {M : PM} {x1 : Int32} {x2 : Int32} {r : PR}, F_X11_wordHere_99_8  n M x1 x2 = some r → PW l 2 Y_X11_wordHere k_X11_wordHere_8 [vR 99, vI x1, vI x2] [] M r := by
  intro n
  induction n with
  | zero => intro M x1 x2 r h; exact nomatch (show (none : Option PR) = some r from h)
  | succ n ih =>
    intro M x1 x2 r h
    rw [F_X11_wordHere_99_8] at h
    refine p_aload_n rfl ?_
    refine p_aload_n rfl ?_
    refine p_getI fk_X11_116 gt_99 rfl ?_
    refine p_iload_n rfl ?_
    refine p_iadd ?_
    refine p_cI (av := [_, _]) ⟨mok_X11_byteAt, Or.inl ⟨119, 99, 11, 0, _, rfl, rfl, rfl, gt_99, rfl, ins_X11_byteAt, Or.inl lk_X11_119⟩⟩ (Nat.le_of_ble_eq_true rfl) (Nat.le_of_ble_eq_true rfl) rfl (fun _ h => pc_X11_byteAt_99 hl h) h (fun v991 M990 h => ?_)
    refine p_bipush cb_97 ?_
    refine p_icmp_lt h 44 rfl rfl (fun _ h => ?_) (fun _ h => ?_)
    · exact p_fg (S_X11_wordHere_99_75 hl h) ⟨Or.inl rfl, Or.inr rfl, Or.inr rfl, trivial⟩
    · refine p_aload_n rfl ?_
      refine p_aload_n rfl ?_
      refine p_getI fk_X11_116 gt_99 rfl ?_
      refine p_iload_n rfl ?_
      refine p_iadd ?_
      refine p_cI (av := [_, _]) ⟨mok_X11_byteAt, Or.inl ⟨119, 99, 11, 0, _, rfl, rfl, rfl, gt_99, rfl, ins_X11_byteAt, Or.inl lk_X11_119⟩⟩ (Nat.le_of_ble_eq_true rfl) (Nat.le_of_ble_eq_true rfl) rfl (fun _ h => pc_X11_byteAt_99 hl h) h (fun v993 M992 h => ?_)
      refine p_bipush cb_122 ?_
      refine p_icmp_gt h 44 rfl rfl (fun _ h => ?_) (fun _ h => ?_)
      · exact p_fg (S_X11_wordHere_99_75 hl h) ⟨Or.inl rfl, Or.inr rfl, Or.inr rfl, trivial⟩
      · refine p_iload_n rfl ?_
        refine p_bipush cb_6 ?_
        refine p_icmp_ge h 40 rfl rfl (fun _ h => ?_) (fun _ h => ?_)
        · refine p_iload_n rfl ?_
          exact p_fg (S_X11_wordHere_99_68 hl (fun h => ih h) h) ⟨Or.inr rfl, Or.inl rfl, Or.inr rfl, trivial⟩
        · refine p_bipush cb_27 ?_
          refine p_iload_n rfl ?_
          refine p_imul ?_
          refine p_aload_n rfl ?_
          refine p_aload_n rfl ?_
          refine p_getI fk_X11_116 gt_99 rfl ?_
          refine p_iload_n rfl ?_
          refine p_iadd ?_
          refine p_cI (av := [_, _]) ⟨mok_X11_byteAt, Or.inl ⟨119, 99, 11, 0, _, rfl, rfl, rfl, gt_99, rfl, ins_X11_byteAt, Or.inl lk_X11_119⟩⟩ (Nat.le_of_ble_eq_true rfl) (Nat.le_of_ble_eq_true rfl) rfl (fun _ h => pc_X11_byteAt_99 hl h) h (fun v995 M994 h => ?_)
          refine p_iadd ?_
          refine p_bipush cb_97 ?_
          refine p_isub ?_
          refine p_iconst cn_1 ?_
          refine p_iadd ?_
          refine p_goto 41 rfl rfl ?_
          exact p_fg (S_X11_wordHere_99_68 hl (fun h => ih h) h) ⟨Or.inr rfl, Or.inl rfl, Or.inr rfl, trivial⟩
set_option maxRecDepth 100000 in
theorem S_X11_wordHere_99 {l : Launch} (hl : l.stackTraces = false) {M : PM}  {r : PR} (h : F_X11_wordHere_99 M  = some r) : PW l 2 Y_X11_wordHere k_X11_wordHere [vR 99, jk, jk] [] M r := by
  unfold F_X11_wordHere_99 at h
  refine p_aload_n rfl ?_
  refine p_cV (av := [_]) ⟨mok_X11_blanks, Or.inl ⟨129, 99, 11, 0, _, rfl, rfl, rfl, gt_99, rfl, ins_X11_blanks, Or.inl lk_X11_129⟩⟩ (Nat.le_of_ble_eq_true rfl) (Nat.le_of_ble_eq_true rfl) rfl (fun _ h => pc_X11_blanks_99 hl h) h (fun M996 h => ?_)
  refine p_iconst cn_0 ?_
  refine p_istore_n (Nat.le_of_ble_eq_true rfl) rfl ?_
  refine p_iconst cn_0 ?_
  refine p_istore_n (Nat.le_of_ble_eq_true rfl) rfl ?_
  exact p_fg (S_X11_wordHere_99_8 hl FUEL h) ⟨Or.inr rfl, Or.inr rfl, Or.inr rfl, trivial⟩
set_option maxRecDepth 100000 in
theorem pc_X11_wordHere_99 {l : Launch} (hl : l.stackTraces = false) {M : PM}  {r : PR} (h : F_X11_wordHere_99 M  = some r) : PC l 2 Y_X11_wordHere [vR 99] M r := pc_of hl (by decide +kernel) cok_X11_wordHere (Nat.le_of_ble_eq_true rfl) rfl (S_X11_wordHere_99 hl  h) rfl
def F_X11_five_42 (M : PM) (x4 : Int32) (t0 : Int32) : Option PR := (if x4 = 0 then some (.inl (some (.int t0)), M) else some (.inl (some (.int ((27 * t0) + x4))), M))
def F_X11_five_24 (M : PM) (x3 : Int32) (x4 : Int32) (t0 : Int32) : Option PR := (if x3 = 0 then F_X11_five_42 M x4 t0 else F_X11_five_42 M x4 ((27 * t0) + x3))
def F_X11_five (M : PM) (a0 : Int32) (a1 : Int32) (a2 : Int32) (a3 : Int32) (a4 : Int32) : Option PR := lt ((27 * a0) + a1) fun y997 => (if a2 = 0 then F_X11_five_24 M a3 a4 y997 else F_X11_five_24 M a3 a4 ((27 * y997) + a2))
set_option maxRecDepth 100000 in
theorem S_X11_five_42 {l : Launch} (hl : l.stackTraces = false) {M : PM} {x4 : Int32} {t0 : Int32} {r : PR} (h : F_X11_five_42  M x4 t0 = some r) : PW l 0 Y_X11_five k_X11_five_42 [jk, jk, jk, jk, vI x4, jk] [vI t0] M r := by
  unfold F_X11_five_42 at h
  refine p_istore (Nat.le_of_ble_eq_true rfl) rfl ?_
  refine p_iload rfl ?_
  refine p_if_ne h 30 rfl rfl (fun _ h => ?_) (fun _ h => ?_)
  · refine p_iload rfl ?_
    refine p_goto 35 rfl rfl ?_
    exact p_iret rfl h
  · refine p_bipush cb_27 ?_
    refine p_iload rfl ?_
    refine p_imul ?_
    refine p_iload rfl ?_
    refine p_iadd ?_
    exact p_iret rfl h
set_option maxRecDepth 100000 in
theorem S_X11_five_24 {l : Launch} (hl : l.stackTraces = false) {M : PM} {x3 : Int32} {x4 : Int32} {t0 : Int32} {r : PR} (h : F_X11_five_24  M x3 x4 t0 = some r) : PW l 0 Y_X11_five k_X11_five_24 [jk, jk, jk, vI x3, vI x4, jk] [vI t0] M r := by
  unfold F_X11_five_24 at h
  refine p_istore (Nat.le_of_ble_eq_true rfl) rfl ?_
  refine p_iload_n rfl ?_
  refine p_if_ne h 20 rfl rfl (fun _ h => ?_) (fun _ h => ?_)
  · refine p_iload rfl ?_
    refine p_goto 25 rfl rfl ?_
    exact p_fg (S_X11_five_42 hl h) ⟨Or.inl rfl, Or.inl rfl, Or.inl rfl, Or.inl rfl, Or.inr rfl, Or.inl rfl, trivial⟩
  · refine p_bipush cb_27 ?_
    refine p_iload rfl ?_
    refine p_imul ?_
    refine p_iload_n rfl ?_
    refine p_iadd ?_
    exact p_fg (S_X11_five_42 hl h) ⟨Or.inl rfl, Or.inl rfl, Or.inl rfl, Or.inl rfl, Or.inr rfl, Or.inl rfl, trivial⟩
set_option maxRecDepth 100000 in
theorem S_X11_five {l : Launch} (hl : l.stackTraces = false) {M : PM} {a0 : Int32} {a1 : Int32} {a2 : Int32} {a3 : Int32} {a4 : Int32} {r : PR} (h : F_X11_five M a0 a1 a2 a3 a4 = some r) : PW l 0 Y_X11_five k_X11_five [vI a0, vI a1, vI a2, vI a3, vI a4, jk] [] M r := by
  unfold F_X11_five at h
  refine p_bipush cb_27 ?_
  refine p_iload_n rfl ?_
  refine p_imul ?_
  refine p_iload_n rfl ?_
  refine p_iadd ?_
  have h := lt_h h
  refine p_istore (Nat.le_of_ble_eq_true rfl) rfl ?_
  refine p_iload_n rfl ?_
  refine p_if_ne h 10 rfl rfl (fun _ h => ?_) (fun _ h => ?_)
  · refine p_iload rfl ?_
    refine p_goto 15 rfl rfl ?_
    exact p_fg (S_X11_five_24 hl h) ⟨Or.inl rfl, Or.inl rfl, Or.inl rfl, Or.inr rfl, Or.inr rfl, Or.inl rfl, trivial⟩
  · refine p_bipush cb_27 ?_
    refine p_iload rfl ?_
    refine p_imul ?_
    refine p_iload_n rfl ?_
    refine p_iadd ?_
    exact p_fg (S_X11_five_24 hl h) ⟨Or.inl rfl, Or.inl rfl, Or.inl rfl, Or.inr rfl, Or.inr rfl, Or.inl rfl, trivial⟩
set_option maxRecDepth 100000 in
theorem pc_X11_five {l : Launch} (hl : l.stackTraces = false) {M : PM} {a0 : Int32} {a1 : Int32} {a2 : Int32} {a3 : Int32} {a4 : Int32} {r : PR} (h : F_X11_five M a0 a1 a2 a3 a4 = some r) : PC l 0 Y_X11_five [vI a0, vI a1, vI a2, vI a3, vI a4] M r := pc_of hl (by decide +kernel) cok_X11_five (Nat.le_of_ble_eq_true rfl) rfl (S_X11_five hl  h) rfl
def F_X11_isWord_99 (M : PM) (a1 : Int32) (a2 : Int32) (a3 : Int32) (a4 : Int32) (a5 : Int32) : Option PR := (if mI M 99 5 = 0 then cI (F_X11_wordHere_99 M) fun v999 M998 => cI (F_X11_five M998 a1 a2 a3 a4 a5) fun v1001 M1000 => (if v999 = v1001 then (if (1 : Int32) &&& 1 = 1 then some (.inl (some (.int 1)), M1000) else none) else (if (0 : Int32) &&& 1 = 0 then some (.inl (some (.int 0)), M1000) else none)) else (if (0 : Int32) &&& 1 = 0 then some (.inl (some (.int 0)), M) else none))
set_option maxRecDepth 100000 in
theorem S_X11_isWord_99 {l : Launch} (hl : l.stackTraces = false) {M : PM} {a1 : Int32} {a2 : Int32} {a3 : Int32} {a4 : Int32} {a5 : Int32} {r : PR} (h : F_X11_isWord_99 M a1 a2 a3 a4 a5 = some r) : PW l 3 Y_X11_isWord k_X11_isWord [vR 99, vI a1, vI a2, vI a3, vI a4, vI a5] [] M r := by
  unfold F_X11_isWord_99 at h
  refine p_aload_n rfl ?_
  refine p_getI fk_X11_123 gt_99 rfl ?_
  refine p_if_ne h 14 rfl rfl (fun _ h => ?_) (fun _ h => ?_)
  · refine p_aload_n rfl ?_
    refine p_cI (av := [_]) ⟨mok_X11_wordHere, Or.inl ⟨145, 99, 11, 0, _, rfl, rfl, rfl, gt_99, rfl, ins_X11_wordHere, Or.inl lk_X11_145⟩⟩ (Nat.le_of_ble_eq_true rfl) (Nat.le_of_ble_eq_true rfl) rfl (fun _ h => pc_X11_wordHere_99 hl h) h (fun v999 M998 h => ?_)
    refine p_iload_n rfl ?_
    refine p_iload_n rfl ?_
    refine p_iload_n rfl ?_
    refine p_iload rfl ?_
    refine p_iload rfl ?_
    refine p_cI (av := [_, _, _, _, _]) ⟨mok_X11_five, Or.inr ⟨149, rfl, rfl, sta_X11_five, Or.inl lk_X11_149⟩⟩ (Nat.le_of_ble_eq_true rfl) (Nat.le_of_ble_eq_true rfl) rfl (fun _ h => pc_X11_five hl h) h (fun v1001 M1000 h => ?_)
    refine p_icmp_ne h 14 rfl rfl (fun _ h => ?_) (fun _ h => ?_)
    · refine p_iconst cn_1 ?_
      refine p_goto 15 rfl rfl ?_
      exact p_zret rfl h
    · refine p_iconst cn_0 ?_
      exact p_zret rfl h
  · refine p_iconst cn_0 ?_
    exact p_zret rfl h
set_option maxRecDepth 100000 in
theorem pc_X11_isWord_99 {l : Launch} (hl : l.stackTraces = false) {M : PM} {a1 : Int32} {a2 : Int32} {a3 : Int32} {a4 : Int32} {a5 : Int32} {r : PR} (h : F_X11_isWord_99 M a1 a2 a3 a4 a5 = some r) : PC l 3 Y_X11_isWord [vR 99, vI a1, vI a2, vI a3, vI a4, vI a5] M r := pc_of hl (by decide +kernel) cok_X11_isWord (Nat.le_of_ble_eq_true rfl) rfl (S_X11_isWord_99 hl  h) rfl
def F_X11_skipWord_99_0 : Nat → PM → Option PR
  | 0, _ => none
  | n + 1, M => cI (F_X11_byteAt_99 M (mI M 99 4)) fun v1003 M1002 => (if v1003 < 97 then some (.inl none, M1002) else cI (F_X11_byteAt_99 M1002 (mI M1002 99 4)) fun v1005 M1004 => (if 122 < v1005 then some (.inl none, M1004) else F_X11_skipWord_99_0 n (sI M1004 99 4 ((mI M1004 99 4) + 1))))
def F_X11_skipWord_99 (M : PM)  : Option PR := F_X11_skipWord_99_0 FUEL M
set_option maxRecDepth 100000 in
theorem S_X11_skipWord_99_0 {l : Launch} (hl : l.stackTraces = false) : ∀ (n : Nat) {M : PM}  {r : PR}, F_X11_skipWord_99_0  n M  = some r → PW l 1 Y_X11_skipWord k_X11_skipWord [vR 99] [] M r := by
  intro n
  induction n with
  | zero => intro M  r h; exact nomatch (show (none : Option PR) = some r from h)
  | succ n ih =>
    intro M  r h
    rw [F_X11_skipWord_99_0] at h
    refine p_aload_n rfl ?_
    refine p_aload_n rfl ?_
    refine p_getI fk_X11_116 gt_99 rfl ?_
    refine p_cI (av := [_, _]) ⟨mok_X11_byteAt, Or.inl ⟨119, 99, 11, 0, _, rfl, rfl, rfl, gt_99, rfl, ins_X11_byteAt, Or.inl lk_X11_119⟩⟩ (Nat.le_of_ble_eq_true rfl) (Nat.le_of_ble_eq_true rfl) rfl (fun _ h => pc_X11_byteAt_99 hl h) h (fun v1003 M1002 h => ?_)
    refine p_bipush cb_97 ?_
    refine p_icmp_lt h 19 rfl rfl (fun _ h => ?_) (fun _ h => ?_)
    · exact p_ret rfl h
    · refine p_aload_n rfl ?_
      refine p_aload_n rfl ?_
      refine p_getI fk_X11_116 gt_99 rfl ?_
      refine p_cI (av := [_, _]) ⟨mok_X11_byteAt, Or.inl ⟨119, 99, 11, 0, _, rfl, rfl, rfl, gt_99, rfl, ins_X11_byteAt, Or.inl lk_X11_119⟩⟩ (Nat.le_of_ble_eq_true rfl) (Nat.le_of_ble_eq_true rfl) rfl (fun _ h => pc_X11_byteAt_99 hl h) h (fun v1005 M1004 h => ?_)
      refine p_bipush cb_122 ?_
      refine p_icmp_gt h 19 rfl rfl (fun _ h => ?_) (fun _ h => ?_)
      · exact p_ret rfl h
      · refine p_aload_n rfl ?_
        refine p_dup rfl ?_
        refine p_getI fk_X11_116 gt_99 rfl ?_
        refine p_iconst cn_1 ?_
        refine p_iadd ?_
        refine p_putI fk_X11_116 gt_99 rfl ?_
        refine p_goto 0 rfl rfl ?_
        exact p_fg (ih h) ⟨Or.inr rfl, trivial⟩
set_option maxRecDepth 100000 in
theorem S_X11_skipWord_99 {l : Launch} (hl : l.stackTraces = false) {M : PM}  {r : PR} (h : F_X11_skipWord_99 M  = some r) : PW l 1 Y_X11_skipWord k_X11_skipWord [vR 99] [] M r := by
  unfold F_X11_skipWord_99 at h
  exact p_fg (S_X11_skipWord_99_0 hl FUEL h) ⟨Or.inr rfl, trivial⟩
set_option maxRecDepth 100000 in
theorem pc_X11_skipWord_99 {l : Launch} (hl : l.stackTraces = false) {M : PM}  {r : PR} (h : F_X11_skipWord_99 M  = some r) : PC l 1 Y_X11_skipWord [vR 99] M r := pc_of hl (by decide +kernel) cok_X11_skipWord (Nat.le_of_ble_eq_true rfl) rfl (S_X11_skipWord_99 hl  h) rfl
def F_X11_isDigit (M : PM) (a0 : Int32) : Option PR := (if a0 < 48 then (if (0 : Int32) &&& 1 = 0 then some (.inl (some (.int 0)), M) else none) else (if 57 < a0 then (if (0 : Int32) &&& 1 = 0 then some (.inl (some (.int 0)), M) else none) else (if (1 : Int32) &&& 1 = 1 then some (.inl (some (.int 1)), M) else none)))
set_option maxRecDepth 100000 in
theorem S_X11_isDigit {l : Launch} (hl : l.stackTraces = false) {M : PM} {a0 : Int32} {r : PR} (h : F_X11_isDigit M a0 = some r) : PW l 0 Y_X11_isDigit k_X11_isDigit [vI a0] [] M r := by
  unfold F_X11_isDigit at h
  refine p_iload_n rfl ?_
  refine p_bipush cb_48 ?_
  refine p_icmp_lt h 8 rfl rfl (fun _ h => ?_) (fun _ h => ?_)
  · refine p_iconst cn_0 ?_
    exact p_zret rfl h
  · refine p_iload_n rfl ?_
    refine p_bipush cb_57 ?_
    refine p_icmp_gt h 8 rfl rfl (fun _ h => ?_) (fun _ h => ?_)
    · refine p_iconst cn_0 ?_
      exact p_zret rfl h
    · refine p_iconst cn_1 ?_
      refine p_goto 9 rfl rfl ?_
      exact p_zret rfl h
set_option maxRecDepth 100000 in
theorem pc_X11_isDigit {l : Launch} (hl : l.stackTraces = false) {M : PM} {a0 : Int32} {r : PR} (h : F_X11_isDigit M a0 = some r) : PC l 0 Y_X11_isDigit [vI a0] M r := pc_of hl (by decide +kernel) cok_X11_isDigit (Nat.le_of_ble_eq_true rfl) rfl (S_X11_isDigit hl  h) rfl
def F_X11_number_99_122 (M : PM) (x4 : Int32) : Option PR := (if mI M 99 5 = 0 then some (.inl (some (.int x4)), M) else some (.inl (some (.int 0)), M))
def F_X11_number_99_91 (k44 : PM → Int32 → Int32 → Int32 → Int32 → Option PR) (M : PM) (x1 : Int32) (x2 : Int32) (x3 : Int32) (t0 : Int32) : Option PR := k44 (sI M 99 4 ((mI M 99 4) + 1)) x1 x2 x3 t0
def F_X11_number_99_44 : Nat → PM → Int32 → Int32 → Int32 → Int32 → Option PR
  | 0, _, _, _, _, _ => none
  | n + 1, M, x1, x2, x3, x4 => cI (F_X11_byteAt_99 M (mI M 99 4)) fun v1007 M1006 => cI (F_X11_isDigit M1006 v1007) fun v1009 M1008 => (if v1009 = 0 then cI (F_X11_in M1008 x4 x1 x2) fun v1011 M1010 => (if v1011 = 0 then cV (F_X11_wrong_99 M1010 2 x3) fun M1012 => F_X11_number_99_122 M1012 x4 else F_X11_number_99_122 M1010 x4) else cI (F_X11_byteAt_99 M1008 (mI M1008 99 4)) fun v1014 M1013 => lt (((10 * x4) + v1014) - 48) fun y1015 => (if y1015 ≤ 1000000 then F_X11_number_99_91 (F_X11_number_99_44 n) M1013 x1 x2 x3 y1015 else F_X11_number_99_91 (F_X11_number_99_44 n) M1013 x1 x2 x3 1000000))
def F_X11_number_99 (M : PM) (a1 : Int32) (a2 : Int32) : Option PR := (if mI M 99 5 = 0 then cV (F_X11_blanks_99 M) fun M1016 => lt (mI M1016 99 4) fun y1017 => cI (F_X11_byteAt_99 M1016 (mI M1016 99 4)) fun v1019 M1018 => cI (F_X11_isDigit M1018 v1019) fun v1021 M1020 => (if v1021 = 0 then cV (F_X11_wrong_99 M1020 1 (mI M1020 99 4)) fun M1022 => F_X11_number_99_44 FUEL M1022 a1 a2 y1017 0 else F_X11_number_99_44 FUEL M1020 a1 a2 y1017 0) else some (.inl (some (.int 0)), M))
set_option maxRecDepth 100000 in
theorem S_X11_number_99_122 {l : Launch} (hl : l.stackTraces = false) {M : PM} {x4 : Int32} {r : PR} (h : F_X11_number_99_122  M x4 = some r) : PW l 2 Y_X11_number k_X11_number_122 [vR 99, jk, jk, jk, vI x4] [] M r := by
  unfold F_X11_number_99_122 at h
  refine p_aload_n rfl ?_
  refine p_getI fk_X11_123 gt_99 rfl ?_
  refine p_if_ne h 68 rfl rfl (fun _ h => ?_) (fun _ h => ?_)
  · refine p_iload rfl ?_
    refine p_goto 69 rfl rfl ?_
    exact p_iret rfl h
  · refine p_iconst cn_0 ?_
    exact p_iret rfl h
set_option maxRecDepth 100000 in
theorem S_X11_number_99_91 {l : Launch} (hl : l.stackTraces = false) {k44 : PM → Int32 → Int32 → Int32 → Int32 → Option PR} (hk44 : ∀ {M : PM} {x1 : Int32} {x2 : Int32} {x3 : Int32} {x4 : Int32} {r : PR}, k44 M x1 x2 x3 x4 = some r → PW l 2 Y_X11_number k_X11_number_44 [vR 99, vI x1, vI x2, vI x3, vI x4] [] M r) {M : PM} {x1 : Int32} {x2 : Int32} {x3 : Int32} {t0 : Int32} {r : PR} (h : F_X11_number_99_91 k44 M x1 x2 x3 t0 = some r) : PW l 2 Y_X11_number k_X11_number_91 [vR 99, vI x1, vI x2, vI x3, jk] [vI t0] M r := by
  unfold F_X11_number_99_91 at h
  refine p_istore (Nat.le_of_ble_eq_true rfl) rfl ?_
  refine p_aload_n rfl ?_
  refine p_dup rfl ?_
  refine p_getI fk_X11_116 gt_99 rfl ?_
  refine p_iconst cn_1 ?_
  refine p_iadd ?_
  refine p_putI fk_X11_116 gt_99 rfl ?_
  refine p_goto 23 rfl rfl ?_
  exact p_fg (hk44 h) ⟨Or.inr rfl, Or.inr rfl, Or.inr rfl, Or.inr rfl, Or.inr rfl, trivial⟩
set_option maxRecDepth 100000 in
theorem S_X11_number_99_44 {l : Launch} (hl : l.stackTraces = false) : ∀ (n : Nat) {M : PM} {x1 : Int32} {x2 : Int32} {x3 : Int32} {x4 : Int32} {r : PR}, F_X11_number_99_44  n M x1 x2 x3 x4 = some r → PW l 2 Y_X11_number k_X11_number_44 [vR 99, vI x1, vI x2, vI x3, vI x4] [] M r := by
  intro n
  induction n with
  | zero => intro M x1 x2 x3 x4 r h; exact nomatch (show (none : Option PR) = some r from h)
  | succ n ih =>
    intro M x1 x2 x3 x4 r h
    rw [F_X11_number_99_44] at h
    refine p_aload_n rfl ?_
    refine p_aload_n rfl ?_
    refine p_getI fk_X11_116 gt_99 rfl ?_
    refine p_cI (av := [_, _]) ⟨mok_X11_byteAt, Or.inl ⟨119, 99, 11, 0, _, rfl, rfl, rfl, gt_99, rfl, ins_X11_byteAt, Or.inl lk_X11_119⟩⟩ (Nat.le_of_ble_eq_true rfl) (Nat.le_of_ble_eq_true rfl) rfl (fun _ h => pc_X11_byteAt_99 hl h) h (fun v1007 M1006 h => ?_)
    refine p_cI (av := [_]) ⟨mok_X11_isDigit, Or.inr ⟨132, rfl, rfl, sta_X11_isDigit, Or.inl lk_X11_132⟩⟩ (Nat.le_of_ble_eq_true rfl) (Nat.le_of_ble_eq_true rfl) rfl (fun _ h => pc_X11_isDigit hl h) h (fun v1009 M1008 h => ?_)
    refine p_if_eq h 54 rfl rfl (fun _ h => ?_) (fun _ h => ?_)
    · refine p_iload rfl ?_
      refine p_iload_n rfl ?_
      refine p_iload_n rfl ?_
      refine p_cI (av := [_, _, _]) ⟨mok_X11_in, Or.inr ⟨141, rfl, rfl, sta_X11_in, Or.inl lk_X11_141⟩⟩ (Nat.le_of_ble_eq_true rfl) (Nat.le_of_ble_eq_true rfl) rfl (fun _ h => pc_X11_in hl h) h (fun v1011 M1010 h => ?_)
      refine p_if_ne h 63 rfl rfl (fun _ h => ?_) (fun _ h => ?_)
      · refine p_aload_n rfl ?_
        refine p_iconst cn_2 ?_
        refine p_iload_n rfl ?_
        refine p_cV (av := [_, _, _]) ⟨mok_X11_wrong, Or.inl ⟨136, 99, 11, 0, _, rfl, rfl, rfl, gt_99, rfl, ins_X11_wrong, Or.inl lk_X11_136⟩⟩ (Nat.le_of_ble_eq_true rfl) (Nat.le_of_ble_eq_true rfl) rfl (fun _ h => pc_X11_wrong_99 hl h) h (fun M1012 h => ?_)
        exact p_fg (S_X11_number_99_122 hl h) ⟨Or.inr rfl, Or.inl rfl, Or.inl rfl, Or.inl rfl, Or.inr rfl, trivial⟩
      · exact p_fg (S_X11_number_99_122 hl h) ⟨Or.inr rfl, Or.inl rfl, Or.inl rfl, Or.inl rfl, Or.inr rfl, trivial⟩
    · refine p_bipush cb_10 ?_
      refine p_iload rfl ?_
      refine p_imul ?_
      refine p_aload_n rfl ?_
      refine p_aload_n rfl ?_
      refine p_getI fk_X11_116 gt_99 rfl ?_
      refine p_cI (av := [_, _]) ⟨mok_X11_byteAt, Or.inl ⟨119, 99, 11, 0, _, rfl, rfl, rfl, gt_99, rfl, ins_X11_byteAt, Or.inl lk_X11_119⟩⟩ (Nat.le_of_ble_eq_true rfl) (Nat.le_of_ble_eq_true rfl) rfl (fun _ h => pc_X11_byteAt_99 hl h) h (fun v1014 M1013 h => ?_)
      refine p_iadd ?_
      refine p_bipush cb_48 ?_
      refine p_isub ?_
      have h := lt_h h
      refine p_istore (Nat.le_of_ble_eq_true rfl) rfl ?_
      refine p_iload rfl ?_
      refine p_ldc co_X11_140 ?_
      refine p_icmp_le h 45 rfl rfl (fun _ h => ?_) (fun _ h => ?_)
      · refine p_iload rfl ?_
        exact p_fg (S_X11_number_99_91 hl (fun h => ih h) h) ⟨Or.inr rfl, Or.inr rfl, Or.inr rfl, Or.inr rfl, Or.inl rfl, trivial⟩
      · refine p_ldc co_X11_140 ?_
        refine p_goto 46 rfl rfl ?_
        exact p_fg (S_X11_number_99_91 hl (fun h => ih h) h) ⟨Or.inr rfl, Or.inr rfl, Or.inr rfl, Or.inr rfl, Or.inl rfl, trivial⟩
set_option maxRecDepth 100000 in
theorem S_X11_number_99 {l : Launch} (hl : l.stackTraces = false) {M : PM} {a1 : Int32} {a2 : Int32} {r : PR} (h : F_X11_number_99 M a1 a2 = some r) : PW l 2 Y_X11_number k_X11_number [vR 99, vI a1, vI a2, jk, jk] [] M r := by
  unfold F_X11_number_99 at h
  refine p_aload_n rfl ?_
  refine p_getI fk_X11_123 gt_99 rfl ?_
  refine p_if_eq h 5 rfl rfl (fun _ h => ?_) (fun _ h => ?_)
  · refine p_aload_n rfl ?_
    refine p_cV (av := [_]) ⟨mok_X11_blanks, Or.inl ⟨129, 99, 11, 0, _, rfl, rfl, rfl, gt_99, rfl, ins_X11_blanks, Or.inl lk_X11_129⟩⟩ (Nat.le_of_ble_eq_true rfl) (Nat.le_of_ble_eq_true rfl) rfl (fun _ h => pc_X11_blanks_99 hl h) h (fun M1016 h => ?_)
    refine p_aload_n rfl ?_
    refine p_getI fk_X11_116 gt_99 rfl ?_
    have h := lt_h h
    refine p_istore_n (Nat.le_of_ble_eq_true rfl) rfl ?_
    refine p_iconst cn_0 ?_
    refine p_istore (Nat.le_of_ble_eq_true rfl) rfl ?_
    refine p_aload_n rfl ?_
    refine p_aload_n rfl ?_
    refine p_getI fk_X11_116 gt_99 rfl ?_
    refine p_cI (av := [_, _]) ⟨mok_X11_byteAt, Or.inl ⟨119, 99, 11, 0, _, rfl, rfl, rfl, gt_99, rfl, ins_X11_byteAt, Or.inl lk_X11_119⟩⟩ (Nat.le_of_ble_eq_true rfl) (Nat.le_of_ble_eq_true rfl) rfl (fun _ h => pc_X11_byteAt_99 hl h) h (fun v1019 M1018 h => ?_)
    refine p_cI (av := [_]) ⟨mok_X11_isDigit, Or.inr ⟨132, rfl, rfl, sta_X11_isDigit, Or.inl lk_X11_132⟩⟩ (Nat.le_of_ble_eq_true rfl) (Nat.le_of_ble_eq_true rfl) rfl (fun _ h => pc_X11_isDigit hl h) h (fun v1021 M1020 h => ?_)
    refine p_if_ne h 23 rfl rfl (fun _ h => ?_) (fun _ h => ?_)
    · refine p_aload_n rfl ?_
      refine p_iconst cn_1 ?_
      refine p_aload_n rfl ?_
      refine p_getI fk_X11_116 gt_99 rfl ?_
      refine p_cV (av := [_, _, _]) ⟨mok_X11_wrong, Or.inl ⟨136, 99, 11, 0, _, rfl, rfl, rfl, gt_99, rfl, ins_X11_wrong, Or.inl lk_X11_136⟩⟩ (Nat.le_of_ble_eq_true rfl) (Nat.le_of_ble_eq_true rfl) rfl (fun _ h => pc_X11_wrong_99 hl h) h (fun M1022 h => ?_)
      exact p_fg (S_X11_number_99_44 hl FUEL h) ⟨Or.inr rfl, Or.inr rfl, Or.inr rfl, Or.inr rfl, Or.inr rfl, trivial⟩
    · exact p_fg (S_X11_number_99_44 hl FUEL h) ⟨Or.inr rfl, Or.inr rfl, Or.inr rfl, Or.inr rfl, Or.inr rfl, trivial⟩
  · refine p_iconst cn_0 ?_
    exact p_iret rfl h
set_option maxRecDepth 100000 in
theorem pc_X11_number_99 {l : Launch} (hl : l.stackTraces = false) {M : PM} {a1 : Int32} {a2 : Int32} {r : PR} (h : F_X11_number_99 M a1 a2 = some r) : PC l 2 Y_X11_number [vR 99, vI a1, vI a2] M r := pc_of hl (by decide +kernel) cok_X11_number (Nat.le_of_ble_eq_true rfl) rfl (S_X11_number_99 hl  h) rfl
def F_X11_sign_99 (M : PM) (a1 : Int32) : Option PR := (if mI M 99 5 = 0 then cV (F_X11_blanks_99 M) fun M1023 => cI (F_X11_byteAt_99 M1023 (mI M1023 99 4)) fun v1025 M1024 => (if v1025 = a1 then some (.inl none, sI M1024 99 4 ((mI M1024 99 4) + 1)) else cV (F_X11_wrong_99 M1024 1 (mI M1024 99 4)) fun M1026 => some (.inl none, M1026)) else some (.inl none, M))
set_option maxRecDepth 100000 in
theorem S_X11_sign_99 {l : Launch} (hl : l.stackTraces = false) {M : PM} {a1 : Int32} {r : PR} (h : F_X11_sign_99 M a1 = some r) : PW l 2 Y_X11_sign k_X11_sign [vR 99, vI a1] [] M r := by
  unfold F_X11_sign_99 at h
  refine p_aload_n rfl ?_
  refine p_getI fk_X11_123 gt_99 rfl ?_
  refine p_if_eq h 4 rfl rfl (fun _ h => ?_) (fun _ h => ?_)
  · refine p_aload_n rfl ?_
    refine p_cV (av := [_]) ⟨mok_X11_blanks, Or.inl ⟨129, 99, 11, 0, _, rfl, rfl, rfl, gt_99, rfl, ins_X11_blanks, Or.inl lk_X11_129⟩⟩ (Nat.le_of_ble_eq_true rfl) (Nat.le_of_ble_eq_true rfl) rfl (fun _ h => pc_X11_blanks_99 hl h) h (fun M1023 h => ?_)
    refine p_aload_n rfl ?_
    refine p_aload_n rfl ?_
    refine p_getI fk_X11_116 gt_99 rfl ?_
    refine p_cI (av := [_, _]) ⟨mok_X11_byteAt, Or.inl ⟨119, 99, 11, 0, _, rfl, rfl, rfl, gt_99, rfl, ins_X11_byteAt, Or.inl lk_X11_119⟩⟩ (Nat.le_of_ble_eq_true rfl) (Nat.le_of_ble_eq_true rfl) rfl (fun _ h => pc_X11_byteAt_99 hl h) h (fun v1025 M1024 h => ?_)
    refine p_iload_n rfl ?_
    refine p_icmp_ne h 19 rfl rfl (fun _ h => ?_) (fun _ h => ?_)
    · refine p_aload_n rfl ?_
      refine p_dup rfl ?_
      refine p_getI fk_X11_116 gt_99 rfl ?_
      refine p_iconst cn_1 ?_
      refine p_iadd ?_
      refine p_putI fk_X11_116 gt_99 rfl ?_
      refine p_goto 24 rfl rfl ?_
      exact p_ret rfl h
    · refine p_aload_n rfl ?_
      refine p_iconst cn_1 ?_
      refine p_aload_n rfl ?_
      refine p_getI fk_X11_116 gt_99 rfl ?_
      refine p_cV (av := [_, _, _]) ⟨mok_X11_wrong, Or.inl ⟨136, 99, 11, 0, _, rfl, rfl, rfl, gt_99, rfl, ins_X11_wrong, Or.inl lk_X11_136⟩⟩ (Nat.le_of_ble_eq_true rfl) (Nat.le_of_ble_eq_true rfl) rfl (fun _ h => pc_X11_wrong_99 hl h) h (fun M1026 h => ?_)
      exact p_ret rfl h
  · exact p_ret rfl h
set_option maxRecDepth 100000 in
theorem pc_X11_sign_99 {l : Launch} (hl : l.stackTraces = false) {M : PM} {a1 : Int32} {r : PR} (h : F_X11_sign_99 M a1 = some r) : PC l 2 Y_X11_sign [vR 99, vI a1] M r := pc_of hl (by decide +kernel) cok_X11_sign (Nat.le_of_ble_eq_true rfl) rfl (S_X11_sign_99 hl  h) rfl
def F_X11_stillHere_99_2 : Nat → PM → Int32 → Int32 → Option PR
  | 0, _, _, _ => none
  | n + 1, M, x1, x2 => if ixOK 3 6 = true then (if mA M 102 (3 : Int32).toNatClampNeg ≤ x2 then (if mI M 99 5 = 0 then if ixOK 3 6 = true then if ixOK (mA M 102 (3 : Int32).toNatClampNeg) 3 = true then if ixOK 3 6 = true then if ixOK 3 6 = true then lt (sA (sA M 104 (mA M 102 (3 : Int32).toNatClampNeg).toNatClampNeg x1) 102 (3 : Int32).toNatClampNeg ((mA (sA M 104 (mA M 102 (3 : Int32).toNatClampNeg).toNatClampNeg x1) 102 (3 : Int32).toNatClampNeg) + 1)) fun M1027 => some (.inl none, M1027) else none else none else none else none else some (.inl none, M)) else if ixOK x2 3 = true then (if mA M 104 x2.toNatClampNeg = x1 then some (.inl none, M) else lt (x2 + 1) fun y1028 => F_X11_stillHere_99_2 n M x1 y1028) else none) else none
def F_X11_stillHere_99 (M : PM) (a1 : Int32) : Option PR := F_X11_stillHere_99_2 FUEL M a1 0
set_option maxRecDepth 100000 in
theorem S_X11_stillHere_99_2 {l : Launch} (hl : l.stackTraces = false) : ∀ (n : Nat) {M : PM} {x1 : Int32} {x2 : Int32} {r : PR}, F_X11_stillHere_99_2  n M x1 x2 = some r → PW l 0 Y_X11_stillHere k_X11_stillHere_2 [vR 99, vI x1, vI x2] [] M r := by
  intro n
  induction n with
  | zero => intro M x1 x2 r h; exact nomatch (show (none : Option PR) = some r from h)
  | succ n ih =>
    intro M x1 x2 r h
    rw [F_X11_stillHere_99_2] at h
    refine p_iload_n rfl ?_
    refine p_aload_n rfl ?_
    refine p_getR fk_X11_20 gt_99 rfl rfl ?_
    refine p_iconst cn_3 ?_
    refine p_iald gt_102 h (fun h => ?_)
    refine p_icmp_ge h 17 rfl rfl (fun _ h => ?_) (fun _ h => ?_)
    · refine p_aload_n rfl ?_
      refine p_getI fk_X11_123 gt_99 rfl ?_
      refine p_if_eq h 21 rfl rfl (fun _ h => ?_) (fun _ h => ?_)
      · refine p_aload_n rfl ?_
        refine p_getR fk_X11_26 gt_99 rfl rfl ?_
        refine p_aload_n rfl ?_
        refine p_getR fk_X11_20 gt_99 rfl rfl ?_
        refine p_iconst cn_3 ?_
        refine p_iald gt_102 h (fun h => ?_)
        refine p_iload_n rfl ?_
        refine p_iast gt_104 h (fun h => ?_)
        refine p_aload_n rfl ?_
        refine p_getR fk_X11_20 gt_99 rfl rfl ?_
        refine p_iconst cn_3 ?_
        refine p_dup2 rfl rfl ?_
        refine p_iald gt_102 h (fun h => ?_)
        refine p_iconst cn_1 ?_
        refine p_iadd ?_
        refine p_iast gt_102 h (fun h => ?_)
        have h := lt_h h
        exact p_ret rfl h
      · exact p_ret rfl h
    · refine p_aload_n rfl ?_
      refine p_getR fk_X11_26 gt_99 rfl rfl ?_
      refine p_iload_n rfl ?_
      refine p_iald gt_104 h (fun h => ?_)
      refine p_iload_n rfl ?_
      refine p_icmp_ne h 15 rfl rfl (fun _ h => ?_) (fun _ h => ?_)
      · exact p_ret rfl h
      · have h := lt_h h
        refine p_iinc (Nat.le_of_ble_eq_true rfl) rfl (ci_1 _) rfl ?_
        refine p_goto 2 rfl rfl ?_
        exact p_fg (ih h) ⟨Or.inr rfl, Or.inr rfl, Or.inr rfl, trivial⟩
set_option maxRecDepth 100000 in
theorem S_X11_stillHere_99 {l : Launch} (hl : l.stackTraces = false) {M : PM} {a1 : Int32} {r : PR} (h : F_X11_stillHere_99 M a1 = some r) : PW l 0 Y_X11_stillHere k_X11_stillHere [vR 99, vI a1, jk] [] M r := by
  unfold F_X11_stillHere_99 at h
  refine p_iconst cn_0 ?_
  refine p_istore_n (Nat.le_of_ble_eq_true rfl) rfl ?_
  exact p_fg (S_X11_stillHere_99_2 hl FUEL h) ⟨Or.inr rfl, Or.inr rfl, Or.inr rfl, trivial⟩
set_option maxRecDepth 100000 in
theorem pc_X11_stillHere_99 {l : Launch} (hl : l.stackTraces = false) {M : PM} {a1 : Int32} {r : PR} (h : F_X11_stillHere_99 M a1 = some r) : PC l 0 Y_X11_stillHere [vR 99, vI a1] M r := pc_of hl (by decide +kernel) cok_X11_stillHere (Nat.le_of_ble_eq_true rfl) rfl (S_X11_stillHere_99 hl  h) rfl
def F_X11_clause_99_445 (M : PM) (x2 : Int32) (x3 : Int32) (t1 : Int32) (t2 : Int32) : Option PR := cI (F_X11_number_99 M t1 t2) fun v1030 M1029 => (if mI M1029 99 5 = 0 then if ixOK x2 10 = true then if x2.toNatClampNeg < 10 ∧ ixOK x3 12 = true then cV (F_X11_sign_99 (sG M1029 114 x2.toNatClampNeg x3.toNatClampNeg v1030) 59) fun M1032 => some (.inl none, M1032) else none else none else cV (F_X11_sign_99 M1029 59) fun M1031 => some (.inl none, M1031))
def F_X11_clause_99_338 : Nat → PM → Int32 → Option PR
  | 0, _, _ => none
  | n + 1, M, x2 => (if 12 ≤ x2 then if ixOK 2 6 = true then if ixOK 2 6 = true then cV (F_X11_sign_99 (sA M 102 (2 : Int32).toNatClampNeg ((mA M 102 (2 : Int32).toNatClampNeg) + 1)) 59) fun M1033 => some (.inl none, M1033) else none else none else if ixOK 2 6 = true then if ixOK (mA M 102 (2 : Int32).toNatClampNeg) 10 = true then if (mA M 102 (2 : Int32).toNatClampNeg).toNatClampNeg < 10 ∧ ixOK x2 12 = true then lt (x2 + 1) fun y1034 => F_X11_clause_99_338 n (sG M 114 ((mA M 102 (2 : Int32).toNatClampNeg).toNatClampNeg) x2.toNatClampNeg 0) y1034 else none else none else none)
def F_X11_clause_99_180 (M : PM) (x1 : Int32) : Option PR := (if mI M 99 5 = 0 then cV (F_X11_skipWord_99 M) fun M1035 => (if x1 = 0 then if ixOK 0 6 = true then cI (F_X11_number_99 (sI M1035 99 7 ((mI M1035 99 7) + 1)) 2 24) fun v1051 M1050 => if ixOK (mA (sI M1035 99 7 ((mI M1035 99 7) + 1)) 102 (0 : Int32).toNatClampNeg) 12 = true then if ixOK 0 6 = true then if ixOK 0 6 = true then if ixOK (mA (sA M1050 106 (mA (sI M1035 99 7 ((mI M1035 99 7) + 1)) 102 (0 : Int32).toNatClampNeg).toNatClampNeg v1051) 102 (0 : Int32).toNatClampNeg) 12 = true then cI (F_X11_number_99 (sA M1050 106 (mA (sI M1035 99 7 ((mI M1035 99 7) + 1)) 102 (0 : Int32).toNatClampNeg).toNatClampNeg v1051) 0 ((mA (sA M1050 106 (mA (sI M1035 99 7 ((mI M1035 99 7) + 1)) 102 (0 : Int32).toNatClampNeg).toNatClampNeg v1051) 106 (mA (sA M1050 106 (mA (sI M1035 99 7 ((mI M1035 99 7) + 1)) 102 (0 : Int32).toNatClampNeg).toNatClampNeg v1051) 102 (0 : Int32).toNatClampNeg).toNatClampNeg) - 1)) fun v1053 M1052 => if ixOK (mA (sA M1050 106 (mA (sI M1035 99 7 ((mI M1035 99 7) + 1)) 102 (0 : Int32).toNatClampNeg).toNatClampNeg v1051) 102 (0 : Int32).toNatClampNeg) 12 = true then lt (sA M1052 108 (mA (sA M1050 106 (mA (sI M1035 99 7 ((mI M1035 99 7) + 1)) 102 (0 : Int32).toNatClampNeg).toNatClampNeg v1051) 102 (0 : Int32).toNatClampNeg).toNatClampNeg v1053) fun M1054 => if ixOK 0 6 = true then if ixOK 0 6 = true then cV (F_X11_sign_99 (sA M1054 102 (0 : Int32).toNatClampNeg ((mA M1054 102 (0 : Int32).toNatClampNeg) + 1)) 59) fun M1055 => some (.inl none, M1055) else none else none else none else none else none else none else none else none else (if x1 = 1 then if ixOK 1 6 = true then cI (F_X11_number_99 (sI M1035 99 7 ((mI M1035 99 7) + 1)) 2 24) fun v1045 M1044 => if ixOK (mA (sI M1035 99 7 ((mI M1035 99 7) + 1)) 102 (1 : Int32).toNatClampNeg) 6 = true then if ixOK 1 6 = true then if ixOK 1 6 = true then if ixOK (mA (sA M1044 110 (mA (sI M1035 99 7 ((mI M1035 99 7) + 1)) 102 (1 : Int32).toNatClampNeg).toNatClampNeg v1045) 102 (1 : Int32).toNatClampNeg) 6 = true then cI (F_X11_number_99 (sA M1044 110 (mA (sI M1035 99 7 ((mI M1035 99 7) + 1)) 102 (1 : Int32).toNatClampNeg).toNatClampNeg v1045) 0 ((mA (sA M1044 110 (mA (sI M1035 99 7 ((mI M1035 99 7) + 1)) 102 (1 : Int32).toNatClampNeg).toNatClampNeg v1045) 110 (mA (sA M1044 110 (mA (sI M1035 99 7 ((mI M1035 99 7) + 1)) 102 (1 : Int32).toNatClampNeg).toNatClampNeg v1045) 102 (1 : Int32).toNatClampNeg).toNatClampNeg) - 1)) fun v1047 M1046 => if ixOK (mA (sA M1044 110 (mA (sI M1035 99 7 ((mI M1035 99 7) + 1)) 102 (1 : Int32).toNatClampNeg).toNatClampNeg v1045) 102 (1 : Int32).toNatClampNeg) 6 = true then lt (sA M1046 112 (mA (sA M1044 110 (mA (sI M1035 99 7 ((mI M1035 99 7) + 1)) 102 (1 : Int32).toNatClampNeg).toNatClampNeg v1045) 102 (1 : Int32).toNatClampNeg).toNatClampNeg v1047) fun M1048 => if ixOK 1 6 = true then if ixOK 1 6 = true then cV (F_X11_sign_99 (sA M1048 102 (1 : Int32).toNatClampNeg ((mA M1048 102 (1 : Int32).toNatClampNeg) + 1)) 59) fun M1049 => some (.inl none, M1049) else none else none else none else none else none else none else none else none else (if x1 = 2 then F_X11_clause_99_338 FUEL (sI M1035 99 7 ((mI M1035 99 7) + 1)) 0 else (if x1 = 3 then cI (F_X11_number_99 (sI M1035 99 7 ((mI M1035 99 7) + 1)) 0 99999) fun v1041 M1040 => cV (F_X11_stillHere_99 M1040 v1041) fun M1042 => cV (F_X11_sign_99 M1042 59) fun M1043 => some (.inl none, M1043) else if ixOK 2 6 = true then cI (F_X11_number_99 (sI M1035 99 7 ((mI M1035 99 7) + 1)) 0 ((mA (sI M1035 99 7 ((mI M1035 99 7) + 1)) 102 (2 : Int32).toNatClampNeg) - 1)) fun v1037 M1036 => if ixOK 0 6 = true then cI (F_X11_number_99 M1036 0 ((mA M1036 102 (0 : Int32).toNatClampNeg) - 1)) fun v1039 M1038 => (if mI M1038 99 5 = 0 then if ixOK v1039 12 = true then F_X11_clause_99_445 M1038 v1037 v1039 0 ((mA M1038 106 v1039.toNatClampNeg) - 1) else none else F_X11_clause_99_445 M1038 v1037 v1039 0 0) else none else none)))) else some (.inl none, M))
def F_X11_clause_99_171 (M : PM) (x1 : Int32) : Option PR := cV (F_X11_wrong_99 M 3 (mI M 99 4)) fun M1056 => F_X11_clause_99_180 M1056 x1
def F_X11_clause_99_168 (M : PM) (x1 : Int32) (t0 : Int32) (t1 : Int32) : Option PR := (if t0 = t1 then F_X11_clause_99_171 M x1 else F_X11_clause_99_180 M x1)
def F_X11_clause_99_100 (M : PM) (t0 : Int32) : Option PR := (if t0 = (-1) then cV (F_X11_wrong_99 M 1 (mI M 99 4)) fun M1057 => F_X11_clause_99_180 M1057 t0 else (if mI M 99 7 = 60 then F_X11_clause_99_171 M t0 else (if 4 ≤ t0 then F_X11_clause_99_180 M t0 else if ixOK t0 6 = true then (if t0 = 0 then F_X11_clause_99_168 M t0 (mA M 102 t0.toNatClampNeg) 12 else (if t0 = 1 then F_X11_clause_99_168 M t0 (mA M 102 t0.toNatClampNeg) 6 else (if t0 = 2 then F_X11_clause_99_168 M t0 (mA M 102 t0.toNatClampNeg) 10 else F_X11_clause_99_168 M t0 (mA M 102 t0.toNatClampNeg) 3))) else none)))
def F_X11_clause_99 (M : PM)  : Option PR := cI (F_X11_isWord_99 M 12 1 23 0 0) fun v1059 M1058 => (if v1059 = 0 then cI (F_X11_isWord_99 M1058 15 20 8 5 18) fun v1061 M1060 => (if v1061 = 0 then cI (F_X11_isWord_99 M1060 8 15 21 19 5) fun v1063 M1062 => (if v1063 = 0 then cI (F_X11_isWord_99 M1062 19 20 9 12 12) fun v1065 M1064 => (if v1065 = 0 then cI (F_X11_isWord_99 M1064 19 12 9 16 0) fun v1067 M1066 => (if v1067 = 0 then F_X11_clause_99_100 M1066 (-1) else F_X11_clause_99_100 M1066 4) else F_X11_clause_99_100 M1064 3) else F_X11_clause_99_100 M1062 2) else F_X11_clause_99_100 M1060 1) else F_X11_clause_99_100 M1058 0)
set_option maxRecDepth 100000 in
theorem S_X11_clause_99_445 {l : Launch} (hl : l.stackTraces = false) {M : PM} {x2 : Int32} {x3 : Int32} {t1 : Int32} {t2 : Int32} {r : PR} (h : F_X11_clause_99_445  M x2 x3 t1 t2 = some r) : PW l 4 Y_X11_clause k_X11_clause_445 [vR 99, jk, vI x2, vI x3, jk] [vI t2, vI t1, vR 99] M r := by
  unfold F_X11_clause_99_445 at h
  refine p_cI (av := [_, _, _]) ⟨mok_X11_number, Or.inl ⟨169, 99, 11, 0, _, rfl, rfl, rfl, gt_99, rfl, ins_X11_number, Or.inl lk_X11_169⟩⟩ (Nat.le_of_ble_eq_true rfl) (Nat.le_of_ble_eq_true rfl) rfl (fun _ h => pc_X11_number_99 hl h) h (fun v1030 M1029 h => ?_)
  refine p_istore (Nat.le_of_ble_eq_true rfl) rfl ?_
  refine p_aload_n rfl ?_
  refine p_getI fk_X11_123 gt_99 rfl ?_
  refine p_if_ne h 272 rfl rfl (fun _ h => ?_) (fun _ h => ?_)
  · refine p_aload_n rfl ?_
    refine p_getR fk_X11_58 gt_99 rfl rfl ?_
    refine p_iload_n rfl ?_
    refine p_aldG gt_114 h (fun h => ?_)
    refine p_iload_n rfl ?_
    refine p_iload rfl ?_
    refine p_iastG gt_114 h (fun h => ?_)
    refine p_aload_n rfl ?_
    refine p_bipush cb_59 ?_
    refine p_cV (av := [_, _]) ⟨mok_X11_sign, Or.inl ⟨177, 99, 11, 0, _, rfl, rfl, rfl, gt_99, rfl, ins_X11_sign, Or.inl lk_X11_177⟩⟩ (Nat.le_of_ble_eq_true rfl) (Nat.le_of_ble_eq_true rfl) rfl (fun _ h => pc_X11_sign_99 hl h) h (fun M1032 h => ?_)
    exact p_ret rfl h
  · refine p_aload_n rfl ?_
    refine p_bipush cb_59 ?_
    refine p_cV (av := [_, _]) ⟨mok_X11_sign, Or.inl ⟨177, 99, 11, 0, _, rfl, rfl, rfl, gt_99, rfl, ins_X11_sign, Or.inl lk_X11_177⟩⟩ (Nat.le_of_ble_eq_true rfl) (Nat.le_of_ble_eq_true rfl) rfl (fun _ h => pc_X11_sign_99 hl h) h (fun M1031 h => ?_)
    exact p_ret rfl h
set_option maxRecDepth 100000 in
theorem S_X11_clause_99_338 {l : Launch} (hl : l.stackTraces = false) : ∀ (n : Nat) {M : PM} {x2 : Int32} {r : PR}, F_X11_clause_99_338  n M x2 = some r → PW l 4 Y_X11_clause k_X11_clause_338 [vR 99, jk, vI x2, jk, jk] [] M r := by
  intro n
  induction n with
  | zero => intro M x2 r h; exact nomatch (show (none : Option PR) = some r from h)
  | succ n ih =>
    intro M x2 r h
    rw [F_X11_clause_99_338] at h
    refine p_iload_n rfl ?_
    refine p_bipush cb_12 ?_
    refine p_icmp_ge h 208 rfl rfl (fun _ h => ?_) (fun _ h => ?_)
    · refine p_aload_n rfl ?_
      refine p_getR fk_X11_20 gt_99 rfl rfl ?_
      refine p_iconst cn_2 ?_
      refine p_dup2 rfl rfl ?_
      refine p_iald gt_102 h (fun h => ?_)
      refine p_iconst cn_1 ?_
      refine p_iadd ?_
      refine p_iast gt_102 h (fun h => ?_)
      refine p_goto 272 rfl rfl ?_
      refine p_aload_n rfl ?_
      refine p_bipush cb_59 ?_
      refine p_cV (av := [_, _]) ⟨mok_X11_sign, Or.inl ⟨177, 99, 11, 0, _, rfl, rfl, rfl, gt_99, rfl, ins_X11_sign, Or.inl lk_X11_177⟩⟩ (Nat.le_of_ble_eq_true rfl) (Nat.le_of_ble_eq_true rfl) rfl (fun _ h => pc_X11_sign_99 hl h) h (fun M1033 h => ?_)
      exact p_ret rfl h
    · refine p_aload_n rfl ?_
      refine p_getR fk_X11_58 gt_99 rfl rfl ?_
      refine p_aload_n rfl ?_
      refine p_getR fk_X11_20 gt_99 rfl rfl ?_
      refine p_iconst cn_2 ?_
      refine p_iald gt_102 h (fun h => ?_)
      refine p_aldG gt_114 h (fun h => ?_)
      refine p_iload_n rfl ?_
      refine p_iconst cn_0 ?_
      refine p_iastG gt_114 h (fun h => ?_)
      have h := lt_h h
      refine p_iinc (Nat.le_of_ble_eq_true rfl) rfl (ci_1 _) rfl ?_
      refine p_goto 193 rfl rfl ?_
      exact p_fg (ih h) ⟨Or.inr rfl, Or.inl rfl, Or.inr rfl, Or.inl rfl, Or.inl rfl, trivial⟩
set_option maxRecDepth 100000 in
theorem S_X11_clause_99_180 {l : Launch} (hl : l.stackTraces = false) {M : PM} {x1 : Int32} {r : PR} (h : F_X11_clause_99_180  M x1 = some r) : PW l 4 Y_X11_clause k_X11_clause_180 [vR 99, vI x1, jk, jk, jk] [] M r := by
  unfold F_X11_clause_99_180 at h
  refine p_aload_n rfl ?_
  refine p_getI fk_X11_123 gt_99 rfl ?_
  refine p_if_eq h 97 rfl rfl (fun _ h => ?_) (fun _ h => ?_)
  · refine p_aload_n rfl ?_
    refine p_cV (av := [_]) ⟨mok_X11_skipWord, Or.inl ⟨157, 99, 11, 0, _, rfl, rfl, rfl, gt_99, rfl, ins_X11_skipWord, Or.inl lk_X11_157⟩⟩ (Nat.le_of_ble_eq_true rfl) (Nat.le_of_ble_eq_true rfl) rfl (fun _ h => pc_X11_skipWord_99 hl h) h (fun M1035 h => ?_)
    refine p_aload_n rfl ?_
    refine p_dup rfl ?_
    refine p_getI fk_X11_160 gt_99 rfl ?_
    refine p_iconst cn_1 ?_
    refine p_iadd ?_
    refine p_putI fk_X11_160 gt_99 rfl ?_
    refine p_iload_n rfl ?_
    refine p_if_ne h 146 rfl rfl (fun _ h => ?_) (fun _ h => ?_)
    · refine p_aload_n rfl ?_
      refine p_getR fk_X11_32 gt_99 rfl rfl ?_
      refine p_aload_n rfl ?_
      refine p_getR fk_X11_20 gt_99 rfl rfl ?_
      refine p_iconst cn_0 ?_
      refine p_iald gt_102 h (fun h => ?_)
      refine p_aload_n rfl ?_
      refine p_iconst cn_2 ?_
      refine p_bipush cb_24 ?_
      refine p_cI (av := [_, _, _]) ⟨mok_X11_number, Or.inl ⟨169, 99, 11, 0, _, rfl, rfl, rfl, gt_99, rfl, ins_X11_number, Or.inl lk_X11_169⟩⟩ (Nat.le_of_ble_eq_true rfl) (Nat.le_of_ble_eq_true rfl) rfl (fun _ h => pc_X11_number_99 hl h) h (fun v1051 M1050 h => ?_)
      refine p_iast gt_106 h (fun h => ?_)
      refine p_aload_n rfl ?_
      refine p_getR fk_X11_38 gt_99 rfl rfl ?_
      refine p_aload_n rfl ?_
      refine p_getR fk_X11_20 gt_99 rfl rfl ?_
      refine p_iconst cn_0 ?_
      refine p_iald gt_102 h (fun h => ?_)
      refine p_aload_n rfl ?_
      refine p_iconst cn_0 ?_
      refine p_aload_n rfl ?_
      refine p_getR fk_X11_32 gt_99 rfl rfl ?_
      refine p_aload_n rfl ?_
      refine p_getR fk_X11_20 gt_99 rfl rfl ?_
      refine p_iconst cn_0 ?_
      refine p_iald gt_102 h (fun h => ?_)
      refine p_iald gt_106 h (fun h => ?_)
      refine p_iconst cn_1 ?_
      refine p_isub ?_
      refine p_cI (av := [_, _, _]) ⟨mok_X11_number, Or.inl ⟨169, 99, 11, 0, _, rfl, rfl, rfl, gt_99, rfl, ins_X11_number, Or.inl lk_X11_169⟩⟩ (Nat.le_of_ble_eq_true rfl) (Nat.le_of_ble_eq_true rfl) rfl (fun _ h => pc_X11_number_99 hl h) h (fun v1053 M1052 h => ?_)
      refine p_iast gt_108 h (fun h => ?_)
      have h := lt_h h
      refine p_aload_n rfl ?_
      refine p_getR fk_X11_20 gt_99 rfl rfl ?_
      refine p_iconst cn_0 ?_
      refine p_dup2 rfl rfl ?_
      refine p_iald gt_102 h (fun h => ?_)
      refine p_iconst cn_1 ?_
      refine p_iadd ?_
      refine p_iast gt_102 h (fun h => ?_)
      refine p_goto 272 rfl rfl ?_
      refine p_aload_n rfl ?_
      refine p_bipush cb_59 ?_
      refine p_cV (av := [_, _]) ⟨mok_X11_sign, Or.inl ⟨177, 99, 11, 0, _, rfl, rfl, rfl, gt_99, rfl, ins_X11_sign, Or.inl lk_X11_177⟩⟩ (Nat.le_of_ble_eq_true rfl) (Nat.le_of_ble_eq_true rfl) rfl (fun _ h => pc_X11_sign_99 hl h) h (fun M1055 h => ?_)
      exact p_ret rfl h
    · refine p_iload_n rfl ?_
      refine p_iconst cn_1 ?_
      refine p_icmp_ne h 188 rfl rfl (fun _ h => ?_) (fun _ h => ?_)
      · refine p_aload_n rfl ?_
        refine p_getR fk_X11_44 gt_99 rfl rfl ?_
        refine p_aload_n rfl ?_
        refine p_getR fk_X11_20 gt_99 rfl rfl ?_
        refine p_iconst cn_1 ?_
        refine p_iald gt_102 h (fun h => ?_)
        refine p_aload_n rfl ?_
        refine p_iconst cn_2 ?_
        refine p_bipush cb_24 ?_
        refine p_cI (av := [_, _, _]) ⟨mok_X11_number, Or.inl ⟨169, 99, 11, 0, _, rfl, rfl, rfl, gt_99, rfl, ins_X11_number, Or.inl lk_X11_169⟩⟩ (Nat.le_of_ble_eq_true rfl) (Nat.le_of_ble_eq_true rfl) rfl (fun _ h => pc_X11_number_99 hl h) h (fun v1045 M1044 h => ?_)
        refine p_iast gt_110 h (fun h => ?_)
        refine p_aload_n rfl ?_
        refine p_getR fk_X11_50 gt_99 rfl rfl ?_
        refine p_aload_n rfl ?_
        refine p_getR fk_X11_20 gt_99 rfl rfl ?_
        refine p_iconst cn_1 ?_
        refine p_iald gt_102 h (fun h => ?_)
        refine p_aload_n rfl ?_
        refine p_iconst cn_0 ?_
        refine p_aload_n rfl ?_
        refine p_getR fk_X11_44 gt_99 rfl rfl ?_
        refine p_aload_n rfl ?_
        refine p_getR fk_X11_20 gt_99 rfl rfl ?_
        refine p_iconst cn_1 ?_
        refine p_iald gt_102 h (fun h => ?_)
        refine p_iald gt_110 h (fun h => ?_)
        refine p_iconst cn_1 ?_
        refine p_isub ?_
        refine p_cI (av := [_, _, _]) ⟨mok_X11_number, Or.inl ⟨169, 99, 11, 0, _, rfl, rfl, rfl, gt_99, rfl, ins_X11_number, Or.inl lk_X11_169⟩⟩ (Nat.le_of_ble_eq_true rfl) (Nat.le_of_ble_eq_true rfl) rfl (fun _ h => pc_X11_number_99 hl h) h (fun v1047 M1046 h => ?_)
        refine p_iast gt_112 h (fun h => ?_)
        have h := lt_h h
        refine p_aload_n rfl ?_
        refine p_getR fk_X11_20 gt_99 rfl rfl ?_
        refine p_iconst cn_1 ?_
        refine p_dup2 rfl rfl ?_
        refine p_iald gt_102 h (fun h => ?_)
        refine p_iconst cn_1 ?_
        refine p_iadd ?_
        refine p_iast gt_102 h (fun h => ?_)
        refine p_goto 272 rfl rfl ?_
        refine p_aload_n rfl ?_
        refine p_bipush cb_59 ?_
        refine p_cV (av := [_, _]) ⟨mok_X11_sign, Or.inl ⟨177, 99, 11, 0, _, rfl, rfl, rfl, gt_99, rfl, ins_X11_sign, Or.inl lk_X11_177⟩⟩ (Nat.le_of_ble_eq_true rfl) (Nat.le_of_ble_eq_true rfl) rfl (fun _ h => pc_X11_sign_99 hl h) h (fun M1049 h => ?_)
        exact p_ret rfl h
      · refine p_iload_n rfl ?_
        refine p_iconst cn_2 ?_
        refine p_icmp_ne h 217 rfl rfl (fun _ h => ?_) (fun _ h => ?_)
        · refine p_iconst cn_0 ?_
          refine p_istore_n (Nat.le_of_ble_eq_true rfl) rfl ?_
          exact p_fg (S_X11_clause_99_338 hl FUEL h) ⟨Or.inr rfl, Or.inl rfl, Or.inr rfl, Or.inl rfl, Or.inl rfl, trivial⟩
        · refine p_iload_n rfl ?_
          refine p_iconst cn_3 ?_
          refine p_icmp_ne h 227 rfl rfl (fun _ h => ?_) (fun _ h => ?_)
          · refine p_aload_n rfl ?_
            refine p_aload_n rfl ?_
            refine p_iconst cn_0 ?_
            refine p_ldc co_X11_172 ?_
            refine p_cI (av := [_, _, _]) ⟨mok_X11_number, Or.inl ⟨169, 99, 11, 0, _, rfl, rfl, rfl, gt_99, rfl, ins_X11_number, Or.inl lk_X11_169⟩⟩ (Nat.le_of_ble_eq_true rfl) (Nat.le_of_ble_eq_true rfl) rfl (fun _ h => pc_X11_number_99 hl h) h (fun v1041 M1040 h => ?_)
            refine p_cV (av := [_, _]) ⟨mok_X11_stillHere, Or.inl ⟨173, 99, 11, 0, _, rfl, rfl, rfl, gt_99, rfl, ins_X11_stillHere, Or.inl lk_X11_173⟩⟩ (Nat.le_of_ble_eq_true rfl) (Nat.le_of_ble_eq_true rfl) rfl (fun _ h => pc_X11_stillHere_99 hl h) h (fun M1042 h => ?_)
            refine p_goto 272 rfl rfl ?_
            refine p_aload_n rfl ?_
            refine p_bipush cb_59 ?_
            refine p_cV (av := [_, _]) ⟨mok_X11_sign, Or.inl ⟨177, 99, 11, 0, _, rfl, rfl, rfl, gt_99, rfl, ins_X11_sign, Or.inl lk_X11_177⟩⟩ (Nat.le_of_ble_eq_true rfl) (Nat.le_of_ble_eq_true rfl) rfl (fun _ h => pc_X11_sign_99 hl h) h (fun M1043 h => ?_)
            exact p_ret rfl h
          · refine p_aload_n rfl ?_
            refine p_iconst cn_0 ?_
            refine p_aload_n rfl ?_
            refine p_getR fk_X11_20 gt_99 rfl rfl ?_
            refine p_iconst cn_2 ?_
            refine p_iald gt_102 h (fun h => ?_)
            refine p_iconst cn_1 ?_
            refine p_isub ?_
            refine p_cI (av := [_, _, _]) ⟨mok_X11_number, Or.inl ⟨169, 99, 11, 0, _, rfl, rfl, rfl, gt_99, rfl, ins_X11_number, Or.inl lk_X11_169⟩⟩ (Nat.le_of_ble_eq_true rfl) (Nat.le_of_ble_eq_true rfl) rfl (fun _ h => pc_X11_number_99 hl h) h (fun v1037 M1036 h => ?_)
            refine p_istore_n (Nat.le_of_ble_eq_true rfl) rfl ?_
            refine p_aload_n rfl ?_
            refine p_iconst cn_0 ?_
            refine p_aload_n rfl ?_
            refine p_getR fk_X11_20 gt_99 rfl rfl ?_
            refine p_iconst cn_0 ?_
            refine p_iald gt_102 h (fun h => ?_)
            refine p_iconst cn_1 ?_
            refine p_isub ?_
            refine p_cI (av := [_, _, _]) ⟨mok_X11_number, Or.inl ⟨169, 99, 11, 0, _, rfl, rfl, rfl, gt_99, rfl, ins_X11_number, Or.inl lk_X11_169⟩⟩ (Nat.le_of_ble_eq_true rfl) (Nat.le_of_ble_eq_true rfl) rfl (fun _ h => pc_X11_number_99 hl h) h (fun v1039 M1038 h => ?_)
            refine p_istore_n (Nat.le_of_ble_eq_true rfl) rfl ?_
            refine p_aload_n rfl ?_
            refine p_iconst cn_0 ?_
            refine p_aload_n rfl ?_
            refine p_getI fk_X11_123 gt_99 rfl ?_
            refine p_if_ne h 259 rfl rfl (fun _ h => ?_) (fun _ h => ?_)
            · refine p_aload_n rfl ?_
              refine p_getR fk_X11_32 gt_99 rfl rfl ?_
              refine p_iload_n rfl ?_
              refine p_iald gt_106 h (fun h => ?_)
              refine p_iconst cn_1 ?_
              refine p_isub ?_
              refine p_goto 260 rfl rfl ?_
              exact p_fg (S_X11_clause_99_445 hl h) ⟨Or.inr rfl, Or.inl rfl, Or.inr rfl, Or.inr rfl, Or.inl rfl, trivial⟩
            · refine p_iconst cn_0 ?_
              exact p_fg (S_X11_clause_99_445 hl h) ⟨Or.inr rfl, Or.inl rfl, Or.inr rfl, Or.inr rfl, Or.inl rfl, trivial⟩
  · exact p_ret rfl h
set_option maxRecDepth 100000 in
theorem S_X11_clause_99_171 {l : Launch} (hl : l.stackTraces = false) {M : PM} {x1 : Int32} {r : PR} (h : F_X11_clause_99_171  M x1 = some r) : PW l 4 Y_X11_clause k_X11_clause_171 [vR 99, vI x1, jk, jk, jk] [] M r := by
  unfold F_X11_clause_99_171 at h
  refine p_aload_n rfl ?_
  refine p_iconst cn_3 ?_
  refine p_aload_n rfl ?_
  refine p_getI fk_X11_116 gt_99 rfl ?_
  refine p_cV (av := [_, _, _]) ⟨mok_X11_wrong, Or.inl ⟨136, 99, 11, 0, _, rfl, rfl, rfl, gt_99, rfl, ins_X11_wrong, Or.inl lk_X11_136⟩⟩ (Nat.le_of_ble_eq_true rfl) (Nat.le_of_ble_eq_true rfl) rfl (fun _ h => pc_X11_wrong_99 hl h) h (fun M1056 h => ?_)
  exact p_fg (S_X11_clause_99_180 hl h) ⟨Or.inr rfl, Or.inr rfl, Or.inl rfl, Or.inl rfl, Or.inl rfl, trivial⟩
set_option maxRecDepth 100000 in
theorem S_X11_clause_99_168 {l : Launch} (hl : l.stackTraces = false) {M : PM} {x1 : Int32} {t0 : Int32} {t1 : Int32} {r : PR} (h : F_X11_clause_99_168  M x1 t0 t1 = some r) : PW l 4 Y_X11_clause k_X11_clause_168 [vR 99, vI x1, jk, jk, jk] [vI t1, vI t0] M r := by
  unfold F_X11_clause_99_168 at h
  refine p_icmp_ne h 93 rfl rfl (fun _ h => ?_) (fun _ h => ?_)
  · exact p_fg (S_X11_clause_99_171 hl h) ⟨Or.inr rfl, Or.inr rfl, Or.inl rfl, Or.inl rfl, Or.inl rfl, trivial⟩
  · exact p_fg (S_X11_clause_99_180 hl h) ⟨Or.inr rfl, Or.inr rfl, Or.inl rfl, Or.inl rfl, Or.inl rfl, trivial⟩
set_option maxRecDepth 100000 in
theorem S_X11_clause_99_100 {l : Launch} (hl : l.stackTraces = false) {M : PM} {t0 : Int32} {r : PR} (h : F_X11_clause_99_100  M t0 = some r) : PW l 4 Y_X11_clause k_X11_clause_100 [vR 99, jk, jk, jk, jk] [vI t0] M r := by
  unfold F_X11_clause_99_100 at h
  refine p_istore_n (Nat.le_of_ble_eq_true rfl) rfl ?_
  refine p_iload_n rfl ?_
  refine p_iconst cn_m1 ?_
  refine p_icmp_ne h 61 rfl rfl (fun _ h => ?_) (fun _ h => ?_)
  · refine p_aload_n rfl ?_
    refine p_iconst cn_1 ?_
    refine p_aload_n rfl ?_
    refine p_getI fk_X11_116 gt_99 rfl ?_
    refine p_cV (av := [_, _, _]) ⟨mok_X11_wrong, Or.inl ⟨136, 99, 11, 0, _, rfl, rfl, rfl, gt_99, rfl, ins_X11_wrong, Or.inl lk_X11_136⟩⟩ (Nat.le_of_ble_eq_true rfl) (Nat.le_of_ble_eq_true rfl) rfl (fun _ h => pc_X11_wrong_99 hl h) h (fun M1057 h => ?_)
    refine p_goto 93 rfl rfl ?_
    exact p_fg (S_X11_clause_99_180 hl h) ⟨Or.inr rfl, Or.inr rfl, Or.inl rfl, Or.inl rfl, Or.inl rfl, trivial⟩
  · refine p_aload_n rfl ?_
    refine p_getI fk_X11_160 gt_99 rfl ?_
    refine p_bipush cb_60 ?_
    refine p_icmp_eq h 88 rfl rfl (fun _ h => ?_) (fun _ h => ?_)
    · exact p_fg (S_X11_clause_99_171 hl h) ⟨Or.inr rfl, Or.inr rfl, Or.inl rfl, Or.inl rfl, Or.inl rfl, trivial⟩
    · refine p_iload_n rfl ?_
      refine p_iconst cn_4 ?_
      refine p_icmp_ge h 93 rfl rfl (fun _ h => ?_) (fun _ h => ?_)
      · exact p_fg (S_X11_clause_99_180 hl h) ⟨Or.inr rfl, Or.inr rfl, Or.inl rfl, Or.inl rfl, Or.inl rfl, trivial⟩
      · refine p_aload_n rfl ?_
        refine p_getR fk_X11_20 gt_99 rfl rfl ?_
        refine p_iload_n rfl ?_
        refine p_iald gt_102 h (fun h => ?_)
        refine p_iload_n rfl ?_
        refine p_if_ne h 76 rfl rfl (fun _ h => ?_) (fun _ h => ?_)
        · refine p_bipush cb_12 ?_
          refine p_goto 87 rfl rfl ?_
          exact p_fg (S_X11_clause_99_168 hl h) ⟨Or.inr rfl, Or.inr rfl, Or.inl rfl, Or.inl rfl, Or.inl rfl, trivial⟩
        · refine p_iload_n rfl ?_
          refine p_iconst cn_1 ?_
          refine p_icmp_ne h 81 rfl rfl (fun _ h => ?_) (fun _ h => ?_)
          · refine p_bipush cb_6 ?_
            refine p_goto 87 rfl rfl ?_
            exact p_fg (S_X11_clause_99_168 hl h) ⟨Or.inr rfl, Or.inr rfl, Or.inl rfl, Or.inl rfl, Or.inl rfl, trivial⟩
          · refine p_iload_n rfl ?_
            refine p_iconst cn_2 ?_
            refine p_icmp_ne h 86 rfl rfl (fun _ h => ?_) (fun _ h => ?_)
            · refine p_bipush cb_10 ?_
              refine p_goto 87 rfl rfl ?_
              exact p_fg (S_X11_clause_99_168 hl h) ⟨Or.inr rfl, Or.inr rfl, Or.inl rfl, Or.inl rfl, Or.inl rfl, trivial⟩
            · refine p_iconst cn_3 ?_
              exact p_fg (S_X11_clause_99_168 hl h) ⟨Or.inr rfl, Or.inr rfl, Or.inl rfl, Or.inl rfl, Or.inl rfl, trivial⟩
set_option maxRecDepth 100000 in
theorem S_X11_clause_99 {l : Launch} (hl : l.stackTraces = false) {M : PM}  {r : PR} (h : F_X11_clause_99 M  = some r) : PW l 4 Y_X11_clause k_X11_clause [vR 99, jk, jk, jk, jk] [] M r := by
  unfold F_X11_clause_99 at h
  refine p_aload_n rfl ?_
  refine p_bipush cb_12 ?_
  refine p_iconst cn_1 ?_
  refine p_bipush cb_23 ?_
  refine p_iconst cn_0 ?_
  refine p_iconst cn_0 ?_
  refine p_cI (av := [_, _, _, _, _, _]) ⟨mok_X11_isWord, Or.inl ⟨153, 99, 11, 0, _, rfl, rfl, rfl, gt_99, rfl, ins_X11_isWord, Or.inl lk_X11_153⟩⟩ (Nat.le_of_ble_eq_true rfl) (Nat.le_of_ble_eq_true rfl) rfl (fun _ h => pc_X11_isWord_99 hl h) h (fun v1059 M1058 h => ?_)
  refine p_if_eq h 10 rfl rfl (fun _ h => ?_) (fun _ h => ?_)
  · refine p_aload_n rfl ?_
    refine p_bipush cb_15 ?_
    refine p_bipush cb_20 ?_
    refine p_bipush cb_8 ?_
    refine p_iconst cn_5 ?_
    refine p_bipush cb_18 ?_
    refine p_cI (av := [_, _, _, _, _, _]) ⟨mok_X11_isWord, Or.inl ⟨153, 99, 11, 0, _, rfl, rfl, rfl, gt_99, rfl, ins_X11_isWord, Or.inl lk_X11_153⟩⟩ (Nat.le_of_ble_eq_true rfl) (Nat.le_of_ble_eq_true rfl) rfl (fun _ h => pc_X11_isWord_99 hl h) h (fun v1061 M1060 h => ?_)
    refine p_if_eq h 20 rfl rfl (fun _ h => ?_) (fun _ h => ?_)
    · refine p_aload_n rfl ?_
      refine p_bipush cb_8 ?_
      refine p_bipush cb_15 ?_
      refine p_bipush cb_21 ?_
      refine p_bipush cb_19 ?_
      refine p_iconst cn_5 ?_
      refine p_cI (av := [_, _, _, _, _, _]) ⟨mok_X11_isWord, Or.inl ⟨153, 99, 11, 0, _, rfl, rfl, rfl, gt_99, rfl, ins_X11_isWord, Or.inl lk_X11_153⟩⟩ (Nat.le_of_ble_eq_true rfl) (Nat.le_of_ble_eq_true rfl) rfl (fun _ h => pc_X11_isWord_99 hl h) h (fun v1063 M1062 h => ?_)
      refine p_if_eq h 30 rfl rfl (fun _ h => ?_) (fun _ h => ?_)
      · refine p_aload_n rfl ?_
        refine p_bipush cb_19 ?_
        refine p_bipush cb_20 ?_
        refine p_bipush cb_9 ?_
        refine p_bipush cb_12 ?_
        refine p_bipush cb_12 ?_
        refine p_cI (av := [_, _, _, _, _, _]) ⟨mok_X11_isWord, Or.inl ⟨153, 99, 11, 0, _, rfl, rfl, rfl, gt_99, rfl, ins_X11_isWord, Or.inl lk_X11_153⟩⟩ (Nat.le_of_ble_eq_true rfl) (Nat.le_of_ble_eq_true rfl) rfl (fun _ h => pc_X11_isWord_99 hl h) h (fun v1065 M1064 h => ?_)
        refine p_if_eq h 40 rfl rfl (fun _ h => ?_) (fun _ h => ?_)
        · refine p_aload_n rfl ?_
          refine p_bipush cb_19 ?_
          refine p_bipush cb_12 ?_
          refine p_bipush cb_9 ?_
          refine p_bipush cb_16 ?_
          refine p_iconst cn_0 ?_
          refine p_cI (av := [_, _, _, _, _, _]) ⟨mok_X11_isWord, Or.inl ⟨153, 99, 11, 0, _, rfl, rfl, rfl, gt_99, rfl, ins_X11_isWord, Or.inl lk_X11_153⟩⟩ (Nat.le_of_ble_eq_true rfl) (Nat.le_of_ble_eq_true rfl) rfl (fun _ h => pc_X11_isWord_99 hl h) h (fun v1067 M1066 h => ?_)
          refine p_if_eq h 50 rfl rfl (fun _ h => ?_) (fun _ h => ?_)
          · refine p_iconst cn_m1 ?_
            exact p_fg (S_X11_clause_99_100 hl h) ⟨Or.inr rfl, Or.inl rfl, Or.inl rfl, Or.inl rfl, Or.inl rfl, trivial⟩
          · refine p_iconst cn_4 ?_
            refine p_goto 51 rfl rfl ?_
            exact p_fg (S_X11_clause_99_100 hl h) ⟨Or.inr rfl, Or.inl rfl, Or.inl rfl, Or.inl rfl, Or.inl rfl, trivial⟩
        · refine p_iconst cn_3 ?_
          refine p_goto 51 rfl rfl ?_
          exact p_fg (S_X11_clause_99_100 hl h) ⟨Or.inr rfl, Or.inl rfl, Or.inl rfl, Or.inl rfl, Or.inl rfl, trivial⟩
      · refine p_iconst cn_2 ?_
        refine p_goto 51 rfl rfl ?_
        exact p_fg (S_X11_clause_99_100 hl h) ⟨Or.inr rfl, Or.inl rfl, Or.inl rfl, Or.inl rfl, Or.inl rfl, trivial⟩
    · refine p_iconst cn_1 ?_
      refine p_goto 51 rfl rfl ?_
      exact p_fg (S_X11_clause_99_100 hl h) ⟨Or.inr rfl, Or.inl rfl, Or.inl rfl, Or.inl rfl, Or.inl rfl, trivial⟩
  · refine p_iconst cn_0 ?_
    refine p_goto 51 rfl rfl ?_
    exact p_fg (S_X11_clause_99_100 hl h) ⟨Or.inr rfl, Or.inl rfl, Or.inl rfl, Or.inl rfl, Or.inl rfl, trivial⟩
set_option maxRecDepth 100000 in
theorem pc_X11_clause_99 {l : Launch} (hl : l.stackTraces = false) {M : PM}  {r : PR} (h : F_X11_clause_99 M  = some r) : PC l 4 Y_X11_clause [vR 99] M r := pc_of hl (by decide +kernel) cok_X11_clause (Nat.le_of_ble_eq_true rfl) rfl (S_X11_clause_99 hl  h) rfl
def F_X11_calendar_99_401 : Nat → PM → Int32 → Option PR
  | 0, _, _ => none
  | n + 1, M, x2 => if ixOK 3 6 = true then (if mA M 103 (3 : Int32).toNatClampNeg ≤ x2 then if ixOK 5 6 = true then if ixOK 0 6 = true then some (.inl (some (.int (mA (sI (sI (sI (sI (sI (sI M 99 24 0) 99 27 (mA (sI M 99 24 0) 103 (5 : Int32).toNatClampNeg)) 99 32 0) 99 33 0) 99 34 0) 99 35 0) 103 (0 : Int32).toNatClampNeg))), sI (sI (sI (sI (sI (sI M 99 24 0) 99 27 (mA (sI M 99 24 0) 103 (5 : Int32).toNatClampNeg)) 99 32 0) 99 33 0) 99 34 0) 99 35 0) else none else none else if ixOK x2 3 = true then if ixOK x2 3 = true then lt (x2 + 1) fun y1068 => F_X11_calendar_99_401 n (sA M 105 x2.toNatClampNeg (mA M 104 x2.toNatClampNeg)) y1068 else none else none) else none
def F_X11_calendar_99_365 (k353 : PM → Int32 → Option PR) : Nat → PM → Int32 → Int32 → Option PR
  | 0, _, _, _ => none
  | n + 1, M, x2, x3 => (if 12 ≤ x3 then lt (x2 + 1) fun y1069 => k353 M y1069 else if ixOK x2 10 = true then if ixOK x2 10 = true then if x2.toNatClampNeg < 10 ∧ ixOK x3 12 = true then if x2.toNatClampNeg < 10 ∧ ixOK x3 12 = true then lt (x3 + 1) fun y1070 => F_X11_calendar_99_365 k353 n (sG M 115 x2.toNatClampNeg x3.toNatClampNeg (mG M 114 x2.toNatClampNeg x3.toNatClampNeg)) x2 y1070 else none else none else none else none)
def F_X11_calendar_99_353 : Nat → PM → Int32 → Option PR
  | 0, _, _ => none
  | n + 1, M, x2 => if ixOK 2 6 = true then (if mA M 103 (2 : Int32).toNatClampNeg ≤ x2 then F_X11_calendar_99_401 FUEL M 0 else F_X11_calendar_99_365 (F_X11_calendar_99_353 n) FUEL M x2 0) else none
def F_X11_calendar_99_311 : Nat → PM → Int32 → Option PR
  | 0, _, _ => none
  | n + 1, M, x2 => if ixOK 1 6 = true then (if mA M 103 (1 : Int32).toNatClampNeg ≤ x2 then F_X11_calendar_99_353 FUEL M 0 else if ixOK x2 6 = true then if ixOK x2 6 = true then if ixOK x2 6 = true then if ixOK x2 6 = true then lt (sA (sA M 111 x2.toNatClampNeg (mA M 110 x2.toNatClampNeg)) 113 x2.toNatClampNeg (mA (sA M 111 x2.toNatClampNeg (mA M 110 x2.toNatClampNeg)) 112 x2.toNatClampNeg)) fun M1071 => lt (x2 + 1) fun y1072 => F_X11_calendar_99_311 n M1071 y1072 else none else none else none else none) else none
def F_X11_calendar_99_269 : Nat → PM → Int32 → Option PR
  | 0, _, _ => none
  | n + 1, M, x2 => if ixOK 0 6 = true then (if mA M 103 (0 : Int32).toNatClampNeg ≤ x2 then F_X11_calendar_99_311 FUEL M 0 else if ixOK x2 12 = true then if ixOK x2 12 = true then if ixOK x2 12 = true then if ixOK x2 12 = true then lt (sA (sA M 107 x2.toNatClampNeg (mA M 106 x2.toNatClampNeg)) 109 x2.toNatClampNeg (mA (sA M 107 x2.toNatClampNeg (mA M 106 x2.toNatClampNeg)) 108 x2.toNatClampNeg)) fun M1073 => lt (x2 + 1) fun y1074 => F_X11_calendar_99_269 n M1073 y1074 else none else none else none else none) else none
def F_X11_calendar_99_243 : Nat → PM → Int32 → Option PR
  | 0, _, _ => none
  | n + 1, M, x2 => (if 6 ≤ x2 then F_X11_calendar_99_269 FUEL M 0 else if ixOK x2 6 = true then if ixOK x2 6 = true then lt (x2 + 1) fun y1075 => F_X11_calendar_99_243 n (sA M 103 x2.toNatClampNeg (mA M 102 x2.toNatClampNeg)) y1075 else none else none)
def F_X11_calendar_99_218 (M : PM)  : Option PR := (if mI (sI M 99 3 (mI M 99 6)) 99 5 = 0 then F_X11_calendar_99_243 FUEL (sI M 99 3 (mI M 99 6)) 0 else some (.inl (some (.int ((mI (sI M 99 3 (mI M 99 6)) 99 5) - 10))), sI M 99 3 (mI M 99 6)))
def F_X11_calendar_99_198 (M : PM)  : Option PR := if ixOK 5 6 = true then (if mA M 102 (5 : Int32).toNatClampNeg ≤ 100000 then F_X11_calendar_99_218 M else cV (F_X11_wrong_99 M 4 (mI M 99 2)) fun M1076 => F_X11_calendar_99_218 M1076) else none
def F_X11_calendar_99_154 : Nat → PM → Int32 → Option PR
  | 0, _, _ => none
  | n + 1, M, x2 => if ixOK 1 6 = true then (if mA M 102 (1 : Int32).toNatClampNeg ≤ x2 then F_X11_calendar_99_198 M else (if mI M 99 5 = 0 then if ixOK 5 6 = true then if ixOK x2 6 = true then cI (F_X11_both M (mA M 102 (5 : Int32).toNatClampNeg) (mA M 110 x2.toNatClampNeg)) fun v1078 M1077 => if ixOK 5 6 = true then lt (x2 + 1) fun y1079 => F_X11_calendar_99_154 n (sA M1077 102 (5 : Int32).toNatClampNeg v1078) y1079 else none else none else none else F_X11_calendar_99_198 M)) else none
def F_X11_calendar_99_140 (M : PM)  : Option PR := if ixOK 4 6 = true then if ixOK 5 6 = true then F_X11_calendar_99_154 FUEL (sA M 102 (5 : Int32).toNatClampNeg (mA M 102 (4 : Int32).toNatClampNeg)) 0 else none else none
def F_X11_calendar_99_96 : Nat → PM → Int32 → Option PR
  | 0, _, _ => none
  | n + 1, M, x2 => if ixOK 0 6 = true then (if mA M 102 (0 : Int32).toNatClampNeg ≤ x2 then F_X11_calendar_99_140 M else (if mI M 99 5 = 0 then if ixOK 4 6 = true then if ixOK x2 12 = true then cI (F_X11_both M (mA M 102 (4 : Int32).toNatClampNeg) (mA M 106 x2.toNatClampNeg)) fun v1081 M1080 => if ixOK 4 6 = true then lt (x2 + 1) fun y1082 => F_X11_calendar_99_96 n (sA M1080 102 (4 : Int32).toNatClampNeg v1081) y1082 else none else none else none else F_X11_calendar_99_140 M)) else none
def F_X11_calendar_99_87 (M : PM)  : Option PR := if ixOK 4 6 = true then F_X11_calendar_99_96 FUEL (sA M 102 (4 : Int32).toNatClampNeg 1) 0 else none
def F_X11_calendar_99_58 : Nat → PM → Option PR
  | 0, _ => none
  | n + 1, M => (if mI M 99 5 = 0 then (if mI M 99 2 ≤ mI M 99 4 then F_X11_calendar_99_87 M else cV (F_X11_clause_99 M) fun M1083 => cV (F_X11_blanks_99 M1083) fun M1084 => F_X11_calendar_99_58 n M1084) else F_X11_calendar_99_87 M)
def F_X11_calendar_99_40 : Nat → PM → Int32 → Option PR
  | 0, _, _ => none
  | n + 1, M, x2 => (if 4 ≤ x2 then F_X11_calendar_99_58 FUEL M else if ixOK x2 6 = true then lt (x2 + 1) fun y1085 => F_X11_calendar_99_40 n (sA M 102 x2.toNatClampNeg 0) y1085 else none)
def F_X11_calendar_99_23 (M : PM) (x1 : Int32) (t1 : Int32) : Option PR := cI (F_X11_bad_99 M t1 1 2) fun v1087 M1086 => (if v1087 = 0 then cV (F_X11_starts_99 M1086 x1) fun M1088 => F_X11_calendar_99_40 FUEL M1088 0 else some (.inl (some (.int 0)), M1086))
def F_X11_calendar_99 (M : PM) (a1 : Int32) : Option PR := cI (F_X11_in (sI M 99 0 0) a1 0 (mI (sI M 99 0 0) 99 1)) fun v1090 M1089 => (if v1090 = 0 then F_X11_calendar_99_23 M1089 a1 1 else F_X11_calendar_99_23 M1089 a1 0)
set_option maxRecDepth 100000 in
theorem S_X11_calendar_99_401 {l : Launch} (hl : l.stackTraces = false) : ∀ (n : Nat) {M : PM} {x2 : Int32} {r : PR}, F_X11_calendar_99_401  n M x2 = some r → PW l 5 Y_X11_calendar k_X11_calendar_401 [vR 99, jk, vI x2, jk] [] M r := by
  intro n
  induction n with
  | zero => intro M x2 r h; exact nomatch (show (none : Option PR) = some r from h)
  | succ n ih =>
    intro M x2 r h
    rw [F_X11_calendar_99_401] at h
    refine p_iload_n rfl ?_
    refine p_aload_n rfl ?_
    refine p_getR fk_X11_23 gt_99 rfl rfl ?_
    refine p_iconst cn_3 ?_
    refine p_iald gt_103 h (fun h => ?_)
    refine p_icmp_ge h 249 rfl rfl (fun _ h => ?_) (fun _ h => ?_)
    · refine p_aload_n rfl ?_
      refine p_iconst cn_0 ?_
      refine p_putI fk_X11_193 gt_99 rfl ?_
      refine p_aload_n rfl ?_
      refine p_aload_n rfl ?_
      refine p_getR fk_X11_23 gt_99 rfl rfl ?_
      refine p_iconst cn_5 ?_
      refine p_iald gt_103 h (fun h => ?_)
      refine p_putI fk_X11_104 gt_99 rfl ?_
      refine p_aload_n rfl ?_
      refine p_iconst cn_0 ?_
      refine p_putI fk_X11_196 gt_99 rfl ?_
      refine p_aload_n rfl ?_
      refine p_iconst cn_0 ?_
      refine p_putI fk_X11_199 gt_99 rfl ?_
      refine p_aload_n rfl ?_
      refine p_iconst cn_0 ?_
      refine p_putI fk_X11_202 gt_99 rfl ?_
      refine p_aload_n rfl ?_
      refine p_iconst cn_0 ?_
      refine p_putI fk_X11_205 gt_99 rfl ?_
      refine p_aload_n rfl ?_
      refine p_getR fk_X11_23 gt_99 rfl rfl ?_
      refine p_iconst cn_0 ?_
      refine p_iald gt_103 h (fun h => ?_)
      exact p_iret rfl h
    · refine p_aload_n rfl ?_
      refine p_getR fk_X11_29 gt_99 rfl rfl ?_
      refine p_iload_n rfl ?_
      refine p_aload_n rfl ?_
      refine p_getR fk_X11_26 gt_99 rfl rfl ?_
      refine p_iload_n rfl ?_
      refine p_iald gt_104 h (fun h => ?_)
      refine p_iast gt_105 h (fun h => ?_)
      have h := lt_h h
      refine p_iinc (Nat.le_of_ble_eq_true rfl) rfl (ci_1 _) rfl ?_
      refine p_goto 233 rfl rfl ?_
      exact p_fg (ih h) ⟨Or.inr rfl, Or.inl rfl, Or.inr rfl, Or.inl rfl, trivial⟩
set_option maxRecDepth 100000 in
theorem S_X11_calendar_99_365 {l : Launch} (hl : l.stackTraces = false) {k353 : PM → Int32 → Option PR} (hk353 : ∀ {M : PM} {x2 : Int32} {r : PR}, k353 M x2 = some r → PW l 5 Y_X11_calendar k_X11_calendar_353 [vR 99, jk, vI x2, jk] [] M r) : ∀ (n : Nat) {M : PM} {x2 : Int32} {x3 : Int32} {r : PR}, F_X11_calendar_99_365 k353 n M x2 x3 = some r → PW l 5 Y_X11_calendar k_X11_calendar_365 [vR 99, jk, vI x2, vI x3] [] M r := by
  intro n
  induction n with
  | zero => intro M x2 x3 r h; exact nomatch (show (none : Option PR) = some r from h)
  | succ n ih =>
    intro M x2 x3 r h
    rw [F_X11_calendar_99_365] at h
    refine p_iload_n rfl ?_
    refine p_bipush cb_12 ?_
    refine p_icmp_ge h 229 rfl rfl (fun _ h => ?_) (fun _ h => ?_)
    · have h := lt_h h
      refine p_iinc (Nat.le_of_ble_eq_true rfl) rfl (ci_1 _) rfl ?_
      refine p_goto 204 rfl rfl ?_
      exact p_fg (hk353 h) ⟨Or.inr rfl, Or.inl rfl, Or.inr rfl, Or.inl rfl, trivial⟩
    · refine p_aload_n rfl ?_
      refine p_getR fk_X11_61 gt_99 rfl rfl ?_
      refine p_iload_n rfl ?_
      refine p_aldG gt_115 h (fun h => ?_)
      refine p_iload_n rfl ?_
      refine p_aload_n rfl ?_
      refine p_getR fk_X11_58 gt_99 rfl rfl ?_
      refine p_iload_n rfl ?_
      refine p_aldG gt_114 h (fun h => ?_)
      refine p_iload_n rfl ?_
      refine p_ialdG gt_114 h (fun h => ?_)
      refine p_iastG gt_115 h (fun h => ?_)
      have h := lt_h h
      refine p_iinc (Nat.le_of_ble_eq_true rfl) rfl (ci_1 _) rfl ?_
      refine p_goto 212 rfl rfl ?_
      exact p_fg (ih h) ⟨Or.inr rfl, Or.inl rfl, Or.inr rfl, Or.inr rfl, trivial⟩
set_option maxRecDepth 100000 in
theorem S_X11_calendar_99_353 {l : Launch} (hl : l.stackTraces = false) : ∀ (n : Nat) {M : PM} {x2 : Int32} {r : PR}, F_X11_calendar_99_353  n M x2 = some r → PW l 5 Y_X11_calendar k_X11_calendar_353 [vR 99, jk, vI x2, jk] [] M r := by
  intro n
  induction n with
  | zero => intro M x2 r h; exact nomatch (show (none : Option PR) = some r from h)
  | succ n ih =>
    intro M x2 r h
    rw [F_X11_calendar_99_353] at h
    refine p_iload_n rfl ?_
    refine p_aload_n rfl ?_
    refine p_getR fk_X11_23 gt_99 rfl rfl ?_
    refine p_iconst cn_2 ?_
    refine p_iald gt_103 h (fun h => ?_)
    refine p_icmp_ge h 231 rfl rfl (fun _ h => ?_) (fun _ h => ?_)
    · refine p_iconst cn_0 ?_
      refine p_istore_n (Nat.le_of_ble_eq_true rfl) rfl ?_
      exact p_fg (S_X11_calendar_99_401 hl FUEL h) ⟨Or.inr rfl, Or.inl rfl, Or.inr rfl, Or.inl rfl, trivial⟩
    · refine p_iconst cn_0 ?_
      refine p_istore_n (Nat.le_of_ble_eq_true rfl) rfl ?_
      exact p_fg (S_X11_calendar_99_365 hl (fun h => ih h) FUEL h) ⟨Or.inr rfl, Or.inl rfl, Or.inr rfl, Or.inr rfl, trivial⟩
set_option maxRecDepth 100000 in
theorem S_X11_calendar_99_311 {l : Launch} (hl : l.stackTraces = false) : ∀ (n : Nat) {M : PM} {x2 : Int32} {r : PR}, F_X11_calendar_99_311  n M x2 = some r → PW l 5 Y_X11_calendar k_X11_calendar_311 [vR 99, jk, vI x2, jk] [] M r := by
  intro n
  induction n with
  | zero => intro M x2 r h; exact nomatch (show (none : Option PR) = some r from h)
  | succ n ih =>
    intro M x2 r h
    rw [F_X11_calendar_99_311] at h
    refine p_iload_n rfl ?_
    refine p_aload_n rfl ?_
    refine p_getR fk_X11_23 gt_99 rfl rfl ?_
    refine p_iconst cn_1 ?_
    refine p_iald gt_103 h (fun h => ?_)
    refine p_icmp_ge h 202 rfl rfl (fun _ h => ?_) (fun _ h => ?_)
    · refine p_iconst cn_0 ?_
      refine p_istore_n (Nat.le_of_ble_eq_true rfl) rfl ?_
      exact p_fg (S_X11_calendar_99_353 hl FUEL h) ⟨Or.inr rfl, Or.inl rfl, Or.inr rfl, Or.inl rfl, trivial⟩
    · refine p_aload_n rfl ?_
      refine p_getR fk_X11_47 gt_99 rfl rfl ?_
      refine p_iload_n rfl ?_
      refine p_aload_n rfl ?_
      refine p_getR fk_X11_44 gt_99 rfl rfl ?_
      refine p_iload_n rfl ?_
      refine p_iald gt_110 h (fun h => ?_)
      refine p_iast gt_111 h (fun h => ?_)
      refine p_aload_n rfl ?_
      refine p_getR fk_X11_53 gt_99 rfl rfl ?_
      refine p_iload_n rfl ?_
      refine p_aload_n rfl ?_
      refine p_getR fk_X11_50 gt_99 rfl rfl ?_
      refine p_iload_n rfl ?_
      refine p_iald gt_112 h (fun h => ?_)
      refine p_iast gt_113 h (fun h => ?_)
      have h := lt_h h
      have h := lt_h h
      refine p_iinc (Nat.le_of_ble_eq_true rfl) rfl (ci_1 _) rfl ?_
      refine p_goto 178 rfl rfl ?_
      exact p_fg (ih h) ⟨Or.inr rfl, Or.inl rfl, Or.inr rfl, Or.inl rfl, trivial⟩
set_option maxRecDepth 100000 in
theorem S_X11_calendar_99_269 {l : Launch} (hl : l.stackTraces = false) : ∀ (n : Nat) {M : PM} {x2 : Int32} {r : PR}, F_X11_calendar_99_269  n M x2 = some r → PW l 5 Y_X11_calendar k_X11_calendar_269 [vR 99, jk, vI x2, jk] [] M r := by
  intro n
  induction n with
  | zero => intro M x2 r h; exact nomatch (show (none : Option PR) = some r from h)
  | succ n ih =>
    intro M x2 r h
    rw [F_X11_calendar_99_269] at h
    refine p_iload_n rfl ?_
    refine p_aload_n rfl ?_
    refine p_getR fk_X11_23 gt_99 rfl rfl ?_
    refine p_iconst cn_0 ?_
    refine p_iald gt_103 h (fun h => ?_)
    refine p_icmp_ge h 176 rfl rfl (fun _ h => ?_) (fun _ h => ?_)
    · refine p_iconst cn_0 ?_
      refine p_istore_n (Nat.le_of_ble_eq_true rfl) rfl ?_
      exact p_fg (S_X11_calendar_99_311 hl FUEL h) ⟨Or.inr rfl, Or.inl rfl, Or.inr rfl, Or.inl rfl, trivial⟩
    · refine p_aload_n rfl ?_
      refine p_getR fk_X11_35 gt_99 rfl rfl ?_
      refine p_iload_n rfl ?_
      refine p_aload_n rfl ?_
      refine p_getR fk_X11_32 gt_99 rfl rfl ?_
      refine p_iload_n rfl ?_
      refine p_iald gt_106 h (fun h => ?_)
      refine p_iast gt_107 h (fun h => ?_)
      refine p_aload_n rfl ?_
      refine p_getR fk_X11_41 gt_99 rfl rfl ?_
      refine p_iload_n rfl ?_
      refine p_aload_n rfl ?_
      refine p_getR fk_X11_38 gt_99 rfl rfl ?_
      refine p_iload_n rfl ?_
      refine p_iald gt_108 h (fun h => ?_)
      refine p_iast gt_109 h (fun h => ?_)
      have h := lt_h h
      have h := lt_h h
      refine p_iinc (Nat.le_of_ble_eq_true rfl) rfl (ci_1 _) rfl ?_
      refine p_goto 152 rfl rfl ?_
      exact p_fg (ih h) ⟨Or.inr rfl, Or.inl rfl, Or.inr rfl, Or.inl rfl, trivial⟩
set_option maxRecDepth 100000 in
theorem S_X11_calendar_99_243 {l : Launch} (hl : l.stackTraces = false) : ∀ (n : Nat) {M : PM} {x2 : Int32} {r : PR}, F_X11_calendar_99_243  n M x2 = some r → PW l 5 Y_X11_calendar k_X11_calendar_243 [vR 99, jk, vI x2, jk] [] M r := by
  intro n
  induction n with
  | zero => intro M x2 r h; exact nomatch (show (none : Option PR) = some r from h)
  | succ n ih =>
    intro M x2 r h
    rw [F_X11_calendar_99_243] at h
    refine p_iload_n rfl ?_
    refine p_bipush cb_6 ?_
    refine p_icmp_ge h 150 rfl rfl (fun _ h => ?_) (fun _ h => ?_)
    · refine p_iconst cn_0 ?_
      refine p_istore_n (Nat.le_of_ble_eq_true rfl) rfl ?_
      exact p_fg (S_X11_calendar_99_269 hl FUEL h) ⟨Or.inr rfl, Or.inl rfl, Or.inr rfl, Or.inl rfl, trivial⟩
    · refine p_aload_n rfl ?_
      refine p_getR fk_X11_23 gt_99 rfl rfl ?_
      refine p_iload_n rfl ?_
      refine p_aload_n rfl ?_
      refine p_getR fk_X11_20 gt_99 rfl rfl ?_
      refine p_iload_n rfl ?_
      refine p_iald gt_102 h (fun h => ?_)
      refine p_iast gt_103 h (fun h => ?_)
      have h := lt_h h
      refine p_iinc (Nat.le_of_ble_eq_true rfl) rfl (ci_1 _) rfl ?_
      refine p_goto 137 rfl rfl ?_
      exact p_fg (ih h) ⟨Or.inr rfl, Or.inl rfl, Or.inr rfl, Or.inl rfl, trivial⟩
set_option maxRecDepth 100000 in
theorem S_X11_calendar_99_218 {l : Launch} (hl : l.stackTraces = false) {M : PM}  {r : PR} (h : F_X11_calendar_99_218  M  = some r) : PW l 5 Y_X11_calendar k_X11_calendar_218 [vR 99, jk, jk, jk] [] M r := by
  unfold F_X11_calendar_99_218 at h
  refine p_aload_n rfl ?_
  refine p_aload_n rfl ?_
  refine p_getI fk_X11_126 gt_99 rfl ?_
  refine p_putI fk_X11_9 gt_99 rfl ?_
  refine p_aload_n rfl ?_
  refine p_getI fk_X11_123 gt_99 rfl ?_
  refine p_if_eq h 135 rfl rfl (fun _ h => ?_) (fun _ h => ?_)
  · refine p_iconst cn_0 ?_
    refine p_istore_n (Nat.le_of_ble_eq_true rfl) rfl ?_
    exact p_fg (S_X11_calendar_99_243 hl FUEL h) ⟨Or.inr rfl, Or.inl rfl, Or.inr rfl, Or.inl rfl, trivial⟩
  · refine p_aload_n rfl ?_
    refine p_getI fk_X11_123 gt_99 rfl ?_
    refine p_bipush cb_10 ?_
    refine p_isub ?_
    exact p_iret rfl h
set_option maxRecDepth 100000 in
theorem S_X11_calendar_99_198 {l : Launch} (hl : l.stackTraces = false) {M : PM}  {r : PR} (h : F_X11_calendar_99_198  M  = some r) : PW l 5 Y_X11_calendar k_X11_calendar_198 [vR 99, jk, jk, jk] [] M r := by
  unfold F_X11_calendar_99_198 at h
  refine p_aload_n rfl ?_
  refine p_getR fk_X11_20 gt_99 rfl rfl ?_
  refine p_iconst cn_5 ?_
  refine p_iald gt_102 h (fun h => ?_)
  refine p_ldc co_X11_163 ?_
  refine p_icmp_le h 123 rfl rfl (fun _ h => ?_) (fun _ h => ?_)
  · exact p_fg (S_X11_calendar_99_218 hl h) ⟨Or.inr rfl, Or.inl rfl, Or.inl rfl, Or.inl rfl, trivial⟩
  · refine p_aload_n rfl ?_
    refine p_iconst cn_4 ?_
    refine p_aload_n rfl ?_
    refine p_getI fk_X11_113 gt_99 rfl ?_
    refine p_cV (av := [_, _, _]) ⟨mok_X11_wrong, Or.inl ⟨136, 99, 11, 0, _, rfl, rfl, rfl, gt_99, rfl, ins_X11_wrong, Or.inl lk_X11_136⟩⟩ (Nat.le_of_ble_eq_true rfl) (Nat.le_of_ble_eq_true rfl) rfl (fun _ h => pc_X11_wrong_99 hl h) h (fun M1076 h => ?_)
    exact p_fg (S_X11_calendar_99_218 hl h) ⟨Or.inr rfl, Or.inl rfl, Or.inl rfl, Or.inl rfl, trivial⟩
set_option maxRecDepth 100000 in
theorem S_X11_calendar_99_154 {l : Launch} (hl : l.stackTraces = false) : ∀ (n : Nat) {M : PM} {x2 : Int32} {r : PR}, F_X11_calendar_99_154  n M x2 = some r → PW l 5 Y_X11_calendar k_X11_calendar_154 [vR 99, jk, vI x2, jk] [] M r := by
  intro n
  induction n with
  | zero => intro M x2 r h; exact nomatch (show (none : Option PR) = some r from h)
  | succ n ih =>
    intro M x2 r h
    rw [F_X11_calendar_99_154] at h
    refine p_iload_n rfl ?_
    refine p_aload_n rfl ?_
    refine p_getR fk_X11_20 gt_99 rfl rfl ?_
    refine p_iconst cn_1 ?_
    refine p_iald gt_102 h (fun h => ?_)
    refine p_icmp_ge h 112 rfl rfl (fun _ h => ?_) (fun _ h => ?_)
    · exact p_fg (S_X11_calendar_99_198 hl h) ⟨Or.inr rfl, Or.inl rfl, Or.inl rfl, Or.inl rfl, trivial⟩
    · refine p_aload_n rfl ?_
      refine p_getI fk_X11_123 gt_99 rfl ?_
      refine p_if_ne h 112 rfl rfl (fun _ h => ?_) (fun _ h => ?_)
      · refine p_aload_n rfl ?_
        refine p_getR fk_X11_20 gt_99 rfl rfl ?_
        refine p_iconst cn_5 ?_
        refine p_aload_n rfl ?_
        refine p_getR fk_X11_20 gt_99 rfl rfl ?_
        refine p_iconst cn_5 ?_
        refine p_iald gt_102 h (fun h => ?_)
        refine p_aload_n rfl ?_
        refine p_getR fk_X11_44 gt_99 rfl rfl ?_
        refine p_iload_n rfl ?_
        refine p_iald gt_110 h (fun h => ?_)
        refine p_cI (av := [_, _]) ⟨mok_X11_both, Or.inr ⟨190, rfl, rfl, sta_X11_both, Or.inl lk_X11_190⟩⟩ (Nat.le_of_ble_eq_true rfl) (Nat.le_of_ble_eq_true rfl) rfl (fun _ h => pc_X11_both hl h) h (fun v1078 M1077 h => ?_)
        refine p_iast gt_102 h (fun h => ?_)
        have h := lt_h h
        refine p_iinc (Nat.le_of_ble_eq_true rfl) rfl (ci_1 _) rfl ?_
        refine p_goto 88 rfl rfl ?_
        exact p_fg (ih h) ⟨Or.inr rfl, Or.inl rfl, Or.inr rfl, Or.inl rfl, trivial⟩
      · exact p_fg (S_X11_calendar_99_198 hl h) ⟨Or.inr rfl, Or.inl rfl, Or.inl rfl, Or.inl rfl, trivial⟩
set_option maxRecDepth 100000 in
theorem S_X11_calendar_99_140 {l : Launch} (hl : l.stackTraces = false) {M : PM}  {r : PR} (h : F_X11_calendar_99_140  M  = some r) : PW l 5 Y_X11_calendar k_X11_calendar_140 [vR 99, jk, jk, jk] [] M r := by
  unfold F_X11_calendar_99_140 at h
  refine p_aload_n rfl ?_
  refine p_getR fk_X11_20 gt_99 rfl rfl ?_
  refine p_iconst cn_5 ?_
  refine p_aload_n rfl ?_
  refine p_getR fk_X11_20 gt_99 rfl rfl ?_
  refine p_iconst cn_4 ?_
  refine p_iald gt_102 h (fun h => ?_)
  refine p_iast gt_102 h (fun h => ?_)
  refine p_iconst cn_0 ?_
  refine p_istore_n (Nat.le_of_ble_eq_true rfl) rfl ?_
  exact p_fg (S_X11_calendar_99_154 hl FUEL h) ⟨Or.inr rfl, Or.inl rfl, Or.inr rfl, Or.inl rfl, trivial⟩
set_option maxRecDepth 100000 in
theorem S_X11_calendar_99_96 {l : Launch} (hl : l.stackTraces = false) : ∀ (n : Nat) {M : PM} {x2 : Int32} {r : PR}, F_X11_calendar_99_96  n M x2 = some r → PW l 5 Y_X11_calendar k_X11_calendar_96 [vR 99, jk, vI x2, jk] [] M r := by
  intro n
  induction n with
  | zero => intro M x2 r h; exact nomatch (show (none : Option PR) = some r from h)
  | succ n ih =>
    intro M x2 r h
    rw [F_X11_calendar_99_96] at h
    refine p_iload_n rfl ?_
    refine p_aload_n rfl ?_
    refine p_getR fk_X11_20 gt_99 rfl rfl ?_
    refine p_iconst cn_0 ?_
    refine p_iald gt_102 h (fun h => ?_)
    refine p_icmp_ge h 78 rfl rfl (fun _ h => ?_) (fun _ h => ?_)
    · exact p_fg (S_X11_calendar_99_140 hl h) ⟨Or.inr rfl, Or.inl rfl, Or.inl rfl, Or.inl rfl, trivial⟩
    · refine p_aload_n rfl ?_
      refine p_getI fk_X11_123 gt_99 rfl ?_
      refine p_if_ne h 78 rfl rfl (fun _ h => ?_) (fun _ h => ?_)
      · refine p_aload_n rfl ?_
        refine p_getR fk_X11_20 gt_99 rfl rfl ?_
        refine p_iconst cn_4 ?_
        refine p_aload_n rfl ?_
        refine p_getR fk_X11_20 gt_99 rfl rfl ?_
        refine p_iconst cn_4 ?_
        refine p_iald gt_102 h (fun h => ?_)
        refine p_aload_n rfl ?_
        refine p_getR fk_X11_32 gt_99 rfl rfl ?_
        refine p_iload_n rfl ?_
        refine p_iald gt_106 h (fun h => ?_)
        refine p_cI (av := [_, _]) ⟨mok_X11_both, Or.inr ⟨190, rfl, rfl, sta_X11_both, Or.inl lk_X11_190⟩⟩ (Nat.le_of_ble_eq_true rfl) (Nat.le_of_ble_eq_true rfl) rfl (fun _ h => pc_X11_both hl h) h (fun v1081 M1080 h => ?_)
        refine p_iast gt_102 h (fun h => ?_)
        have h := lt_h h
        refine p_iinc (Nat.le_of_ble_eq_true rfl) rfl (ci_1 _) rfl ?_
        refine p_goto 54 rfl rfl ?_
        exact p_fg (ih h) ⟨Or.inr rfl, Or.inl rfl, Or.inr rfl, Or.inl rfl, trivial⟩
      · exact p_fg (S_X11_calendar_99_140 hl h) ⟨Or.inr rfl, Or.inl rfl, Or.inl rfl, Or.inl rfl, trivial⟩
set_option maxRecDepth 100000 in
theorem S_X11_calendar_99_87 {l : Launch} (hl : l.stackTraces = false) {M : PM}  {r : PR} (h : F_X11_calendar_99_87  M  = some r) : PW l 5 Y_X11_calendar k_X11_calendar_87 [vR 99, jk, jk, jk] [] M r := by
  unfold F_X11_calendar_99_87 at h
  refine p_aload_n rfl ?_
  refine p_getR fk_X11_20 gt_99 rfl rfl ?_
  refine p_iconst cn_4 ?_
  refine p_iconst cn_1 ?_
  refine p_iast gt_102 h (fun h => ?_)
  refine p_iconst cn_0 ?_
  refine p_istore_n (Nat.le_of_ble_eq_true rfl) rfl ?_
  exact p_fg (S_X11_calendar_99_96 hl FUEL h) ⟨Or.inr rfl, Or.inl rfl, Or.inr rfl, Or.inl rfl, trivial⟩
set_option maxRecDepth 100000 in
theorem S_X11_calendar_99_58 {l : Launch} (hl : l.stackTraces = false) : ∀ (n : Nat) {M : PM}  {r : PR}, F_X11_calendar_99_58  n M  = some r → PW l 5 Y_X11_calendar k_X11_calendar_58 [vR 99, jk, jk, jk] [] M r := by
  intro n
  induction n with
  | zero => intro M  r h; exact nomatch (show (none : Option PR) = some r from h)
  | succ n ih =>
    intro M  r h
    rw [F_X11_calendar_99_58] at h
    refine p_aload_n rfl ?_
    refine p_getI fk_X11_123 gt_99 rfl ?_
    refine p_if_ne h 47 rfl rfl (fun _ h => ?_) (fun _ h => ?_)
    · refine p_aload_n rfl ?_
      refine p_getI fk_X11_116 gt_99 rfl ?_
      refine p_aload_n rfl ?_
      refine p_getI fk_X11_113 gt_99 rfl ?_
      refine p_icmp_ge h 47 rfl rfl (fun _ h => ?_) (fun _ h => ?_)
      · exact p_fg (S_X11_calendar_99_87 hl h) ⟨Or.inr rfl, Or.inl rfl, Or.inl rfl, Or.inl rfl, trivial⟩
      · refine p_aload_n rfl ?_
        refine p_cV (av := [_]) ⟨mok_X11_clause, Or.inl ⟨187, 99, 11, 0, _, rfl, rfl, rfl, gt_99, rfl, ins_X11_clause, Or.inl lk_X11_187⟩⟩ (Nat.le_of_ble_eq_true rfl) (Nat.le_of_ble_eq_true rfl) rfl (fun _ h => pc_X11_clause_99 hl h) h (fun M1083 h => ?_)
        refine p_aload_n rfl ?_
        refine p_cV (av := [_]) ⟨mok_X11_blanks, Or.inl ⟨129, 99, 11, 0, _, rfl, rfl, rfl, gt_99, rfl, ins_X11_blanks, Or.inl lk_X11_129⟩⟩ (Nat.le_of_ble_eq_true rfl) (Nat.le_of_ble_eq_true rfl) rfl (fun _ h => pc_X11_blanks_99 hl h) h (fun M1084 h => ?_)
        refine p_goto 34 rfl rfl ?_
        exact p_fg (ih h) ⟨Or.inr rfl, Or.inl rfl, Or.inl rfl, Or.inl rfl, trivial⟩
    · exact p_fg (S_X11_calendar_99_87 hl h) ⟨Or.inr rfl, Or.inl rfl, Or.inl rfl, Or.inl rfl, trivial⟩
set_option maxRecDepth 100000 in
theorem S_X11_calendar_99_40 {l : Launch} (hl : l.stackTraces = false) : ∀ (n : Nat) {M : PM} {x2 : Int32} {r : PR}, F_X11_calendar_99_40  n M x2 = some r → PW l 5 Y_X11_calendar k_X11_calendar_40 [vR 99, jk, vI x2, jk] [] M r := by
  intro n
  induction n with
  | zero => intro M x2 r h; exact nomatch (show (none : Option PR) = some r from h)
  | succ n ih =>
    intro M x2 r h
    rw [F_X11_calendar_99_40] at h
    refine p_iload_n rfl ?_
    refine p_iconst cn_4 ?_
    refine p_icmp_ge h 34 rfl rfl (fun _ h => ?_) (fun _ h => ?_)
    · exact p_fg (S_X11_calendar_99_58 hl FUEL h) ⟨Or.inr rfl, Or.inl rfl, Or.inl rfl, Or.inl rfl, trivial⟩
    · refine p_aload_n rfl ?_
      refine p_getR fk_X11_20 gt_99 rfl rfl ?_
      refine p_iload_n rfl ?_
      refine p_iconst cn_0 ?_
      refine p_iast gt_102 h (fun h => ?_)
      have h := lt_h h
      refine p_iinc (Nat.le_of_ble_eq_true rfl) rfl (ci_1 _) rfl ?_
      refine p_goto 24 rfl rfl ?_
      exact p_fg (ih h) ⟨Or.inr rfl, Or.inl rfl, Or.inr rfl, Or.inl rfl, trivial⟩
set_option maxRecDepth 100000 in
theorem S_X11_calendar_99_23 {l : Launch} (hl : l.stackTraces = false) {M : PM} {x1 : Int32} {t1 : Int32} {r : PR} (h : F_X11_calendar_99_23  M x1 t1 = some r) : PW l 5 Y_X11_calendar k_X11_calendar_23 [vR 99, vI x1, jk, jk] [vI t1, vR 99] M r := by
  unfold F_X11_calendar_99_23 at h
  refine p_iconst cn_1 ?_
  refine p_iconst cn_2 ?_
  refine p_cI (av := [_, _, _, _]) ⟨mok_X11_bad, Or.inl ⟨180, 99, 11, 0, _, rfl, rfl, rfl, gt_99, rfl, ins_X11_bad, Or.inl lk_X11_180⟩⟩ (Nat.le_of_ble_eq_true rfl) (Nat.le_of_ble_eq_true rfl) rfl (fun _ h => pc_X11_bad_99 hl h) h (fun v1087 M1086 h => ?_)
  refine p_if_eq h 19 rfl rfl (fun _ h => ?_) (fun _ h => ?_)
  · refine p_aload_n rfl ?_
    refine p_iload_n rfl ?_
    refine p_cV (av := [_, _]) ⟨mok_X11_starts, Or.inl ⟨184, 99, 11, 0, _, rfl, rfl, rfl, gt_99, rfl, ins_X11_starts, Or.inl lk_X11_184⟩⟩ (Nat.le_of_ble_eq_true rfl) (Nat.le_of_ble_eq_true rfl) rfl (fun _ h => pc_X11_starts_99 hl h) h (fun M1088 h => ?_)
    refine p_iconst cn_0 ?_
    refine p_istore_n (Nat.le_of_ble_eq_true rfl) rfl ?_
    exact p_fg (S_X11_calendar_99_40 hl FUEL h) ⟨Or.inr rfl, Or.inl rfl, Or.inr rfl, Or.inl rfl, trivial⟩
  · refine p_iconst cn_0 ?_
    exact p_iret rfl h
set_option maxRecDepth 100000 in
theorem S_X11_calendar_99 {l : Launch} (hl : l.stackTraces = false) {M : PM} {a1 : Int32} {r : PR} (h : F_X11_calendar_99 M a1 = some r) : PW l 5 Y_X11_calendar k_X11_calendar [vR 99, vI a1, jk, jk] [] M r := by
  unfold F_X11_calendar_99 at h
  refine p_aload_n rfl ?_
  refine p_iconst cn_0 ?_
  refine p_putI fk_X11_107 gt_99 rfl ?_
  refine p_aload_n rfl ?_
  refine p_iload_n rfl ?_
  refine p_iconst cn_0 ?_
  refine p_aload_n rfl ?_
  refine p_getI fk_X11_110 gt_99 rfl ?_
  refine p_cI (av := [_, _, _]) ⟨mok_X11_in, Or.inr ⟨141, rfl, rfl, sta_X11_in, Or.inl lk_X11_141⟩⟩ (Nat.le_of_ble_eq_true rfl) (Nat.le_of_ble_eq_true rfl) rfl (fun _ h => pc_X11_in hl h) h (fun v1090 M1089 h => ?_)
  refine p_if_ne h 12 rfl rfl (fun _ h => ?_) (fun _ h => ?_)
  · refine p_iconst cn_1 ?_
    refine p_goto 13 rfl rfl ?_
    exact p_fg (S_X11_calendar_99_23 hl h) ⟨Or.inr rfl, Or.inr rfl, Or.inl rfl, Or.inl rfl, trivial⟩
  · refine p_iconst cn_0 ?_
    exact p_fg (S_X11_calendar_99_23 hl h) ⟨Or.inr rfl, Or.inr rfl, Or.inl rfl, Or.inl rfl, trivial⟩
set_option maxRecDepth 100000 in
theorem pc_X11_calendar_99 {l : Launch} (hl : l.stackTraces = false) {M : PM} {a1 : Int32} {r : PR} (h : F_X11_calendar_99 M a1 = some r) : PC l 5 Y_X11_calendar [vR 99, vI a1] M r := pc_of hl (by decide +kernel) cok_X11_calendar (Nat.le_of_ble_eq_true rfl) rfl (S_X11_calendar_99 hl  h) rfl
