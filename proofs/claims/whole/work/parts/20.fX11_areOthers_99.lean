def F_X11_areOthers_99 (M : PM) (a1 : Int32) : Option PR := if ixOK 1 6 = true then cI (F_X11_in M a1 0 ((1 <<< ((mA M 103 (1 : Int32).toNatClampNeg) &&& 31)) - 1)) fun v1616 M1615 => (if v1616 &&& 1 = v1616 then some (.inl (some (.int v1616)), M1615) else none) else none
set_option maxRecDepth 100000 in
theorem S_X11_areOthers_99 {l : Launch} (hl : l.stackTraces = false) {M : PM} {a1 : Int32} {r : PR} (h : F_X11_areOthers_99 M a1 = some r) : PW l 1 Y_X11_areOthers k_X11_areOthers [vR 99, vI a1] [] M r := by
  unfold F_X11_areOthers_99 at h
  refine p_iload_n rfl ?_
  refine p_iconst cn_0 ?_
  refine p_iconst cn_1 ?_
  refine p_aload_n rfl ?_
  refine p_getR fk_X11_23 gt_99 rfl rfl ?_
  refine p_iconst cn_1 ?_
  refine p_iald gt_103 h (fun h => ?_)
  refine p_ishl ?_
  refine p_iconst cn_1 ?_
  refine p_isub ?_
  refine p_cI (av := [_, _, _]) ⟨mok_X11_in, Or.inr ⟨141, rfl, rfl, sta_X11_in, Or.inl lk_X11_141⟩⟩ (Nat.le_of_ble_eq_true rfl) (Nat.le_of_ble_eq_true rfl) rfl (fun _ h => pc_X11_in hl h) h (fun v1616 M1615 h => ?_)
  exact p_zret rfl h
set_option maxRecDepth 100000 in
theorem pc_X11_areOthers_99 {l : Launch} (hl : l.stackTraces = false) {M : PM} {a1 : Int32} {r : PR} (h : F_X11_areOthers_99 M a1 = some r) : PC l 1 Y_X11_areOthers [vR 99, vI a1] M r := pc_of hl (by decide +kernel) cok_X11_areOthers (Nat.le_of_ble_eq_true rfl) rfl (S_X11_areOthers_99 hl  h) rfl
def F_X11_trade_99_70 (k42 : PM → Int32 → Int32 → Int32 → Int32 → Option PR) (M : PM) (x1 : Int32) (x2 : Int32) (x4 : Int32) (t0 : Int32) (t1 : Int32) : Option PR := lt (t0 + t1) fun y1617 => lt (x4 + 1) fun y1618 => k42 M x1 x2 y1617 y1618
def F_X11_trade_99_42 : Nat → PM → Int32 → Int32 → Int32 → Int32 → Option PR
  | 0, _, _, _, _, _ => none
  | n + 1, M, x1, x2, x3, x4 => if ixOK 5 6 = true then (if mA M 103 (5 : Int32).toNatClampNeg ≤ x4 then some (.inl (some (.int x3)), M) else cI (F_X11_isTrade_99 M x4 x1 x2) fun v1620 M1619 => (if v1620 = 0 then F_X11_trade_99_70 (F_X11_trade_99_42 n) M1619 x1 x2 x4 x3 0 else F_X11_trade_99_70 (F_X11_trade_99_42 n) M1619 x1 x2 x4 x3 1)) else none
def F_X11_trade_99_27 (M : PM) (x1 : Int32) (x2 : Int32) (t1 : Int32) : Option PR := cI (F_X11_bad_99 M t1 1 2) fun v1622 M1621 => (if v1622 = 0 then F_X11_trade_99_42 FUEL M1621 x1 x2 0 0 else some (.inl (some (.int 0)), M1621))
def F_X11_trade_99_22 (M : PM) (x1 : Int32) (x2 : Int32) : Option PR := F_X11_trade_99_27 M x1 x2 1
def F_X11_trade_99 (M : PM) (a1 : Int32) (a2 : Int32) : Option PR := cI (F_X11_areLaws_99 (sI M 99 0 0) a1) fun v1624 M1623 => (if v1624 = 0 then F_X11_trade_99_22 M1623 a1 a2 else cI (F_X11_areOthers_99 M1623 a2) fun v1626 M1625 => (if v1626 = 0 then F_X11_trade_99_22 M1625 a1 a2 else F_X11_trade_99_27 M1625 a1 a2 0))
set_option maxRecDepth 100000 in
theorem S_X11_trade_99_70 {l : Launch} (hl : l.stackTraces = false) {k42 : PM → Int32 → Int32 → Int32 → Int32 → Option PR} (hk42 : ∀ {M : PM} {x1 : Int32} {x2 : Int32} {x3 : Int32} {x4 : Int32} {r : PR}, k42 M x1 x2 x3 x4 = some r → PW l 3 Y_X11_trade k_X11_trade_42 [vR 99, vI x1, vI x2, vI x3, vI x4] [] M r) {M : PM} {x1 : Int32} {x2 : Int32} {x4 : Int32} {t0 : Int32} {t1 : Int32} {r : PR} (h : F_X11_trade_99_70 k42 M x1 x2 x4 t0 t1 = some r) : PW l 3 Y_X11_trade k_X11_trade_70 [vR 99, vI x1, vI x2, jk, vI x4] [vI t1, vI t0] M r := by
  unfold F_X11_trade_99_70 at h
  refine p_iadd ?_
  have h := lt_h h
  refine p_istore_n (Nat.le_of_ble_eq_true rfl) rfl ?_
  have h := lt_h h
  refine p_iinc (Nat.le_of_ble_eq_true rfl) rfl (ci_1 _) rfl ?_
  refine p_goto 25 rfl rfl ?_
  exact p_fg (hk42 h) ⟨Or.inr rfl, Or.inr rfl, Or.inr rfl, Or.inr rfl, Or.inr rfl, trivial⟩
set_option maxRecDepth 100000 in
theorem S_X11_trade_99_42 {l : Launch} (hl : l.stackTraces = false) : ∀ (n : Nat) {M : PM} {x1 : Int32} {x2 : Int32} {x3 : Int32} {x4 : Int32} {r : PR}, F_X11_trade_99_42  n M x1 x2 x3 x4 = some r → PW l 3 Y_X11_trade k_X11_trade_42 [vR 99, vI x1, vI x2, vI x3, vI x4] [] M r := by
  intro n
  induction n with
  | zero => intro M x1 x2 x3 x4 r h; exact nomatch (show (none : Option PR) = some r from h)
  | succ n ih =>
    intro M x1 x2 x3 x4 r h
    rw [F_X11_trade_99_42] at h
    refine p_iload rfl ?_
    refine p_aload_n rfl ?_
    refine p_getR fk_X11_23 gt_99 rfl rfl ?_
    refine p_iconst cn_5 ?_
    refine p_iald gt_103 h (fun h => ?_)
    refine p_icmp_ge h 45 rfl rfl (fun _ h => ?_) (fun _ h => ?_)
    · refine p_iload_n rfl ?_
      exact p_iret rfl h
    · refine p_iload_n rfl ?_
      refine p_aload_n rfl ?_
      refine p_iload rfl ?_
      refine p_iload_n rfl ?_
      refine p_iload_n rfl ?_
      refine p_cI (av := [_, _, _, _]) ⟨mok_X11_isTrade, Or.inl ⟨342, 99, 11, 0, _, rfl, rfl, rfl, gt_99, rfl, ins_X11_isTrade, Or.inl lk_X11_342⟩⟩ (Nat.le_of_ble_eq_true rfl) (Nat.le_of_ble_eq_true rfl) rfl (fun _ h => pc_X11_isTrade_99 hl h) h (fun v1620 M1619 h => ?_)
      refine p_if_eq h 40 rfl rfl (fun _ h => ?_) (fun _ h => ?_)
      · refine p_iconst cn_0 ?_
        exact p_fg (S_X11_trade_99_70 hl (fun h => ih h) h) ⟨Or.inr rfl, Or.inr rfl, Or.inr rfl, Or.inl rfl, Or.inr rfl, trivial⟩
      · refine p_iconst cn_1 ?_
        refine p_goto 41 rfl rfl ?_
        exact p_fg (S_X11_trade_99_70 hl (fun h => ih h) h) ⟨Or.inr rfl, Or.inr rfl, Or.inr rfl, Or.inl rfl, Or.inr rfl, trivial⟩
set_option maxRecDepth 100000 in
theorem S_X11_trade_99_27 {l : Launch} (hl : l.stackTraces = false) {M : PM} {x1 : Int32} {x2 : Int32} {t1 : Int32} {r : PR} (h : F_X11_trade_99_27  M x1 x2 t1 = some r) : PW l 3 Y_X11_trade k_X11_trade_27 [vR 99, vI x1, vI x2, jk, jk] [vI t1, vR 99] M r := by
  unfold F_X11_trade_99_27 at h
  refine p_iconst cn_1 ?_
  refine p_iconst cn_2 ?_
  refine p_cI (av := [_, _, _, _]) ⟨mok_X11_bad, Or.inl ⟨180, 99, 11, 0, _, rfl, rfl, rfl, gt_99, rfl, ins_X11_bad, Or.inl lk_X11_180⟩⟩ (Nat.le_of_ble_eq_true rfl) (Nat.le_of_ble_eq_true rfl) rfl (fun _ h => pc_X11_bad_99 hl h) h (fun v1622 M1621 h => ?_)
  refine p_if_eq h 21 rfl rfl (fun _ h => ?_) (fun _ h => ?_)
  · refine p_iconst cn_0 ?_
    refine p_istore_n (Nat.le_of_ble_eq_true rfl) rfl ?_
    refine p_iconst cn_0 ?_
    refine p_istore (Nat.le_of_ble_eq_true rfl) rfl ?_
    exact p_fg (S_X11_trade_99_42 hl FUEL h) ⟨Or.inr rfl, Or.inr rfl, Or.inr rfl, Or.inr rfl, Or.inr rfl, trivial⟩
  · refine p_iconst cn_0 ?_
    exact p_iret rfl h
set_option maxRecDepth 100000 in
theorem S_X11_trade_99_22 {l : Launch} (hl : l.stackTraces = false) {M : PM} {x1 : Int32} {x2 : Int32} {r : PR} (h : F_X11_trade_99_22  M x1 x2 = some r) : PW l 3 Y_X11_trade k_X11_trade_22 [vR 99, vI x1, vI x2, jk, jk] [vR 99] M r := by
  unfold F_X11_trade_99_22 at h
  refine p_iconst cn_1 ?_
  refine p_goto 15 rfl rfl ?_
  exact p_fg (S_X11_trade_99_27 hl h) ⟨Or.inr rfl, Or.inr rfl, Or.inr rfl, Or.inl rfl, Or.inl rfl, trivial⟩
set_option maxRecDepth 100000 in
theorem S_X11_trade_99 {l : Launch} (hl : l.stackTraces = false) {M : PM} {a1 : Int32} {a2 : Int32} {r : PR} (h : F_X11_trade_99 M a1 a2 = some r) : PW l 3 Y_X11_trade k_X11_trade [vR 99, vI a1, vI a2, jk, jk] [] M r := by
  unfold F_X11_trade_99 at h
  refine p_aload_n rfl ?_
  refine p_iconst cn_0 ?_
  refine p_putI fk_X11_107 gt_99 rfl ?_
  refine p_aload_n rfl ?_
  refine p_aload_n rfl ?_
  refine p_iload_n rfl ?_
  refine p_cI (av := [_, _]) ⟨mok_X11_areLaws, Or.inl ⟨281, 99, 11, 0, _, rfl, rfl, rfl, gt_99, rfl, ins_X11_areLaws, Or.inl lk_X11_281⟩⟩ (Nat.le_of_ble_eq_true rfl) (Nat.le_of_ble_eq_true rfl) rfl (fun _ h => pc_X11_areLaws_99 hl h) h (fun v1624 M1623 h => ?_)
  refine p_if_eq h 12 rfl rfl (fun _ h => ?_) (fun _ h => ?_)
  · exact p_fg (S_X11_trade_99_22 hl h) ⟨Or.inr rfl, Or.inr rfl, Or.inr rfl, Or.inl rfl, Or.inl rfl, trivial⟩
  · refine p_aload_n rfl ?_
    refine p_iload_n rfl ?_
    refine p_cI (av := [_, _]) ⟨mok_X11_areOthers, Or.inl ⟨339, 99, 11, 0, _, rfl, rfl, rfl, gt_99, rfl, ins_X11_areOthers, Or.inl lk_X11_339⟩⟩ (Nat.le_of_ble_eq_true rfl) (Nat.le_of_ble_eq_true rfl) rfl (fun _ h => pc_X11_areOthers_99 hl h) h (fun v1626 M1625 h => ?_)
    refine p_if_ne h 14 rfl rfl (fun _ h => ?_) (fun _ h => ?_)
    · exact p_fg (S_X11_trade_99_22 hl h) ⟨Or.inr rfl, Or.inr rfl, Or.inr rfl, Or.inl rfl, Or.inl rfl, trivial⟩
    · refine p_iconst cn_0 ?_
      exact p_fg (S_X11_trade_99_27 hl h) ⟨Or.inr rfl, Or.inr rfl, Or.inr rfl, Or.inl rfl, Or.inl rfl, trivial⟩
set_option maxRecDepth 100000 in
theorem pc_X11_trade_99 {l : Launch} (hl : l.stackTraces = false) {M : PM} {a1 : Int32} {a2 : Int32} {r : PR} (h : F_X11_trade_99 M a1 a2 = some r) : PC l 3 Y_X11_trade [vR 99, vI a1, vI a2] M r := pc_of hl (by decide +kernel) cok_X11_trade (Nat.le_of_ble_eq_true rfl) rfl (S_X11_trade_99 hl  h) rfl
def F_X11_market_99_73 : Nat → PM → Int32 → Int32 → Int32 → Int32 → Option PR
  | 0, _, _, _, _, _ => none
  | n + 1, M, x2, x3, x4, x5 => (if x4 < x5 then some (.inl (some (.int (-1))), M) else cI (F_X11_turnedOn_99 M x5) fun v1628 M1627 => cI (F_X11_isTrade_99 M1627 v1628 x2 x3) fun v1630 M1629 => (if v1630 = 0 then lt (x5 + 1) fun y1631 => F_X11_market_99_73 n M1629 x2 x3 x4 y1631 else some (.inl (some (.int x5)), M1629)))
def F_X11_market_99_48 (M : PM) (x1 : Int32) (x2 : Int32) (x3 : Int32) (t1 : Int32) : Option PR := cI (F_X11_bad_99 M t1 2 2) fun v1633 M1632 => (if v1633 = 0 then if ixOK 5 6 = true then cI (F_X11_bound M1632 x1 (mA M1632 103 (5 : Int32).toNatClampNeg)) fun v1635 M1634 => F_X11_market_99_73 FUEL M1634 x2 x3 v1635 x1 else none else some (.inl (some (.int 0)), M1632))
def F_X11_market_99_43 (M : PM) (x1 : Int32) (x2 : Int32) (x3 : Int32) : Option PR := F_X11_market_99_48 M x1 x2 x3 1
def F_X11_market_99_18 (M : PM) (x1 : Int32) (x2 : Int32) (x3 : Int32) (t1 : Int32) : Option PR := cI (F_X11_bad_99 M t1 1 0) fun v1637 M1636 => (if v1637 = 0 then cI (F_X11_areLaws_99 M1636 x2) fun v1639 M1638 => (if v1639 = 0 then F_X11_market_99_43 M1638 x1 x2 x3 else cI (F_X11_areOthers_99 M1638 x3) fun v1641 M1640 => (if v1641 = 0 then F_X11_market_99_43 M1640 x1 x2 x3 else F_X11_market_99_48 M1640 x1 x2 x3 0)) else some (.inl (some (.int 0)), M1636))
def F_X11_market_99 (M : PM) (a1 : Int32) (a2 : Int32) (a3 : Int32) : Option PR := cI (F_X11_isDay (sI M 99 0 0) a1) fun v1643 M1642 => (if v1643 = 0 then F_X11_market_99_18 M1642 a1 a2 a3 1 else F_X11_market_99_18 M1642 a1 a2 a3 0)
set_option maxRecDepth 100000 in
theorem S_X11_market_99_73 {l : Launch} (hl : l.stackTraces = false) : ∀ (n : Nat) {M : PM} {x2 : Int32} {x3 : Int32} {x4 : Int32} {x5 : Int32} {r : PR}, F_X11_market_99_73  n M x2 x3 x4 x5 = some r → PW l 3 Y_X11_market k_X11_market_73 [vR 99, jk, vI x2, vI x3, vI x4, vI x5] [] M r := by
  intro n
  induction n with
  | zero => intro M x2 x3 x4 x5 r h; exact nomatch (show (none : Option PR) = some r from h)
  | succ n ih =>
    intro M x2 x3 x4 x5 r h
    rw [F_X11_market_99_73] at h
    refine p_iload rfl ?_
    refine p_iload rfl ?_
    refine p_icmp_gt h 56 rfl rfl (fun _ h => ?_) (fun _ h => ?_)
    · refine p_iconst cn_m1 ?_
      exact p_iret rfl h
    · refine p_aload_n rfl ?_
      refine p_aload_n rfl ?_
      refine p_iload rfl ?_
      refine p_cI (av := [_, _]) ⟨mok_X11_turnedOn, Or.inl ⟨250, 99, 11, 0, _, rfl, rfl, rfl, gt_99, rfl, ins_X11_turnedOn, Or.inl lk_X11_250⟩⟩ (Nat.le_of_ble_eq_true rfl) (Nat.le_of_ble_eq_true rfl) rfl (fun _ h => pc_X11_turnedOn_99 hl h) h (fun v1628 M1627 h => ?_)
      refine p_iload_n rfl ?_
      refine p_iload_n rfl ?_
      refine p_cI (av := [_, _, _, _]) ⟨mok_X11_isTrade, Or.inl ⟨342, 99, 11, 0, _, rfl, rfl, rfl, gt_99, rfl, ins_X11_isTrade, Or.inl lk_X11_342⟩⟩ (Nat.le_of_ble_eq_true rfl) (Nat.le_of_ble_eq_true rfl) rfl (fun _ h => pc_X11_isTrade_99 hl h) h (fun v1630 M1629 h => ?_)
      refine p_if_eq h 54 rfl rfl (fun _ h => ?_) (fun _ h => ?_)
      · have h := lt_h h
        refine p_iinc (Nat.le_of_ble_eq_true rfl) rfl (ci_1 _) rfl ?_
        refine p_goto 41 rfl rfl ?_
        exact p_fg (ih h) ⟨Or.inr rfl, Or.inl rfl, Or.inr rfl, Or.inr rfl, Or.inr rfl, Or.inr rfl, trivial⟩
      · refine p_iload rfl ?_
        exact p_iret rfl h
set_option maxRecDepth 100000 in
theorem S_X11_market_99_48 {l : Launch} (hl : l.stackTraces = false) {M : PM} {x1 : Int32} {x2 : Int32} {x3 : Int32} {t1 : Int32} {r : PR} (h : F_X11_market_99_48  M x1 x2 x3 t1 = some r) : PW l 3 Y_X11_market k_X11_market_48 [vR 99, vI x1, vI x2, vI x3, jk, jk] [vI t1, vR 99] M r := by
  unfold F_X11_market_99_48 at h
  refine p_iconst cn_2 ?_
  refine p_iconst cn_2 ?_
  refine p_cI (av := [_, _, _, _]) ⟨mok_X11_bad, Or.inl ⟨180, 99, 11, 0, _, rfl, rfl, rfl, gt_99, rfl, ins_X11_bad, Or.inl lk_X11_180⟩⟩ (Nat.le_of_ble_eq_true rfl) (Nat.le_of_ble_eq_true rfl) rfl (fun _ h => pc_X11_bad_99 hl h) h (fun v1633 M1632 h => ?_)
  refine p_if_eq h 32 rfl rfl (fun _ h => ?_) (fun _ h => ?_)
  · refine p_iload_n rfl ?_
    refine p_aload_n rfl ?_
    refine p_getR fk_X11_23 gt_99 rfl rfl ?_
    refine p_iconst cn_5 ?_
    refine p_iald gt_103 h (fun h => ?_)
    refine p_cI (av := [_, _]) ⟨mok_X11_bound, Or.inr ⟨271, rfl, rfl, sta_X11_bound, Or.inl lk_X11_271⟩⟩ (Nat.le_of_ble_eq_true rfl) (Nat.le_of_ble_eq_true rfl) rfl (fun _ h => pc_X11_bound hl h) h (fun v1635 M1634 h => ?_)
    refine p_istore (Nat.le_of_ble_eq_true rfl) rfl ?_
    refine p_iload_n rfl ?_
    refine p_istore (Nat.le_of_ble_eq_true rfl) rfl ?_
    exact p_fg (S_X11_market_99_73 hl FUEL h) ⟨Or.inr rfl, Or.inl rfl, Or.inr rfl, Or.inr rfl, Or.inr rfl, Or.inr rfl, trivial⟩
  · refine p_iconst cn_0 ?_
    exact p_iret rfl h
set_option maxRecDepth 100000 in
theorem S_X11_market_99_43 {l : Launch} (hl : l.stackTraces = false) {M : PM} {x1 : Int32} {x2 : Int32} {x3 : Int32} {r : PR} (h : F_X11_market_99_43  M x1 x2 x3 = some r) : PW l 3 Y_X11_market k_X11_market_43 [vR 99, vI x1, vI x2, vI x3, jk, jk] [vR 99] M r := by
  unfold F_X11_market_99_43 at h
  refine p_iconst cn_1 ?_
  refine p_goto 26 rfl rfl ?_
  exact p_fg (S_X11_market_99_48 hl h) ⟨Or.inr rfl, Or.inr rfl, Or.inr rfl, Or.inr rfl, Or.inl rfl, Or.inl rfl, trivial⟩
set_option maxRecDepth 100000 in
theorem S_X11_market_99_18 {l : Launch} (hl : l.stackTraces = false) {M : PM} {x1 : Int32} {x2 : Int32} {x3 : Int32} {t1 : Int32} {r : PR} (h : F_X11_market_99_18  M x1 x2 x3 t1 = some r) : PW l 3 Y_X11_market k_X11_market_18 [vR 99, vI x1, vI x2, vI x3, jk, jk] [vI t1, vR 99] M r := by
  unfold F_X11_market_99_18 at h
  refine p_iconst cn_1 ?_
  refine p_iconst cn_0 ?_
  refine p_cI (av := [_, _, _, _]) ⟨mok_X11_bad, Or.inl ⟨180, 99, 11, 0, _, rfl, rfl, rfl, gt_99, rfl, ins_X11_bad, Or.inl lk_X11_180⟩⟩ (Nat.le_of_ble_eq_true rfl) (Nat.le_of_ble_eq_true rfl) rfl (fun _ h => pc_X11_bad_99 hl h) h (fun v1637 M1636 h => ?_)
  refine p_if_ne h 30 rfl rfl (fun _ h => ?_) (fun _ h => ?_)
  · refine p_aload_n rfl ?_
    refine p_aload_n rfl ?_
    refine p_iload_n rfl ?_
    refine p_cI (av := [_, _]) ⟨mok_X11_areLaws, Or.inl ⟨281, 99, 11, 0, _, rfl, rfl, rfl, gt_99, rfl, ins_X11_areLaws, Or.inl lk_X11_281⟩⟩ (Nat.le_of_ble_eq_true rfl) (Nat.le_of_ble_eq_true rfl) rfl (fun _ h => pc_X11_areLaws_99 hl h) h (fun v1639 M1638 h => ?_)
    refine p_if_eq h 23 rfl rfl (fun _ h => ?_) (fun _ h => ?_)
    · exact p_fg (S_X11_market_99_43 hl h) ⟨Or.inr rfl, Or.inr rfl, Or.inr rfl, Or.inr rfl, Or.inl rfl, Or.inl rfl, trivial⟩
    · refine p_aload_n rfl ?_
      refine p_iload_n rfl ?_
      refine p_cI (av := [_, _]) ⟨mok_X11_areOthers, Or.inl ⟨339, 99, 11, 0, _, rfl, rfl, rfl, gt_99, rfl, ins_X11_areOthers, Or.inl lk_X11_339⟩⟩ (Nat.le_of_ble_eq_true rfl) (Nat.le_of_ble_eq_true rfl) rfl (fun _ h => pc_X11_areOthers_99 hl h) h (fun v1641 M1640 h => ?_)
      refine p_if_ne h 25 rfl rfl (fun _ h => ?_) (fun _ h => ?_)
      · exact p_fg (S_X11_market_99_43 hl h) ⟨Or.inr rfl, Or.inr rfl, Or.inr rfl, Or.inr rfl, Or.inl rfl, Or.inl rfl, trivial⟩
      · refine p_iconst cn_0 ?_
        exact p_fg (S_X11_market_99_48 hl h) ⟨Or.inr rfl, Or.inr rfl, Or.inr rfl, Or.inr rfl, Or.inl rfl, Or.inl rfl, trivial⟩
  · refine p_iconst cn_0 ?_
    exact p_iret rfl h
set_option maxRecDepth 100000 in
theorem S_X11_market_99 {l : Launch} (hl : l.stackTraces = false) {M : PM} {a1 : Int32} {a2 : Int32} {a3 : Int32} {r : PR} (h : F_X11_market_99 M a1 a2 a3 = some r) : PW l 3 Y_X11_market k_X11_market [vR 99, vI a1, vI a2, vI a3, jk, jk] [] M r := by
  unfold F_X11_market_99 at h
  refine p_aload_n rfl ?_
  refine p_iconst cn_0 ?_
  refine p_putI fk_X11_107 gt_99 rfl ?_
  refine p_aload_n rfl ?_
  refine p_iload_n rfl ?_
  refine p_cI (av := [_]) ⟨mok_X11_isDay, Or.inr ⟨247, rfl, rfl, sta_X11_isDay, Or.inl lk_X11_247⟩⟩ (Nat.le_of_ble_eq_true rfl) (Nat.le_of_ble_eq_true rfl) rfl (fun _ h => pc_X11_isDay hl h) h (fun v1643 M1642 h => ?_)
  refine p_if_ne h 9 rfl rfl (fun _ h => ?_) (fun _ h => ?_)
  · refine p_iconst cn_1 ?_
    refine p_goto 10 rfl rfl ?_
    exact p_fg (S_X11_market_99_18 hl h) ⟨Or.inr rfl, Or.inr rfl, Or.inr rfl, Or.inr rfl, Or.inl rfl, Or.inl rfl, trivial⟩
  · refine p_iconst cn_0 ?_
    exact p_fg (S_X11_market_99_18 hl h) ⟨Or.inr rfl, Or.inr rfl, Or.inr rfl, Or.inr rfl, Or.inl rfl, Or.inl rfl, trivial⟩
set_option maxRecDepth 100000 in
theorem pc_X11_market_99 {l : Launch} (hl : l.stackTraces = false) {M : PM} {a1 : Int32} {a2 : Int32} {a3 : Int32} {r : PR} (h : F_X11_market_99 M a1 a2 a3 = some r) : PC l 3 Y_X11_market [vR 99, vI a1, vI a2, vI a3] M r := pc_of hl (by decide +kernel) cok_X11_market (Nat.le_of_ble_eq_true rfl) rfl (S_X11_market_99 hl  h) rfl
def F_X11_moves_99_g122_11 (M : PM) (x1 : Nat) : Option PR := if x1 < 3 ∧ ixOK ((mI (sI M 99 36 ((mI M 99 36) + 1)) 99 36) - 1) 279 = true then some (.inl (some (.int (mG (sI M 99 36 ((mI M 99 36) + 1)) 122 x1 ((mI (sI M 99 36 ((mI M 99 36) + 1)) 99 36) - 1).toNatClampNeg))), sI M 99 36 ((mI M 99 36) + 1)) else none
def F_X11_moves_99_g122 (M : PM) (a1 : Nat) (a2 : Int32) (a3 : Int32) : Option PR := (if a3 = 0 then if a1 < 3 ∧ ixOK (mI M 99 36) 279 = true then F_X11_moves_99_g122_11 (sG M 122 a1 (mI M 99 36).toNatClampNeg a2) a1 else none else F_X11_moves_99_g122_11 M a1)
set_option maxRecDepth 100000 in
theorem S_X11_moves_99_g122_11 {l : Launch} (hl : l.stackTraces = false) {M : PM} {x1 : Nat} {r : PR} (h : F_X11_moves_99_g122_11  M x1 = some r) : PW l 0 Y_X11_moves k_X11_moves_11 [vR 99, vG 122 x1, jk, jk] [] M r := by
  unfold F_X11_moves_99_g122_11 at h
  refine p_aload_n rfl ?_
  refine p_dup rfl ?_
  refine p_getI fk_X11_345 gt_99 rfl ?_
  refine p_iconst cn_1 ?_
  refine p_iadd ?_
  refine p_putI fk_X11_345 gt_99 rfl ?_
  refine p_aload_nG rfl ?_
  refine p_aload_n rfl ?_
  refine p_getI fk_X11_345 gt_99 rfl ?_
  refine p_iconst cn_1 ?_
  refine p_isub ?_
  refine p_ialdG gt_122 h (fun h => ?_)
  exact p_iret rfl h
set_option maxRecDepth 100000 in
theorem S_X11_moves_99_g122 {l : Launch} (hl : l.stackTraces = false) {M : PM} {a1 : Nat} {a2 : Int32} {a3 : Int32} {r : PR} (h : F_X11_moves_99_g122 M a1 a2 a3 = some r) : PW l 0 Y_X11_moves k_X11_moves [vR 99, vG 122 a1, vI a2, vI a3] [] M r := by
  unfold F_X11_moves_99_g122 at h
  refine p_iload_n rfl ?_
  refine p_if_ne h 7 rfl rfl (fun _ h => ?_) (fun _ h => ?_)
  · refine p_aload_nG rfl ?_
    refine p_aload_n rfl ?_
    refine p_getI fk_X11_345 gt_99 rfl ?_
    refine p_iload_n rfl ?_
    refine p_iastG gt_122 h (fun h => ?_)
    exact p_fg (S_X11_moves_99_g122_11 hl h) ⟨Or.inr rfl, Or.inr rfl, Or.inl rfl, Or.inl rfl, trivial⟩
  · exact p_fg (S_X11_moves_99_g122_11 hl h) ⟨Or.inr rfl, Or.inr rfl, Or.inl rfl, Or.inl rfl, trivial⟩
set_option maxRecDepth 100000 in
theorem pc_X11_moves_99_g122 {l : Launch} (hl : l.stackTraces = false) {M : PM} {a1 : Nat} {a2 : Int32} {a3 : Int32} {r : PR} (h : F_X11_moves_99_g122 M a1 a2 a3 = some r) : PC l 0 Y_X11_moves [vR 99, vG 122 a1, vI a2, vI a3] M r := pc_of hl (by decide +kernel) cok_X11_moves (Nat.le_of_ble_eq_true rfl) rfl (S_X11_moves_99_g122 hl  h) rfl
def F_X11_movesAll_99_g122_204 (k195 : PM → Nat → Int32 → Int32 → Option PR) : Nat → PM → Nat → Int32 → Int32 → Int32 → Option PR
  | 0, _, _, _, _, _ => none
  | n + 1, M, x1, x2, x3, x4 => (if 2 ≤ x4 then lt (x3 + 1) fun y1644 => k195 M x1 x2 y1644 else if ixOK x3 8 = true then if ixOK x3 8 = true then if x3.toNatClampNeg < 8 ∧ ixOK x4 2 = true then cI (F_X11_moves_99_g122 M x1 (mG M 121 x3.toNatClampNeg x4.toNatClampNeg) x2) fun v1646 M1645 => if x3.toNatClampNeg < 8 ∧ ixOK x4 2 = true then lt (x4 + 1) fun y1647 => F_X11_movesAll_99_g122_204 k195 n (sG M1645 121 x3.toNatClampNeg x4.toNatClampNeg v1646) x1 x2 x3 y1647 else none else none else none else none)
def F_X11_movesAll_99_g122_195 : Nat → PM → Nat → Int32 → Int32 → Option PR
  | 0, _, _, _, _ => none
  | n + 1, M, x1, x2, x3 => (if 8 ≤ x3 then some (.inl none, M) else F_X11_movesAll_99_g122_204 (F_X11_movesAll_99_g122_195 n) FUEL M x1 x2 x3 0)
def F_X11_movesAll_99_g122_151 (k103 : PM → Nat → Int32 → Int32 → Option PR) : Nat → PM → Nat → Int32 → Int32 → Int32 → Option PR
  | 0, _, _, _, _, _ => none
  | n + 1, M, x1, x2, x3, x4 => (if 4 ≤ x4 then lt (x3 + 1) fun y1648 => k103 M x1 x2 y1648 else if ixOK x3 20 = true then if ixOK x3 20 = true then if x3.toNatClampNeg < 20 ∧ ixOK x4 4 = true then cI (F_X11_moves_99_g122 M x1 (mG M 120 x3.toNatClampNeg x4.toNatClampNeg) x2) fun v1650 M1649 => if x3.toNatClampNeg < 20 ∧ ixOK x4 4 = true then lt (x4 + 1) fun y1651 => F_X11_movesAll_99_g122_151 k103 n (sG M1649 120 x3.toNatClampNeg x4.toNatClampNeg v1650) x1 x2 x3 y1651 else none else none else none else none)
def F_X11_movesAll_99_g122_112 (k103 : PM → Nat → Int32 → Int32 → Option PR) : Nat → PM → Nat → Int32 → Int32 → Int32 → Option PR
  | 0, _, _, _, _, _ => none
  | n + 1, M, x1, x2, x3, x4 => (if 3 ≤ x4 then F_X11_movesAll_99_g122_151 k103 FUEL M x1 x2 x3 0 else if ixOK x3 20 = true then if ixOK x3 20 = true then if x3.toNatClampNeg < 20 ∧ ixOK x4 3 = true then cI (F_X11_moves_99_g122 M x1 (mG M 119 x3.toNatClampNeg x4.toNatClampNeg) x2) fun v1653 M1652 => if x3.toNatClampNeg < 20 ∧ ixOK x4 3 = true then lt (x4 + 1) fun y1654 => F_X11_movesAll_99_g122_112 k103 n (sG M1652 119 x3.toNatClampNeg x4.toNatClampNeg v1653) x1 x2 x3 y1654 else none else none else none else none)
def F_X11_movesAll_99_g122_103 : Nat → PM → Nat → Int32 → Int32 → Option PR
  | 0, _, _, _, _ => none
  | n + 1, M, x1, x2, x3 => (if 20 ≤ x3 then F_X11_movesAll_99_g122_195 FUEL M x1 x2 0 else F_X11_movesAll_99_g122_112 (F_X11_movesAll_99_g122_103 n) FUEL M x1 x2 x3 0)
def F_X11_movesAll_99_g122_58 (k49 : PM → Nat → Int32 → Int32 → Option PR) : Nat → PM → Nat → Int32 → Int32 → Int32 → Option PR
  | 0, _, _, _, _, _ => none
  | n + 1, M, x1, x2, x3, x4 => (if 12 ≤ x4 then lt (x3 + 1) fun y1655 => k49 M x1 x2 y1655 else if ixOK x3 10 = true then if ixOK x3 10 = true then if x3.toNatClampNeg < 10 ∧ ixOK x4 12 = true then cI (F_X11_moves_99_g122 M x1 (mG M 115 x3.toNatClampNeg x4.toNatClampNeg) x2) fun v1657 M1656 => if x3.toNatClampNeg < 10 ∧ ixOK x4 12 = true then lt (x4 + 1) fun y1658 => F_X11_movesAll_99_g122_58 k49 n (sG M1656 115 x3.toNatClampNeg x4.toNatClampNeg v1657) x1 x2 x3 y1658 else none else none else none else none)
def F_X11_movesAll_99_g122_49 : Nat → PM → Nat → Int32 → Int32 → Option PR
  | 0, _, _, _, _ => none
  | n + 1, M, x1, x2, x3 => (if 10 ≤ x3 then F_X11_movesAll_99_g122_103 FUEL M x1 x2 0 else F_X11_movesAll_99_g122_58 (F_X11_movesAll_99_g122_49 n) FUEL M x1 x2 x3 0)
def F_X11_movesAll_99_g122 (M : PM) (a1 : Nat) (a2 : Int32) : Option PR := cI (F_X11_moves_99_g122 (sI M 99 36 0) a1 (mI (sI M 99 36 0) 99 32) a2) fun v1660 M1659 => cI (F_X11_moves_99_g122 (sI M1659 99 32 v1660) a1 (mI (sI M1659 99 32 v1660) 99 33) a2) fun v1662 M1661 => cI (F_X11_moves_99_g122 (sI M1661 99 33 v1662) a1 (mI (sI M1661 99 33 v1662) 99 34) a2) fun v1664 M1663 => F_X11_movesAll_99_g122_49 FUEL (sI M1663 99 34 v1664) a1 a2 0
set_option maxRecDepth 100000 in
theorem S_X11_movesAll_99_g122_204 {l : Launch} (hl : l.stackTraces = false) {k195 : PM → Nat → Int32 → Int32 → Option PR} (hk195 : ∀ {M : PM} {x1 : Nat} {x2 : Int32} {x3 : Int32} {r : PR}, k195 M x1 x2 x3 = some r → PW l 1 Y_X11_movesAll k_X11_movesAll_195 [vR 99, vG 122 x1, vI x2, vI x3, jk] [] M r) : ∀ (n : Nat) {M : PM} {x1 : Nat} {x2 : Int32} {x3 : Int32} {x4 : Int32} {r : PR}, F_X11_movesAll_99_g122_204 k195 n M x1 x2 x3 x4 = some r → PW l 1 Y_X11_movesAll k_X11_movesAll_204 [vR 99, vG 122 x1, vI x2, vI x3, vI x4] [] M r := by
  intro n
  induction n with
  | zero => intro M x1 x2 x3 x4 r h; exact nomatch (show (none : Option PR) = some r from h)
  | succ n ih =>
    intro M x1 x2 x3 x4 r h
    rw [F_X11_movesAll_99_g122_204] at h
    refine p_iload rfl ?_
    refine p_iconst cn_2 ?_
    refine p_icmp_ge h 138 rfl rfl (fun _ h => ?_) (fun _ h => ?_)
    · have h := lt_h h
      refine p_iinc (Nat.le_of_ble_eq_true rfl) rfl (ci_1 _) rfl ?_
      refine p_goto 112 rfl rfl ?_
      exact p_fg (hk195 h) ⟨Or.inr rfl, Or.inr rfl, Or.inr rfl, Or.inr rfl, Or.inl rfl, trivial⟩
    · refine p_aload_n rfl ?_
      refine p_getR fk_X11_80 gt_99 rfl rfl ?_
      refine p_iload_n rfl ?_
      refine p_aldG gt_121 h (fun h => ?_)
      refine p_iload rfl ?_
      refine p_aload_n rfl ?_
      refine p_aload_nG rfl ?_
      refine p_aload_n rfl ?_
      refine p_getR fk_X11_80 gt_99 rfl rfl ?_
      refine p_iload_n rfl ?_
      refine p_aldG gt_121 h (fun h => ?_)
      refine p_iload rfl ?_
      refine p_ialdG gt_121 h (fun h => ?_)
      refine p_iload_n rfl ?_
      refine p_cI (av := [_, _, _, _]) ⟨mok_X11_moves, Or.inl ⟨348, 99, 11, 0, _, rfl, rfl, rfl, gt_99, rfl, ins_X11_moves, Or.inl lk_X11_348⟩⟩ (Nat.le_of_ble_eq_true rfl) (Nat.le_of_ble_eq_true rfl) rfl (fun _ h => pc_X11_moves_99_g122 hl h) h (fun v1646 M1645 h => ?_)
      refine p_iastG gt_121 h (fun h => ?_)
      have h := lt_h h
      refine p_iinc (Nat.le_of_ble_eq_true rfl) rfl (ci_1 _) rfl ?_
      refine p_goto 117 rfl rfl ?_
      exact p_fg (ih h) ⟨Or.inr rfl, Or.inr rfl, Or.inr rfl, Or.inr rfl, Or.inr rfl, trivial⟩
set_option maxRecDepth 100000 in
theorem S_X11_movesAll_99_g122_195 {l : Launch} (hl : l.stackTraces = false) : ∀ (n : Nat) {M : PM} {x1 : Nat} {x2 : Int32} {x3 : Int32} {r : PR}, F_X11_movesAll_99_g122_195  n M x1 x2 x3 = some r → PW l 1 Y_X11_movesAll k_X11_movesAll_195 [vR 99, vG 122 x1, vI x2, vI x3, jk] [] M r := by
  intro n
  induction n with
  | zero => intro M x1 x2 x3 r h; exact nomatch (show (none : Option PR) = some r from h)
  | succ n ih =>
    intro M x1 x2 x3 r h
    rw [F_X11_movesAll_99_g122_195] at h
    refine p_iload_n rfl ?_
    refine p_bipush cb_8 ?_
    refine p_icmp_ge h 140 rfl rfl (fun _ h => ?_) (fun _ h => ?_)
    · exact p_ret rfl h
    · refine p_iconst cn_0 ?_
      refine p_istore (Nat.le_of_ble_eq_true rfl) rfl ?_
      exact p_fg (S_X11_movesAll_99_g122_204 hl (fun h => ih h) FUEL h) ⟨Or.inr rfl, Or.inr rfl, Or.inr rfl, Or.inr rfl, Or.inr rfl, trivial⟩
set_option maxRecDepth 100000 in
theorem S_X11_movesAll_99_g122_151 {l : Launch} (hl : l.stackTraces = false) {k103 : PM → Nat → Int32 → Int32 → Option PR} (hk103 : ∀ {M : PM} {x1 : Nat} {x2 : Int32} {x3 : Int32} {r : PR}, k103 M x1 x2 x3 = some r → PW l 1 Y_X11_movesAll k_X11_movesAll_103 [vR 99, vG 122 x1, vI x2, vI x3, jk] [] M r) : ∀ (n : Nat) {M : PM} {x1 : Nat} {x2 : Int32} {x3 : Int32} {x4 : Int32} {r : PR}, F_X11_movesAll_99_g122_151 k103 n M x1 x2 x3 x4 = some r → PW l 1 Y_X11_movesAll k_X11_movesAll_151 [vR 99, vG 122 x1, vI x2, vI x3, vI x4] [] M r := by
  intro n
  induction n with
  | zero => intro M x1 x2 x3 x4 r h; exact nomatch (show (none : Option PR) = some r from h)
  | succ n ih =>
    intro M x1 x2 x3 x4 r h
    rw [F_X11_movesAll_99_g122_151] at h
    refine p_iload rfl ?_
    refine p_iconst cn_4 ?_
    refine p_icmp_ge h 108 rfl rfl (fun _ h => ?_) (fun _ h => ?_)
    · have h := lt_h h
      refine p_iinc (Nat.le_of_ble_eq_true rfl) rfl (ci_1 _) rfl ?_
      refine p_goto 59 rfl rfl ?_
      exact p_fg (hk103 h) ⟨Or.inr rfl, Or.inr rfl, Or.inr rfl, Or.inr rfl, Or.inl rfl, trivial⟩
    · refine p_aload_n rfl ?_
      refine p_getR fk_X11_77 gt_99 rfl rfl ?_
      refine p_iload_n rfl ?_
      refine p_aldG gt_120 h (fun h => ?_)
      refine p_iload rfl ?_
      refine p_aload_n rfl ?_
      refine p_aload_nG rfl ?_
      refine p_aload_n rfl ?_
      refine p_getR fk_X11_77 gt_99 rfl rfl ?_
      refine p_iload_n rfl ?_
      refine p_aldG gt_120 h (fun h => ?_)
      refine p_iload rfl ?_
      refine p_ialdG gt_120 h (fun h => ?_)
      refine p_iload_n rfl ?_
      refine p_cI (av := [_, _, _, _]) ⟨mok_X11_moves, Or.inl ⟨348, 99, 11, 0, _, rfl, rfl, rfl, gt_99, rfl, ins_X11_moves, Or.inl lk_X11_348⟩⟩ (Nat.le_of_ble_eq_true rfl) (Nat.le_of_ble_eq_true rfl) rfl (fun _ h => pc_X11_moves_99_g122 hl h) h (fun v1650 M1649 h => ?_)
      refine p_iastG gt_120 h (fun h => ?_)
      have h := lt_h h
      refine p_iinc (Nat.le_of_ble_eq_true rfl) rfl (ci_1 _) rfl ?_
      refine p_goto 87 rfl rfl ?_
      exact p_fg (ih h) ⟨Or.inr rfl, Or.inr rfl, Or.inr rfl, Or.inr rfl, Or.inr rfl, trivial⟩
set_option maxRecDepth 100000 in
theorem S_X11_movesAll_99_g122_112 {l : Launch} (hl : l.stackTraces = false) {k103 : PM → Nat → Int32 → Int32 → Option PR} (hk103 : ∀ {M : PM} {x1 : Nat} {x2 : Int32} {x3 : Int32} {r : PR}, k103 M x1 x2 x3 = some r → PW l 1 Y_X11_movesAll k_X11_movesAll_103 [vR 99, vG 122 x1, vI x2, vI x3, jk] [] M r) : ∀ (n : Nat) {M : PM} {x1 : Nat} {x2 : Int32} {x3 : Int32} {x4 : Int32} {r : PR}, F_X11_movesAll_99_g122_112 k103 n M x1 x2 x3 x4 = some r → PW l 1 Y_X11_movesAll k_X11_movesAll_112 [vR 99, vG 122 x1, vI x2, vI x3, vI x4] [] M r := by
  intro n
  induction n with
  | zero => intro M x1 x2 x3 x4 r h; exact nomatch (show (none : Option PR) = some r from h)
  | succ n ih =>
    intro M x1 x2 x3 x4 r h
    rw [F_X11_movesAll_99_g122_112] at h
    refine p_iload rfl ?_
    refine p_iconst cn_3 ?_
    refine p_icmp_ge h 85 rfl rfl (fun _ h => ?_) (fun _ h => ?_)
    · refine p_iconst cn_0 ?_
      refine p_istore (Nat.le_of_ble_eq_true rfl) rfl ?_
      exact p_fg (S_X11_movesAll_99_g122_151 hl hk103 FUEL h) ⟨Or.inr rfl, Or.inr rfl, Or.inr rfl, Or.inr rfl, Or.inr rfl, trivial⟩
    · refine p_aload_n rfl ?_
      refine p_getR fk_X11_74 gt_99 rfl rfl ?_
      refine p_iload_n rfl ?_
      refine p_aldG gt_119 h (fun h => ?_)
      refine p_iload rfl ?_
      refine p_aload_n rfl ?_
      refine p_aload_nG rfl ?_
      refine p_aload_n rfl ?_
      refine p_getR fk_X11_74 gt_99 rfl rfl ?_
      refine p_iload_n rfl ?_
      refine p_aldG gt_119 h (fun h => ?_)
      refine p_iload rfl ?_
      refine p_ialdG gt_119 h (fun h => ?_)
      refine p_iload_n rfl ?_
      refine p_cI (av := [_, _, _, _]) ⟨mok_X11_moves, Or.inl ⟨348, 99, 11, 0, _, rfl, rfl, rfl, gt_99, rfl, ins_X11_moves, Or.inl lk_X11_348⟩⟩ (Nat.le_of_ble_eq_true rfl) (Nat.le_of_ble_eq_true rfl) rfl (fun _ h => pc_X11_moves_99_g122 hl h) h (fun v1653 M1652 h => ?_)
      refine p_iastG gt_119 h (fun h => ?_)
      have h := lt_h h
      refine p_iinc (Nat.le_of_ble_eq_true rfl) rfl (ci_1 _) rfl ?_
      refine p_goto 64 rfl rfl ?_
      exact p_fg (ih h) ⟨Or.inr rfl, Or.inr rfl, Or.inr rfl, Or.inr rfl, Or.inr rfl, trivial⟩
set_option maxRecDepth 100000 in
theorem S_X11_movesAll_99_g122_103 {l : Launch} (hl : l.stackTraces = false) : ∀ (n : Nat) {M : PM} {x1 : Nat} {x2 : Int32} {x3 : Int32} {r : PR}, F_X11_movesAll_99_g122_103  n M x1 x2 x3 = some r → PW l 1 Y_X11_movesAll k_X11_movesAll_103 [vR 99, vG 122 x1, vI x2, vI x3, jk] [] M r := by
  intro n
  induction n with
  | zero => intro M x1 x2 x3 r h; exact nomatch (show (none : Option PR) = some r from h)
  | succ n ih =>
    intro M x1 x2 x3 r h
    rw [F_X11_movesAll_99_g122_103] at h
    refine p_iload_n rfl ?_
    refine p_bipush cb_20 ?_
    refine p_icmp_ge h 110 rfl rfl (fun _ h => ?_) (fun _ h => ?_)
    · refine p_iconst cn_0 ?_
      refine p_istore_n (Nat.le_of_ble_eq_true rfl) rfl ?_
      exact p_fg (S_X11_movesAll_99_g122_195 hl FUEL h) ⟨Or.inr rfl, Or.inr rfl, Or.inr rfl, Or.inr rfl, Or.inl rfl, trivial⟩
    · refine p_iconst cn_0 ?_
      refine p_istore (Nat.le_of_ble_eq_true rfl) rfl ?_
      exact p_fg (S_X11_movesAll_99_g122_112 hl (fun h => ih h) FUEL h) ⟨Or.inr rfl, Or.inr rfl, Or.inr rfl, Or.inr rfl, Or.inr rfl, trivial⟩
set_option maxRecDepth 100000 in
theorem S_X11_movesAll_99_g122_58 {l : Launch} (hl : l.stackTraces = false) {k49 : PM → Nat → Int32 → Int32 → Option PR} (hk49 : ∀ {M : PM} {x1 : Nat} {x2 : Int32} {x3 : Int32} {r : PR}, k49 M x1 x2 x3 = some r → PW l 1 Y_X11_movesAll k_X11_movesAll_49 [vR 99, vG 122 x1, vI x2, vI x3, jk] [] M r) : ∀ (n : Nat) {M : PM} {x1 : Nat} {x2 : Int32} {x3 : Int32} {x4 : Int32} {r : PR}, F_X11_movesAll_99_g122_58 k49 n M x1 x2 x3 x4 = some r → PW l 1 Y_X11_movesAll k_X11_movesAll_58 [vR 99, vG 122 x1, vI x2, vI x3, vI x4] [] M r := by
  intro n
  induction n with
  | zero => intro M x1 x2 x3 x4 r h; exact nomatch (show (none : Option PR) = some r from h)
  | succ n ih =>
    intro M x1 x2 x3 x4 r h
    rw [F_X11_movesAll_99_g122_58] at h
    refine p_iload rfl ?_
    refine p_bipush cb_12 ?_
    refine p_icmp_ge h 55 rfl rfl (fun _ h => ?_) (fun _ h => ?_)
    · have h := lt_h h
      refine p_iinc (Nat.le_of_ble_eq_true rfl) rfl (ci_1 _) rfl ?_
      refine p_goto 29 rfl rfl ?_
      exact p_fg (hk49 h) ⟨Or.inr rfl, Or.inr rfl, Or.inr rfl, Or.inr rfl, Or.inl rfl, trivial⟩
    · refine p_aload_n rfl ?_
      refine p_getR fk_X11_61 gt_99 rfl rfl ?_
      refine p_iload_n rfl ?_
      refine p_aldG gt_115 h (fun h => ?_)
      refine p_iload rfl ?_
      refine p_aload_n rfl ?_
      refine p_aload_nG rfl ?_
      refine p_aload_n rfl ?_
      refine p_getR fk_X11_61 gt_99 rfl rfl ?_
      refine p_iload_n rfl ?_
      refine p_aldG gt_115 h (fun h => ?_)
      refine p_iload rfl ?_
      refine p_ialdG gt_115 h (fun h => ?_)
      refine p_iload_n rfl ?_
      refine p_cI (av := [_, _, _, _]) ⟨mok_X11_moves, Or.inl ⟨348, 99, 11, 0, _, rfl, rfl, rfl, gt_99, rfl, ins_X11_moves, Or.inl lk_X11_348⟩⟩ (Nat.le_of_ble_eq_true rfl) (Nat.le_of_ble_eq_true rfl) rfl (fun _ h => pc_X11_moves_99_g122 hl h) h (fun v1657 M1656 h => ?_)
      refine p_iastG gt_115 h (fun h => ?_)
      have h := lt_h h
      refine p_iinc (Nat.le_of_ble_eq_true rfl) rfl (ci_1 _) rfl ?_
      refine p_goto 34 rfl rfl ?_
      exact p_fg (ih h) ⟨Or.inr rfl, Or.inr rfl, Or.inr rfl, Or.inr rfl, Or.inr rfl, trivial⟩
set_option maxRecDepth 100000 in
theorem S_X11_movesAll_99_g122_49 {l : Launch} (hl : l.stackTraces = false) : ∀ (n : Nat) {M : PM} {x1 : Nat} {x2 : Int32} {x3 : Int32} {r : PR}, F_X11_movesAll_99_g122_49  n M x1 x2 x3 = some r → PW l 1 Y_X11_movesAll k_X11_movesAll_49 [vR 99, vG 122 x1, vI x2, vI x3, jk] [] M r := by
  intro n
  induction n with
  | zero => intro M x1 x2 x3 r h; exact nomatch (show (none : Option PR) = some r from h)
  | succ n ih =>
    intro M x1 x2 x3 r h
    rw [F_X11_movesAll_99_g122_49] at h
    refine p_iload_n rfl ?_
    refine p_bipush cb_10 ?_
    refine p_icmp_ge h 57 rfl rfl (fun _ h => ?_) (fun _ h => ?_)
    · refine p_iconst cn_0 ?_
      refine p_istore_n (Nat.le_of_ble_eq_true rfl) rfl ?_
      exact p_fg (S_X11_movesAll_99_g122_103 hl FUEL h) ⟨Or.inr rfl, Or.inr rfl, Or.inr rfl, Or.inr rfl, Or.inl rfl, trivial⟩
    · refine p_iconst cn_0 ?_
      refine p_istore (Nat.le_of_ble_eq_true rfl) rfl ?_
      exact p_fg (S_X11_movesAll_99_g122_58 hl (fun h => ih h) FUEL h) ⟨Or.inr rfl, Or.inr rfl, Or.inr rfl, Or.inr rfl, Or.inr rfl, trivial⟩
set_option maxRecDepth 100000 in
theorem S_X11_movesAll_99_g122 {l : Launch} (hl : l.stackTraces = false) {M : PM} {a1 : Nat} {a2 : Int32} {r : PR} (h : F_X11_movesAll_99_g122 M a1 a2 = some r) : PW l 1 Y_X11_movesAll k_X11_movesAll [vR 99, vG 122 a1, vI a2, jk, jk] [] M r := by
  unfold F_X11_movesAll_99_g122 at h
  refine p_aload_n rfl ?_
  refine p_iconst cn_0 ?_
  refine p_putI fk_X11_345 gt_99 rfl ?_
  refine p_aload_n rfl ?_
  refine p_aload_n rfl ?_
  refine p_aload_nG rfl ?_
  refine p_aload_n rfl ?_
  refine p_getI fk_X11_196 gt_99 rfl ?_
  refine p_iload_n rfl ?_
  refine p_cI (av := [_, _, _, _]) ⟨mok_X11_moves, Or.inl ⟨348, 99, 11, 0, _, rfl, rfl, rfl, gt_99, rfl, ins_X11_moves, Or.inl lk_X11_348⟩⟩ (Nat.le_of_ble_eq_true rfl) (Nat.le_of_ble_eq_true rfl) rfl (fun _ h => pc_X11_moves_99_g122 hl h) h (fun v1660 M1659 h => ?_)
  refine p_putI fk_X11_196 gt_99 rfl ?_
  refine p_aload_n rfl ?_
  refine p_aload_n rfl ?_
  refine p_aload_nG rfl ?_
  refine p_aload_n rfl ?_
  refine p_getI fk_X11_199 gt_99 rfl ?_
  refine p_iload_n rfl ?_
  refine p_cI (av := [_, _, _, _]) ⟨mok_X11_moves, Or.inl ⟨348, 99, 11, 0, _, rfl, rfl, rfl, gt_99, rfl, ins_X11_moves, Or.inl lk_X11_348⟩⟩ (Nat.le_of_ble_eq_true rfl) (Nat.le_of_ble_eq_true rfl) rfl (fun _ h => pc_X11_moves_99_g122 hl h) h (fun v1662 M1661 h => ?_)
  refine p_putI fk_X11_199 gt_99 rfl ?_
  refine p_aload_n rfl ?_
  refine p_aload_n rfl ?_
  refine p_aload_nG rfl ?_
  refine p_aload_n rfl ?_
  refine p_getI fk_X11_202 gt_99 rfl ?_
  refine p_iload_n rfl ?_
  refine p_cI (av := [_, _, _, _]) ⟨mok_X11_moves, Or.inl ⟨348, 99, 11, 0, _, rfl, rfl, rfl, gt_99, rfl, ins_X11_moves, Or.inl lk_X11_348⟩⟩ (Nat.le_of_ble_eq_true rfl) (Nat.le_of_ble_eq_true rfl) rfl (fun _ h => pc_X11_moves_99_g122 hl h) h (fun v1664 M1663 h => ?_)
  refine p_putI fk_X11_202 gt_99 rfl ?_
  refine p_iconst cn_0 ?_
  refine p_istore_n (Nat.le_of_ble_eq_true rfl) rfl ?_
  exact p_fg (S_X11_movesAll_99_g122_49 hl FUEL h) ⟨Or.inr rfl, Or.inr rfl, Or.inr rfl, Or.inr rfl, Or.inl rfl, trivial⟩
set_option maxRecDepth 100000 in
theorem pc_X11_movesAll_99_g122 {l : Launch} (hl : l.stackTraces = false) {M : PM} {a1 : Nat} {a2 : Int32} {r : PR} (h : F_X11_movesAll_99_g122 M a1 a2 = some r) : PC l 1 Y_X11_movesAll [vR 99, vG 122 a1, vI a2] M r := pc_of hl (by decide +kernel) cok_X11_movesAll (Nat.le_of_ble_eq_true rfl) rfl (S_X11_movesAll_99_g122 hl  h) rfl
def F_X11_image_99 (M : PM)  : Option PR := (if mI (sI M 99 0 0) 99 35 = 3 then some (.inl (some (.int (-1))), sI M 99 0 0) else if ixOK (mI (sI M 99 0 0) 99 35) 3 = true then cV (F_X11_movesAll_99_g122 (sI M 99 0 0) ((mI (sI M 99 0 0) 99 35).toNatClampNeg) 0) fun M1665 => some (.inl (some (.int (mI (sI M1665 99 35 ((mI M1665 99 35) + 1)) 99 35))), sI M1665 99 35 ((mI M1665 99 35) + 1)) else none)
set_option maxRecDepth 100000 in
theorem S_X11_image_99 {l : Launch} (hl : l.stackTraces = false) {M : PM}  {r : PR} (h : F_X11_image_99 M  = some r) : PW l 2 Y_X11_image k_X11_image [vR 99] [] M r := by
  unfold F_X11_image_99 at h
  refine p_aload_n rfl ?_
  refine p_iconst cn_0 ?_
  refine p_putI fk_X11_107 gt_99 rfl ?_
  refine p_aload_n rfl ?_
  refine p_getI fk_X11_205 gt_99 rfl ?_
  refine p_iconst cn_3 ?_
  refine p_icmp_ne h 9 rfl rfl (fun _ h => ?_) (fun _ h => ?_)
  · refine p_iconst cn_m1 ?_
    exact p_iret rfl h
  · refine p_aload_n rfl ?_
    refine p_aload_n rfl ?_
    refine p_getR fk_X11_83 gt_99 rfl rfl ?_
    refine p_aload_n rfl ?_
    refine p_getI fk_X11_205 gt_99 rfl ?_
    refine p_aldG gt_122 h (fun h => ?_)
    refine p_iconst cn_0 ?_
    refine p_cV (av := [_, _, _]) ⟨mok_X11_movesAll, Or.inl ⟨352, 99, 11, 0, _, rfl, rfl, rfl, gt_99, rfl, ins_X11_movesAll, Or.inl lk_X11_352⟩⟩ (Nat.le_of_ble_eq_true rfl) (Nat.le_of_ble_eq_true rfl) rfl (fun _ h => pc_X11_movesAll_99_g122 hl h) h (fun M1665 h => ?_)
    refine p_aload_n rfl ?_
    refine p_dup rfl ?_
    refine p_getI fk_X11_205 gt_99 rfl ?_
    refine p_iconst cn_1 ?_
    refine p_iadd ?_
    refine p_putI fk_X11_205 gt_99 rfl ?_
    refine p_aload_n rfl ?_
    refine p_getI fk_X11_205 gt_99 rfl ?_
    exact p_iret rfl h
set_option maxRecDepth 100000 in
theorem pc_X11_image_99 {l : Launch} (hl : l.stackTraces = false) {M : PM}  {r : PR} (h : F_X11_image_99 M  = some r) : PC l 2 Y_X11_image [vR 99] M r := pc_of hl (by decide +kernel) cok_X11_image (Nat.le_of_ble_eq_true rfl) rfl (S_X11_image_99 hl  h) rfl
def F_X11_restore_99 (M : PM)  : Option PR := (if mI (sI M 99 0 0) 99 35 = 0 then some (.inl (some (.int (-1))), sI M 99 0 0) else if ixOK (mI (sI (sI M 99 0 0) 99 35 ((mI (sI M 99 0 0) 99 35) - 1)) 99 35) 3 = true then cV (F_X11_movesAll_99_g122 (sI (sI M 99 0 0) 99 35 ((mI (sI M 99 0 0) 99 35) - 1)) ((mI (sI (sI M 99 0 0) 99 35 ((mI (sI M 99 0 0) 99 35) - 1)) 99 35).toNatClampNeg) 1) fun M1666 => some (.inl (some (.int (mI M1666 99 35))), M1666) else none)
set_option maxRecDepth 100000 in
theorem S_X11_restore_99 {l : Launch} (hl : l.stackTraces = false) {M : PM}  {r : PR} (h : F_X11_restore_99 M  = some r) : PW l 2 Y_X11_restore k_X11_restore [vR 99] [] M r := by
  unfold F_X11_restore_99 at h
  refine p_aload_n rfl ?_
  refine p_iconst cn_0 ?_
  refine p_putI fk_X11_107 gt_99 rfl ?_
  refine p_aload_n rfl ?_
  refine p_getI fk_X11_205 gt_99 rfl ?_
  refine p_if_ne h 8 rfl rfl (fun _ h => ?_) (fun _ h => ?_)
  · refine p_iconst cn_m1 ?_
    exact p_iret rfl h
  · refine p_aload_n rfl ?_
    refine p_dup rfl ?_
    refine p_getI fk_X11_205 gt_99 rfl ?_
    refine p_iconst cn_1 ?_
    refine p_isub ?_
    refine p_putI fk_X11_205 gt_99 rfl ?_
    refine p_aload_n rfl ?_
    refine p_aload_n rfl ?_
    refine p_getR fk_X11_83 gt_99 rfl rfl ?_
    refine p_aload_n rfl ?_
    refine p_getI fk_X11_205 gt_99 rfl ?_
    refine p_aldG gt_122 h (fun h => ?_)
    refine p_iconst cn_1 ?_
    refine p_cV (av := [_, _, _]) ⟨mok_X11_movesAll, Or.inl ⟨352, 99, 11, 0, _, rfl, rfl, rfl, gt_99, rfl, ins_X11_movesAll, Or.inl lk_X11_352⟩⟩ (Nat.le_of_ble_eq_true rfl) (Nat.le_of_ble_eq_true rfl) rfl (fun _ h => pc_X11_movesAll_99_g122 hl h) h (fun M1666 h => ?_)
    refine p_aload_n rfl ?_
    refine p_getI fk_X11_205 gt_99 rfl ?_
    exact p_iret rfl h
set_option maxRecDepth 100000 in
theorem pc_X11_restore_99 {l : Launch} (hl : l.stackTraces = false) {M : PM}  {r : PR} (h : F_X11_restore_99 M  = some r) : PC l 2 Y_X11_restore [vR 99] M r := pc_of hl (by decide +kernel) cok_X11_restore (Nat.le_of_ble_eq_true rfl) rfl (S_X11_restore_99 hl  h) rfl
def F_X11_status_99 (M : PM) (a1 : Int32) : Option PR := cI (F_X11_in (sI M 99 0 0) a1 0 2) fun v1668 M1667 => (if v1668 = 0 then some (.inl (some (.int (-1))), M1667) else if ixOK a1 3 = true then some (.inl (some (.int (mA M1667 101 a1.toNatClampNeg))), M1667) else none)
set_option maxRecDepth 100000 in
theorem S_X11_status_99 {l : Launch} (hl : l.stackTraces = false) {M : PM} {a1 : Int32} {r : PR} (h : F_X11_status_99 M a1 = some r) : PW l 1 Y_X11_status k_X11_status [vR 99, vI a1] [] M r := by
  unfold F_X11_status_99 at h
  refine p_aload_n rfl ?_
  refine p_iconst cn_0 ?_
  refine p_putI fk_X11_107 gt_99 rfl ?_
  refine p_iload_n rfl ?_
  refine p_iconst cn_0 ?_
  refine p_iconst cn_2 ?_
  refine p_cI (av := [_, _, _]) ⟨mok_X11_in, Or.inr ⟨141, rfl, rfl, sta_X11_in, Or.inl lk_X11_141⟩⟩ (Nat.le_of_ble_eq_true rfl) (Nat.le_of_ble_eq_true rfl) rfl (fun _ h => pc_X11_in hl h) h (fun v1668 M1667 h => ?_)
  refine p_if_eq h 13 rfl rfl (fun _ h => ?_) (fun _ h => ?_)
  · refine p_iconst cn_m1 ?_
    exact p_iret rfl h
  · refine p_aload_n rfl ?_
    refine p_getR fk_X11_17 gt_99 rfl rfl ?_
    refine p_iload_n rfl ?_
    refine p_iald gt_101 h (fun h => ?_)
    refine p_goto 14 rfl rfl ?_
    exact p_iret rfl h
set_option maxRecDepth 100000 in
theorem pc_X11_status_99 {l : Launch} (hl : l.stackTraces = false) {M : PM} {a1 : Int32} {r : PR} (h : F_X11_status_99 M a1 = some r) : PC l 1 Y_X11_status [vR 99, vI a1] M r := pc_of hl (by decide +kernel) cok_X11_status (Nat.le_of_ble_eq_true rfl) rfl (S_X11_status_99 hl  h) rfl
def F_X11_sums_99 (M : PM) (a1 : Int32) : Option PR := (if a1 = 0 then some (.inl (some (.int (mI (sI M 99 0 0) 99 32))), sI M 99 0 0) else if a1 = 1 then some (.inl (some (.int (mI (sI M 99 0 0) 99 33))), sI M 99 0 0) else if a1 = 2 then some (.inl (some (.int (mI (sI M 99 0 0) 99 34))), sI M 99 0 0) else if a1 = 3 then some (.inl (some (.int (mI (sI M 99 0 0) 99 35))), sI M 99 0 0) else if a1 = 4 then some (.inl (some (.int (mI (sI M 99 0 0) 99 1))), sI M 99 0 0) else some (.inl (some (.int (-1))), sI M 99 0 0))
set_option maxRecDepth 100000 in
theorem S_X11_sums_99 {l : Launch} (hl : l.stackTraces = false) {M : PM} {a1 : Int32} {r : PR} (h : F_X11_sums_99 M a1 = some r) : PW l 0 Y_X11_sums k_X11_sums [vR 99, vI a1] [] M r := by
  unfold F_X11_sums_99 at h
  refine p_aload_n rfl ?_
  refine p_iconst cn_0 ?_
  refine p_putI fk_X11_107 gt_99 rfl ?_
  refine p_iload_n rfl ?_
  refine p_ts5 h 5 rfl rfl 8 rfl rfl 11 rfl rfl 14 rfl rfl 17 rfl rfl 20 rfl rfl (fun _ h => ?_) (fun _ h => ?_) (fun _ h => ?_) (fun _ h => ?_) (fun _ h => ?_) (fun h => ?_)
  · refine p_aload_n rfl ?_
    refine p_getI fk_X11_196 gt_99 rfl ?_
    exact p_iret rfl h
  · refine p_aload_n rfl ?_
    refine p_getI fk_X11_199 gt_99 rfl ?_
    exact p_iret rfl h
  · refine p_aload_n rfl ?_
    refine p_getI fk_X11_202 gt_99 rfl ?_
    exact p_iret rfl h
  · refine p_aload_n rfl ?_
    refine p_getI fk_X11_205 gt_99 rfl ?_
    exact p_iret rfl h
  · refine p_aload_n rfl ?_
    refine p_getI fk_X11_110 gt_99 rfl ?_
    exact p_iret rfl h
  · refine p_iconst cn_m1 ?_
    exact p_iret rfl h
set_option maxRecDepth 100000 in
theorem pc_X11_sums_99 {l : Launch} (hl : l.stackTraces = false) {M : PM} {a1 : Int32} {r : PR} (h : F_X11_sums_99 M a1 = some r) : PC l 0 Y_X11_sums [vR 99, vI a1] M r := pc_of hl (by decide +kernel) cok_X11_sums (Nat.le_of_ble_eq_true rfl) rfl (S_X11_sums_99 hl  h) rfl
