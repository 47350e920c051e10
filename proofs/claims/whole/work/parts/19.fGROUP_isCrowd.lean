def G_isCrowd : Nat → Nat → PM → Int32 → Int32 → Int32 → Int32 → Option PR
  | 0, _, _, _, _, _, _ => none
  | n + 1, 0, M, a1, a2, a3, a4 => F_X11_isCrowd_99 (G_isCrowd n) M a1 a2 a3 a4
  | _ + 1, _, _, _, _, _, _ => none
set_option maxRecDepth 100000 in
theorem pcG_isCrowd {l : Launch} (hl : l.stackTraces = false) : ∀ n : Nat, (∀ {M : PM} {a1 : Int32} {a2 : Int32} {a3 : Int32} {a4 : Int32} {r : PR}, G_isCrowd n 0 M a1 a2 a3 a4 = some r → PC l (2 + n) Y_X11_isCrowd [vR 99, vI a1, vI a2, vI a3, vI a4] M r) := by
  intro n
  induction n with
  | zero => exact (by intros; rename_i h; exact nomatch (show (none : Option PR) = some _ from h))
  | succ n ih =>
    have i0 := @ih
    exact (by intros; rename_i h; exact pc_X11_isCrowd_99 hl (rc := G_isCrowd n) (gn := 2 + n) (Nat.le_add_right _ _) (fun h => i0 h) h)
set_option maxRecDepth 100000 in
theorem pcg_isCrowd_0 {l : Launch} (hl : l.stackTraces = false) {M : PM} {a1 : Int32} {a2 : Int32} {a3 : Int32} {a4 : Int32} {r : PR} (h : G_isCrowd 12 0 M a1 a2 a3 a4 = some r) : PC l 14 Y_X11_isCrowd [vR 99, vI a1, vI a2, vI a3, vI a4] M r := (pcG_isCrowd hl 12) h
def F_X11_lays_99_112 (rc : Nat → PM → Int32 → Int32 → Option PR) (k64 : PM → Int32 → Int32 → Int32 → Int32 → Option PR) (M : PM) (x1 : Int32) (x2 : Int32) (x3 : Int32) (x4 : Int32) : Option PR := lt (x4 + 1) fun y1388 => k64 M x1 x2 x3 y1388
def F_X11_lays_99_75 (rc : Nat → PM → Int32 → Int32 → Option PR) (k64 : PM → Int32 → Int32 → Int32 → Int32 → Option PR) (M : PM) (x1 : Int32) (x2 : Int32) (x3 : Int32) (x4 : Int32) (t0 : Int32) (t1 : Int32) : Option PR := (if t1 ≤ t0 then (if (0 : Int32) &&& 1 = 0 then some (.inl (some (.int 0)), M) else none) else if ixOK x1 6 = true then cI (G_isCrowd 12 0 (sA M 125 x1.toNatClampNeg x4) x1 x2 0 (1 <<< (x1 &&& 31))) fun v1390 M1389 => (if v1390 = 0 then cI (rc 0 M1389 (x1 + 1) x2) fun v1392 M1391 => (if v1392 = 0 then F_X11_lays_99_112 rc k64 M1391 x1 x2 x3 x4 else (if (1 : Int32) &&& 1 = 1 then some (.inl (some (.int 1)), M1391) else none)) else F_X11_lays_99_112 rc k64 M1389 x1 x2 x3 x4) else none)
def F_X11_lays_99_64 (rc : Nat → PM → Int32 → Int32 → Option PR) : Nat → PM → Int32 → Int32 → Int32 → Int32 → Option PR
  | 0, _, _, _, _, _ => none
  | n + 1, M, x1, x2, x3, x4 => (if x1 = 0 then F_X11_lays_99_75 rc (F_X11_lays_99_64 rc n) M x1 x2 x3 x4 x4 1 else F_X11_lays_99_75 rc (F_X11_lays_99_64 rc n) M x1 x2 x3 x4 x4 x3)
def F_X11_lays_99_54 (rc : Nat → PM → Int32 → Int32 → Option PR) (k15 : PM → Int32 → Int32 → Int32 → Int32 → Option PR) (M : PM) (x1 : Int32) (x2 : Int32) (x4 : Int32) (t0 : Int32) : Option PR := lt (x4 + 1) fun y1393 => k15 M x1 x2 t0 y1393
def F_X11_lays_99_15 (rc : Nat → PM → Int32 → Int32 → Option PR) : Nat → PM → Int32 → Int32 → Int32 → Int32 → Option PR
  | 0, _, _, _, _, _ => none
  | n + 1, M, x1, x2, x3, x4 => (if mI M 99 44 ≤ x4 then F_X11_lays_99_64 rc FUEL M x1 x2 x3 0 else (if x4 = x1 then F_X11_lays_99_54 rc (F_X11_lays_99_15 rc n) M x1 x2 x4 x3 else if ixOK x4 6 = true then if ixOK x1 6 = true then cI (F_X11_common M (mA M 124 x4.toNatClampNeg) (mA M 124 x1.toNatClampNeg)) fun v1395 M1394 => cI (F_X11_both M1394 x3 v1395) fun v1397 M1396 => F_X11_lays_99_54 rc (F_X11_lays_99_15 rc n) M1396 x1 x2 x4 v1397 else none else none))
def F_X11_lays_99 (rc : Nat → PM → Int32 → Int32 → Option PR) (M : PM) (a1 : Int32) (a2 : Int32) : Option PR := (if a1 = mI M 99 44 then (if (1 : Int32) &&& 1 = 1 then some (.inl (some (.int 1)), M) else none) else F_X11_lays_99_15 rc FUEL M a1 a2 1 0)
set_option maxRecDepth 100000 in
theorem S_X11_lays_99_112 {l : Launch} (hl : l.stackTraces = false) {rc : Nat → PM → Int32 → Int32 → Option PR} {gn : Nat} (hg : 15 ≤ gn) (hr0 : ∀ {M : PM} {a1 : Int32} {a2 : Int32} {r : PR}, rc 0 M a1 a2 = some r → PC l gn Y_X11_lays [vR 99, vI a1, vI a2] M r) {k64 : PM → Int32 → Int32 → Int32 → Int32 → Option PR} (hk64 : ∀ {M : PM} {x1 : Int32} {x2 : Int32} {x3 : Int32} {x4 : Int32} {r : PR}, k64 M x1 x2 x3 x4 = some r → PW l (gn + 1) Y_X11_lays k_X11_lays_64 [vR 99, vI x1, vI x2, vI x3, vI x4] [] M r) {M : PM} {x1 : Int32} {x2 : Int32} {x3 : Int32} {x4 : Int32} {r : PR} (h : F_X11_lays_99_112 rc k64 M x1 x2 x3 x4 = some r) : PW l (gn + 1) Y_X11_lays k_X11_lays_112 [vR 99, vI x1, vI x2, vI x3, vI x4] [] M r := by
  unfold F_X11_lays_99_112 at h
  have h := lt_h h
  refine p_iinc (Nat.le_of_ble_eq_true rfl) rfl (ci_1 _) rfl ?_
  refine p_goto 35 rfl rfl ?_
  exact p_fg (hk64 h) ⟨Or.inr rfl, Or.inr rfl, Or.inr rfl, Or.inr rfl, Or.inr rfl, trivial⟩
set_option maxRecDepth 100000 in
theorem S_X11_lays_99_75 {l : Launch} (hl : l.stackTraces = false) {rc : Nat → PM → Int32 → Int32 → Option PR} {gn : Nat} (hg : 15 ≤ gn) (hr0 : ∀ {M : PM} {a1 : Int32} {a2 : Int32} {r : PR}, rc 0 M a1 a2 = some r → PC l gn Y_X11_lays [vR 99, vI a1, vI a2] M r) {k64 : PM → Int32 → Int32 → Int32 → Int32 → Option PR} (hk64 : ∀ {M : PM} {x1 : Int32} {x2 : Int32} {x3 : Int32} {x4 : Int32} {r : PR}, k64 M x1 x2 x3 x4 = some r → PW l (gn + 1) Y_X11_lays k_X11_lays_64 [vR 99, vI x1, vI x2, vI x3, vI x4] [] M r) {M : PM} {x1 : Int32} {x2 : Int32} {x3 : Int32} {x4 : Int32} {t0 : Int32} {t1 : Int32} {r : PR} (h : F_X11_lays_99_75 rc k64 M x1 x2 x3 x4 t0 t1 = some r) : PW l (gn + 1) Y_X11_lays k_X11_lays_75 [vR 99, vI x1, vI x2, vI x3, vI x4] [vI t1, vI t0] M r := by
  unfold F_X11_lays_99_75 at h
  refine p_icmp_ge h 67 rfl rfl (fun _ h => ?_) (fun _ h => ?_)
  · refine p_iconst cn_0 ?_
    exact p_zret rfl h
  · refine p_aload_n rfl ?_
    refine p_getR fk_X11_92 gt_99 rfl rfl ?_
    refine p_iload_n rfl ?_
    refine p_iload rfl ?_
    refine p_iast gt_125 h (fun h => ?_)
    refine p_aload_n rfl ?_
    refine p_iload_n rfl ?_
    refine p_iload_n rfl ?_
    refine p_iconst cn_0 ?_
    refine p_iconst cn_1 ?_
    refine p_iload_n rfl ?_
    refine p_ishl ?_
    refine p_cI (av := [_, _, _, _, _]) ⟨mok_X11_isCrowd, Or.inl ⟨290, 99, 11, 0, _, rfl, rfl, rfl, gt_99, rfl, ins_X11_isCrowd, Or.inl lk_X11_290⟩⟩ (by omega) (Nat.le_of_ble_eq_true rfl) rfl (fun _ h => pcg_isCrowd_0 hl h) h (fun v1390 M1389 h => ?_)
    refine p_if_ne h 65 rfl rfl (fun _ h => ?_) (fun _ h => ?_)
    · refine p_aload_n rfl ?_
      refine p_iload_n rfl ?_
      refine p_iconst cn_1 ?_
      refine p_iadd ?_
      refine p_iload_n rfl ?_
      refine p_cI (av := [_, _, _]) ⟨mok_X11_lays, Or.inl ⟨296, 99, 11, 0, _, rfl, rfl, rfl, gt_99, rfl, ins_X11_lays, Or.inl lk_X11_296⟩⟩ (Nat.le_refl _) (Nat.le_of_ble_eq_true rfl) rfl (fun _ h => hr0 h) h (fun v1392 M1391 h => ?_)
      refine p_if_eq h 65 rfl rfl (fun _ h => ?_) (fun _ h => ?_)
      · exact p_fg (S_X11_lays_99_112 hl hg hr0 hk64 h) ⟨Or.inr rfl, Or.inr rfl, Or.inr rfl, Or.inr rfl, Or.inr rfl, trivial⟩
      · refine p_iconst cn_1 ?_
        exact p_zret rfl h
    · exact p_fg (S_X11_lays_99_112 hl hg hr0 hk64 h) ⟨Or.inr rfl, Or.inr rfl, Or.inr rfl, Or.inr rfl, Or.inr rfl, trivial⟩
set_option maxRecDepth 100000 in
theorem S_X11_lays_99_64 {l : Launch} (hl : l.stackTraces = false) {rc : Nat → PM → Int32 → Int32 → Option PR} {gn : Nat} (hg : 15 ≤ gn) (hr0 : ∀ {M : PM} {a1 : Int32} {a2 : Int32} {r : PR}, rc 0 M a1 a2 = some r → PC l gn Y_X11_lays [vR 99, vI a1, vI a2] M r) : ∀ (n : Nat) {M : PM} {x1 : Int32} {x2 : Int32} {x3 : Int32} {x4 : Int32} {r : PR}, F_X11_lays_99_64 rc n M x1 x2 x3 x4 = some r → PW l (gn + 1) Y_X11_lays k_X11_lays_64 [vR 99, vI x1, vI x2, vI x3, vI x4] [] M r := by
  intro n
  induction n with
  | zero => intro M x1 x2 x3 x4 r h; exact nomatch (show (none : Option PR) = some r from h)
  | succ n ih =>
    intro M x1 x2 x3 x4 r h
    rw [F_X11_lays_99_64] at h
    refine p_iload rfl ?_
    refine p_iload_n rfl ?_
    refine p_if_ne h 40 rfl rfl (fun _ h => ?_) (fun _ h => ?_)
    · refine p_iconst cn_1 ?_
      refine p_goto 41 rfl rfl ?_
      exact p_fg (S_X11_lays_99_75 hl hg hr0 (fun h => ih h) h) ⟨Or.inr rfl, Or.inr rfl, Or.inr rfl, Or.inr rfl, Or.inr rfl, trivial⟩
    · refine p_iload_n rfl ?_
      exact p_fg (S_X11_lays_99_75 hl hg hr0 (fun h => ih h) h) ⟨Or.inr rfl, Or.inr rfl, Or.inr rfl, Or.inr rfl, Or.inr rfl, trivial⟩
set_option maxRecDepth 100000 in
theorem S_X11_lays_99_54 {l : Launch} (hl : l.stackTraces = false) {rc : Nat → PM → Int32 → Int32 → Option PR} {gn : Nat} (hg : 15 ≤ gn) (hr0 : ∀ {M : PM} {a1 : Int32} {a2 : Int32} {r : PR}, rc 0 M a1 a2 = some r → PC l gn Y_X11_lays [vR 99, vI a1, vI a2] M r) {k15 : PM → Int32 → Int32 → Int32 → Int32 → Option PR} (hk15 : ∀ {M : PM} {x1 : Int32} {x2 : Int32} {x3 : Int32} {x4 : Int32} {r : PR}, k15 M x1 x2 x3 x4 = some r → PW l (gn + 1) Y_X11_lays k_X11_lays_15 [vR 99, vI x1, vI x2, vI x3, vI x4] [] M r) {M : PM} {x1 : Int32} {x2 : Int32} {x4 : Int32} {t0 : Int32} {r : PR} (h : F_X11_lays_99_54 rc k15 M x1 x2 x4 t0 = some r) : PW l (gn + 1) Y_X11_lays k_X11_lays_54 [vR 99, vI x1, vI x2, jk, vI x4] [vI t0] M r := by
  unfold F_X11_lays_99_54 at h
  refine p_istore_n (Nat.le_of_ble_eq_true rfl) rfl ?_
  have h := lt_h h
  refine p_iinc (Nat.le_of_ble_eq_true rfl) rfl (ci_1 _) rfl ?_
  refine p_goto 10 rfl rfl ?_
  exact p_fg (hk15 h) ⟨Or.inr rfl, Or.inr rfl, Or.inr rfl, Or.inr rfl, Or.inr rfl, trivial⟩
set_option maxRecDepth 100000 in
theorem S_X11_lays_99_15 {l : Launch} (hl : l.stackTraces = false) {rc : Nat → PM → Int32 → Int32 → Option PR} {gn : Nat} (hg : 15 ≤ gn) (hr0 : ∀ {M : PM} {a1 : Int32} {a2 : Int32} {r : PR}, rc 0 M a1 a2 = some r → PC l gn Y_X11_lays [vR 99, vI a1, vI a2] M r) : ∀ (n : Nat) {M : PM} {x1 : Int32} {x2 : Int32} {x3 : Int32} {x4 : Int32} {r : PR}, F_X11_lays_99_15 rc n M x1 x2 x3 x4 = some r → PW l (gn + 1) Y_X11_lays k_X11_lays_15 [vR 99, vI x1, vI x2, vI x3, vI x4] [] M r := by
  intro n
  induction n with
  | zero => intro M x1 x2 x3 x4 r h; exact nomatch (show (none : Option PR) = some r from h)
  | succ n ih =>
    intro M x1 x2 x3 x4 r h
    rw [F_X11_lays_99_15] at h
    refine p_iload rfl ?_
    refine p_aload_n rfl ?_
    refine p_getI fk_X11_293 gt_99 rfl ?_
    refine p_icmp_ge h 33 rfl rfl (fun _ h => ?_) (fun _ h => ?_)
    · refine p_iconst cn_0 ?_
      refine p_istore (Nat.le_of_ble_eq_true rfl) rfl ?_
      exact p_fg (S_X11_lays_99_64 hl hg hr0 FUEL h) ⟨Or.inr rfl, Or.inr rfl, Or.inr rfl, Or.inr rfl, Or.inr rfl, trivial⟩
    · refine p_iload rfl ?_
      refine p_iload_n rfl ?_
      refine p_icmp_ne h 19 rfl rfl (fun _ h => ?_) (fun _ h => ?_)
      · refine p_iload_n rfl ?_
        refine p_goto 30 rfl rfl ?_
        exact p_fg (S_X11_lays_99_54 hl hg hr0 (fun h => ih h) h) ⟨Or.inr rfl, Or.inr rfl, Or.inr rfl, Or.inl rfl, Or.inr rfl, trivial⟩
      · refine p_iload_n rfl ?_
        refine p_aload_n rfl ?_
        refine p_getR fk_X11_89 gt_99 rfl rfl ?_
        refine p_iload rfl ?_
        refine p_iald gt_124 h (fun h => ?_)
        refine p_aload_n rfl ?_
        refine p_getR fk_X11_89 gt_99 rfl rfl ?_
        refine p_iload_n rfl ?_
        refine p_iald gt_124 h (fun h => ?_)
        refine p_cI (av := [_, _]) ⟨mok_X11_common, Or.inr ⟨164, rfl, rfl, sta_X11_common, Or.inl lk_X11_164⟩⟩ (by omega) (Nat.le_of_ble_eq_true rfl) rfl (fun _ h => pc_X11_common hl h) h (fun v1395 M1394 h => ?_)
        refine p_cI (av := [_, _]) ⟨mok_X11_both, Or.inr ⟨190, rfl, rfl, sta_X11_both, Or.inl lk_X11_190⟩⟩ (by omega) (Nat.le_of_ble_eq_true rfl) rfl (fun _ h => pc_X11_both hl h) h (fun v1397 M1396 h => ?_)
        exact p_fg (S_X11_lays_99_54 hl hg hr0 (fun h => ih h) h) ⟨Or.inr rfl, Or.inr rfl, Or.inr rfl, Or.inl rfl, Or.inr rfl, trivial⟩
set_option maxRecDepth 100000 in
theorem S_X11_lays_99 {l : Launch} (hl : l.stackTraces = false) {rc : Nat → PM → Int32 → Int32 → Option PR} {gn : Nat} (hg : 15 ≤ gn) (hr0 : ∀ {M : PM} {a1 : Int32} {a2 : Int32} {r : PR}, rc 0 M a1 a2 = some r → PC l gn Y_X11_lays [vR 99, vI a1, vI a2] M r) {M : PM} {a1 : Int32} {a2 : Int32} {r : PR} (h : F_X11_lays_99 rc M a1 a2 = some r) : PW l (gn + 1) Y_X11_lays k_X11_lays [vR 99, vI a1, vI a2, jk, jk] [] M r := by
  unfold F_X11_lays_99 at h
  refine p_iload_n rfl ?_
  refine p_aload_n rfl ?_
  refine p_getI fk_X11_293 gt_99 rfl ?_
  refine p_icmp_ne h 6 rfl rfl (fun _ h => ?_) (fun _ h => ?_)
  · refine p_iconst cn_1 ?_
    exact p_zret rfl h
  · refine p_iconst cn_1 ?_
    refine p_istore_n (Nat.le_of_ble_eq_true rfl) rfl ?_
    refine p_iconst cn_0 ?_
    refine p_istore (Nat.le_of_ble_eq_true rfl) rfl ?_
    exact p_fg (S_X11_lays_99_15 hl hg hr0 FUEL h) ⟨Or.inr rfl, Or.inr rfl, Or.inr rfl, Or.inr rfl, Or.inr rfl, trivial⟩
set_option maxRecDepth 100000 in
theorem pc_X11_lays_99 {l : Launch} (hl : l.stackTraces = false) {rc : Nat → PM → Int32 → Int32 → Option PR} {gn : Nat} (hg : 15 ≤ gn) (hr0 : ∀ {M : PM} {a1 : Int32} {a2 : Int32} {r : PR}, rc 0 M a1 a2 = some r → PC l gn Y_X11_lays [vR 99, vI a1, vI a2] M r) {M : PM} {a1 : Int32} {a2 : Int32} {r : PR} (h : F_X11_lays_99 rc M a1 a2 = some r) : PC l (gn + 1) Y_X11_lays [vR 99, vI a1, vI a2] M r := pc_of hl (by decide +kernel) cok_X11_lays (Nat.le_of_ble_eq_true rfl) rfl (S_X11_lays_99 hl hg hr0 h) rfl
def G_lays : Nat → Nat → PM → Int32 → Int32 → Option PR
  | 0, _, _, _, _ => none
  | n + 1, 0, M, a1, a2 => F_X11_lays_99 (G_lays n) M a1 a2
  | _ + 1, _, _, _, _ => none
set_option maxRecDepth 100000 in
theorem pcG_lays {l : Launch} (hl : l.stackTraces = false) : ∀ n : Nat, (∀ {M : PM} {a1 : Int32} {a2 : Int32} {r : PR}, G_lays n 0 M a1 a2 = some r → PC l (15 + n) Y_X11_lays [vR 99, vI a1, vI a2] M r) := by
  intro n
  induction n with
  | zero => exact (by intros; rename_i h; exact nomatch (show (none : Option PR) = some _ from h))
  | succ n ih =>
    have i0 := @ih
    exact (by intros; rename_i h; exact pc_X11_lays_99 hl (rc := G_lays n) (gn := 15 + n) (Nat.le_add_right _ _) (fun h => i0 h) h)
set_option maxRecDepth 100000 in
theorem pcg_lays_0 {l : Launch} (hl : l.stackTraces = false) {M : PM} {a1 : Int32} {a2 : Int32} {r : PR} (h : G_lays 10 0 M a1 a2 = some r) : PC l 25 Y_X11_lays [vR 99, vI a1, vI a2] M r := (pcG_lays hl 10) h
def F_X11_weeks_99_200 : Nat → PM → Int64 → Int32 → Option PR
  | 0, _, _, _ => none
  | n + 1, M, x7, x9 => (if mI M 99 44 ≤ x9 then some (.inl (some (.long x7)), M) else if ixOK x9 6 = true then lt (((100 : Int64) * x7) + ((mA M 125 x9.toNatClampNeg).toInt64)) fun y1398 => lt (x9 + 1) fun y1399 => F_X11_weeks_99_200 n M y1398 y1399 else none)
def F_X11_weeks_99_148 : Nat → PM → Int32 → Int64 → Int32 → Option PR
  | 0, _, _, _, _ => none
  | n + 1, M, x3, x4, x7 => (if x7 < 0 then cI (G_lays 10 0 M 0 x3) fun v1401 M1400 => (if v1401 = 0 then some (.inl (some (.long (-1 : Int64))), M1400) else lt ((0 : Int64)) fun y1402 => F_X11_weeks_99_200 FUEL M1400 y1402 0) else if (100 : Int64) = 0 then none else if ixOK x7 6 = true then if (100 : Int64) = 0 then none else lt (x4 / (100 : Int64)) fun y1403 => lt (x7 + (-1)) fun y1404 => F_X11_weeks_99_148 n (sA M 124 x7.toNatClampNeg ((x4 - x4 / (100 : Int64) * (100 : Int64)).toInt32)) x3 y1403 y1404 else none)
def F_X11_weeks_99_127 (M : PM) (x1 : Int64) (x3 : Int32) (t1 : Int32) : Option PR := cI (F_X11_bad_99 M t1 1 2) fun v1406 M1405 => (if v1406 = 0 then lt ((mI M1405 99 44) - 1) fun y1407 => F_X11_weeks_99_148 FUEL M1405 x3 x1 y1407 else some (.inl (some (.long (0 : Int64))), M1405))
def F_X11_weeks_99_122 (M : PM) (x1 : Int64) (x3 : Int32) : Option PR := F_X11_weeks_99_127 M x1 x3 1
def F_X11_weeks_99_101 (M : PM) (x1 : Int64) (x3 : Int32) (x4 : Int64) (x6 : Int32) : Option PR := (if x6 = 0 then F_X11_weeks_99_122 M x1 x3 else (if 0 < lg_cmp x4 (0 : Int64) then F_X11_weeks_99_122 M x1 x3 else (if 2 ≤ mI M 99 44 then F_X11_weeks_99_127 M x1 x3 0 else F_X11_weeks_99_122 M x1 x3)))
def F_X11_weeks_99_78 (k36 : PM → Int64 → Int32 → Int64 → Int32 → Option PR) (M : PM) (x1 : Int64) (x3 : Int32) (x4 : Int64) (t0 : Int32) : Option PR := if (100 : Int64) = 0 then none else lt (x4 / (100 : Int64)) fun y1408 => k36 (sI M 99 44 ((mI M 99 44) + 1)) x1 x3 y1408 t0
def F_X11_weeks_99_77 (k36 : PM → Int64 → Int32 → Int64 → Int32 → Option PR) (M : PM) (x1 : Int64) (x3 : Int32) (x4 : Int64) : Option PR := F_X11_weeks_99_78 k36 M x1 x3 x4 0
def F_X11_weeks_99_36 : Nat → PM → Int64 → Int32 → Int64 → Int32 → Option PR
  | 0, _, _, _, _, _ => none
  | n + 1, M, x1, x3, x4, x6 => (if lg_cmp x4 (0 : Int64) ≤ 0 then F_X11_weeks_99_101 M x1 x3 x4 x6 else (if 6 ≤ mI M 99 44 then F_X11_weeks_99_101 M x1 x3 x4 x6 else (if x6 = 0 then F_X11_weeks_99_77 (F_X11_weeks_99_36 n) M x1 x3 x4 else if (100 : Int64) = 0 then none else cI (F_X11_in M ((x4 - x4 / (100 : Int64) * (100 : Int64)).toInt32) 2 24) fun v1410 M1409 => (if v1410 = 0 then F_X11_weeks_99_77 (F_X11_weeks_99_36 n) M1409 x1 x3 x4 else F_X11_weeks_99_78 (F_X11_weeks_99_36 n) M1409 x1 x3 x4 1))))
def F_X11_weeks_99_29 (M : PM) (x1 : Int64) (x3 : Int32) (x4 : Int64) (t0 : Int32) : Option PR := F_X11_weeks_99_36 FUEL (sI M 99 44 0) x1 x3 x4 t0
def F_X11_weeks_99_28 (M : PM) (x1 : Int64) (x3 : Int32) (x4 : Int64) : Option PR := F_X11_weeks_99_29 M x1 x3 x4 0
def F_X11_weeks_99 (M : PM) (a1 : Int64) (a2 : Int32) : Option PR := cI (F_X11_in (sI M 99 0 0) a2 1 6) fun v1412 M1411 => (if v1412 = 0 then F_X11_weeks_99_28 M1411 a1 a2 a1 else (if lg_cmp a1 (0 : Int64) ≤ 0 then F_X11_weeks_99_28 M1411 a1 a2 a1 else F_X11_weeks_99_29 M1411 a1 a2 a1 1))
set_option maxRecDepth 100000 in
theorem S_X11_weeks_99_200 {l : Launch} (hl : l.stackTraces = false) : ∀ (n : Nat) {M : PM} {x7 : Int64} {x9 : Int32} {r : PR}, F_X11_weeks_99_200  n M x7 x9 = some r → PW l 26 Y_X11_weeks k_X11_weeks_200 [vR 99, jk, jk, jk, jk, jk, jk, vJ x7, jk, vI x9] [] M r := by
  intro n
  induction n with
  | zero => intro M x7 x9 r h; exact nomatch (show (none : Option PR) = some r from h)
  | succ n ih =>
    intro M x7 x9 r h
    rw [F_X11_weeks_99_200] at h
    refine p_iload rfl ?_
    refine p_aload_n rfl ?_
    refine p_getI fk_X11_293 gt_99 rfl ?_
    refine p_icmp_ge h 124 rfl rfl (fun _ h => ?_) (fun _ h => ?_)
    · refine p_lload rfl ?_
      exact p_lret rfl h
    · refine p_ldc2_w co_X11_299 ?_
      refine p_lload rfl ?_
      refine p_lmul ?_
      refine p_aload_n rfl ?_
      refine p_getR fk_X11_92 gt_99 rfl rfl ?_
      refine p_iload rfl ?_
      refine p_iald gt_125 h (fun h => ?_)
      refine p_i2l ?_
      refine p_ladd ?_
      have h := lt_h h
      refine p_lstore (Nat.le_of_ble_eq_true rfl) rfl ?_
      have h := lt_h h
      refine p_iinc (Nat.le_of_ble_eq_true rfl) rfl (ci_1 _) rfl ?_
      refine p_goto 108 rfl rfl ?_
      exact p_fg (ih h) ⟨Or.inr rfl, Or.inl rfl, Or.inl rfl, Or.inl rfl, Or.inl rfl, Or.inl rfl, Or.inl rfl, Or.inr rfl, Or.inl rfl, Or.inr rfl, trivial⟩
set_option maxRecDepth 100000 in
theorem S_X11_weeks_99_148 {l : Launch} (hl : l.stackTraces = false) : ∀ (n : Nat) {M : PM} {x3 : Int32} {x4 : Int64} {x7 : Int32} {r : PR}, F_X11_weeks_99_148  n M x3 x4 x7 = some r → PW l 26 Y_X11_weeks k_X11_weeks_148 [vR 99, jk, jk, vI x3, vJ x4, jk, jk, vI x7, jk, jk] [] M r := by
  intro n
  induction n with
  | zero => intro M x3 x4 x7 r h; exact nomatch (show (none : Option PR) = some r from h)
  | succ n ih =>
    intro M x3 x4 x7 r h
    rw [F_X11_weeks_99_148] at h
    refine p_iload rfl ?_
    refine p_if_lt h 97 rfl rfl (fun _ h => ?_) (fun _ h => ?_)
    · refine p_aload_n rfl ?_
      refine p_iconst cn_0 ?_
      refine p_iload_n rfl ?_
      refine p_cI (av := [_, _, _]) ⟨mok_X11_lays, Or.inl ⟨296, 99, 11, 0, _, rfl, rfl, rfl, gt_99, rfl, ins_X11_lays, Or.inl lk_X11_296⟩⟩ (Nat.le_of_ble_eq_true rfl) (Nat.le_of_ble_eq_true rfl) rfl (fun _ h => pcg_lays_0 hl h) h (fun v1401 M1400 h => ?_)
      refine p_if_ne h 104 rfl rfl (fun _ h => ?_) (fun _ h => ?_)
      · refine p_ldc2_w co_X11_301 ?_
        exact p_lret rfl h
      · refine p_lconst cl_0 ?_
        have h := lt_h h
        refine p_lstore (Nat.le_of_ble_eq_true rfl) rfl ?_
        refine p_iconst cn_0 ?_
        refine p_istore (Nat.le_of_ble_eq_true rfl) rfl ?_
        exact p_fg (S_X11_weeks_99_200 hl FUEL h) ⟨Or.inr rfl, Or.inl rfl, Or.inl rfl, Or.inl rfl, Or.inl rfl, Or.inl rfl, Or.inl rfl, Or.inr rfl, Or.inl rfl, Or.inr rfl, trivial⟩
    · refine p_aload_n rfl ?_
      refine p_getR fk_X11_89 gt_99 rfl rfl ?_
      refine p_iload rfl ?_
      refine p_lload rfl ?_
      refine p_ldc2_w co_X11_299 ?_
      refine p_lrem h (fun h => ?_)
      refine p_l2i ?_
      refine p_iast gt_124 h (fun h => ?_)
      refine p_lload rfl ?_
      refine p_ldc2_w co_X11_299 ?_
      refine p_ldiv h (fun h => ?_)
      have h := lt_h h
      refine p_lstore (Nat.le_of_ble_eq_true rfl) rfl ?_
      have h := lt_h h
      refine p_iinc (Nat.le_of_ble_eq_true rfl) rfl (ci_m1 _) rfl ?_
      refine p_goto 81 rfl rfl ?_
      exact p_fg (ih h) ⟨Or.inr rfl, Or.inl rfl, Or.inl rfl, Or.inr rfl, Or.inr rfl, Or.inl rfl, Or.inl rfl, Or.inr rfl, Or.inl rfl, Or.inl rfl, trivial⟩
set_option maxRecDepth 100000 in
theorem S_X11_weeks_99_127 {l : Launch} (hl : l.stackTraces = false) {M : PM} {x1 : Int64} {x3 : Int32} {t1 : Int32} {r : PR} (h : F_X11_weeks_99_127  M x1 x3 t1 = some r) : PW l 26 Y_X11_weeks k_X11_weeks_127 [vR 99, vJ x1, jk, vI x3, jk, jk, jk, jk, jk, jk] [vI t1, vR 99] M r := by
  unfold F_X11_weeks_99_127 at h
  refine p_iconst cn_1 ?_
  refine p_iconst cn_2 ?_
  refine p_cI (av := [_, _, _, _]) ⟨mok_X11_bad, Or.inl ⟨180, 99, 11, 0, _, rfl, rfl, rfl, gt_99, rfl, ins_X11_bad, Or.inl lk_X11_180⟩⟩ (Nat.le_of_ble_eq_true rfl) (Nat.le_of_ble_eq_true rfl) rfl (fun _ h => pc_X11_bad_99 hl h) h (fun v1406 M1405 h => ?_)
  refine p_if_eq h 74 rfl rfl (fun _ h => ?_) (fun _ h => ?_)
  · refine p_lload_n rfl ?_
    refine p_lstore (Nat.le_of_ble_eq_true rfl) rfl ?_
    refine p_aload_n rfl ?_
    refine p_getI fk_X11_293 gt_99 rfl ?_
    refine p_iconst cn_1 ?_
    refine p_isub ?_
    have h := lt_h h
    refine p_istore (Nat.le_of_ble_eq_true rfl) rfl ?_
    exact p_fg (S_X11_weeks_99_148 hl FUEL h) ⟨Or.inr rfl, Or.inl rfl, Or.inl rfl, Or.inr rfl, Or.inr rfl, Or.inl rfl, Or.inl rfl, Or.inr rfl, Or.inl rfl, Or.inl rfl, trivial⟩
  · refine p_lconst cl_0 ?_
    exact p_lret rfl h
set_option maxRecDepth 100000 in
theorem S_X11_weeks_99_122 {l : Launch} (hl : l.stackTraces = false) {M : PM} {x1 : Int64} {x3 : Int32} {r : PR} (h : F_X11_weeks_99_122  M x1 x3 = some r) : PW l 26 Y_X11_weeks k_X11_weeks_122 [vR 99, vJ x1, jk, vI x3, jk, jk, jk, jk, jk, jk] [vR 99] M r := by
  unfold F_X11_weeks_99_122 at h
  refine p_iconst cn_1 ?_
  refine p_goto 68 rfl rfl ?_
  exact p_fg (S_X11_weeks_99_127 hl h) ⟨Or.inr rfl, Or.inr rfl, Or.inl rfl, Or.inr rfl, Or.inl rfl, Or.inl rfl, Or.inl rfl, Or.inl rfl, Or.inl rfl, Or.inl rfl, trivial⟩
set_option maxRecDepth 100000 in
theorem S_X11_weeks_99_101 {l : Launch} (hl : l.stackTraces = false) {M : PM} {x1 : Int64} {x3 : Int32} {x4 : Int64} {x6 : Int32} {r : PR} (h : F_X11_weeks_99_101  M x1 x3 x4 x6 = some r) : PW l 26 Y_X11_weeks k_X11_weeks_101 [vR 99, vJ x1, jk, vI x3, vJ x4, jk, vI x6, jk, jk, jk] [] M r := by
  unfold F_X11_weeks_99_101 at h
  refine p_aload_n rfl ?_
  refine p_iload rfl ?_
  refine p_if_eq h 65 rfl rfl (fun _ h => ?_) (fun _ h => ?_)
  · exact p_fg (S_X11_weeks_99_122 hl h) ⟨Or.inr rfl, Or.inr rfl, Or.inl rfl, Or.inr rfl, Or.inl rfl, Or.inl rfl, Or.inl rfl, Or.inl rfl, Or.inl rfl, Or.inl rfl, trivial⟩
  · refine p_lload rfl ?_
    refine p_lconst cl_0 ?_
    refine p_lcmp ?_
    refine p_if_gt h 65 rfl rfl (fun _ h => ?_) (fun _ h => ?_)
    · exact p_fg (S_X11_weeks_99_122 hl h) ⟨Or.inr rfl, Or.inr rfl, Or.inl rfl, Or.inr rfl, Or.inl rfl, Or.inl rfl, Or.inl rfl, Or.inl rfl, Or.inl rfl, Or.inl rfl, trivial⟩
    · refine p_aload_n rfl ?_
      refine p_getI fk_X11_293 gt_99 rfl ?_
      refine p_iconst cn_2 ?_
      refine p_icmp_ge h 67 rfl rfl (fun _ h => ?_) (fun _ h => ?_)
      · refine p_iconst cn_0 ?_
        exact p_fg (S_X11_weeks_99_127 hl h) ⟨Or.inr rfl, Or.inr rfl, Or.inl rfl, Or.inr rfl, Or.inl rfl, Or.inl rfl, Or.inl rfl, Or.inl rfl, Or.inl rfl, Or.inl rfl, trivial⟩
      · exact p_fg (S_X11_weeks_99_122 hl h) ⟨Or.inr rfl, Or.inr rfl, Or.inl rfl, Or.inr rfl, Or.inl rfl, Or.inl rfl, Or.inl rfl, Or.inl rfl, Or.inl rfl, Or.inl rfl, trivial⟩
set_option maxRecDepth 100000 in
theorem S_X11_weeks_99_78 {l : Launch} (hl : l.stackTraces = false) {k36 : PM → Int64 → Int32 → Int64 → Int32 → Option PR} (hk36 : ∀ {M : PM} {x1 : Int64} {x3 : Int32} {x4 : Int64} {x6 : Int32} {r : PR}, k36 M x1 x3 x4 x6 = some r → PW l 26 Y_X11_weeks k_X11_weeks_36 [vR 99, vJ x1, jk, vI x3, vJ x4, jk, vI x6, jk, jk, jk] [] M r) {M : PM} {x1 : Int64} {x3 : Int32} {x4 : Int64} {t0 : Int32} {r : PR} (h : F_X11_weeks_99_78 k36 M x1 x3 x4 t0 = some r) : PW l 26 Y_X11_weeks k_X11_weeks_78 [vR 99, vJ x1, jk, vI x3, vJ x4, jk, jk, jk, jk, jk] [vI t0] M r := by
  unfold F_X11_weeks_99_78 at h
  refine p_istore (Nat.le_of_ble_eq_true rfl) rfl ?_
  refine p_lload rfl ?_
  refine p_ldc2_w co_X11_299 ?_
  refine p_ldiv h (fun h => ?_)
  have h := lt_h h
  refine p_lstore (Nat.le_of_ble_eq_true rfl) rfl ?_
  refine p_aload_n rfl ?_
  refine p_dup rfl ?_
  refine p_getI fk_X11_293 gt_99 rfl ?_
  refine p_iconst cn_1 ?_
  refine p_iadd ?_
  refine p_putI fk_X11_293 gt_99 rfl ?_
  refine p_goto 21 rfl rfl ?_
  exact p_fg (hk36 h) ⟨Or.inr rfl, Or.inr rfl, Or.inl rfl, Or.inr rfl, Or.inr rfl, Or.inl rfl, Or.inr rfl, Or.inl rfl, Or.inl rfl, Or.inl rfl, trivial⟩
set_option maxRecDepth 100000 in
theorem S_X11_weeks_99_77 {l : Launch} (hl : l.stackTraces = false) {k36 : PM → Int64 → Int32 → Int64 → Int32 → Option PR} (hk36 : ∀ {M : PM} {x1 : Int64} {x3 : Int32} {x4 : Int64} {x6 : Int32} {r : PR}, k36 M x1 x3 x4 x6 = some r → PW l 26 Y_X11_weeks k_X11_weeks_36 [vR 99, vJ x1, jk, vI x3, vJ x4, jk, vI x6, jk, jk, jk] [] M r) {M : PM} {x1 : Int64} {x3 : Int32} {x4 : Int64} {r : PR} (h : F_X11_weeks_99_77 k36 M x1 x3 x4 = some r) : PW l 26 Y_X11_weeks k_X11_weeks_77 [vR 99, vJ x1, jk, vI x3, vJ x4, jk, jk, jk, jk, jk] [] M r := by
  unfold F_X11_weeks_99_77 at h
  refine p_iconst cn_0 ?_
  exact p_fg (S_X11_weeks_99_78 hl hk36 h) ⟨Or.inr rfl, Or.inr rfl, Or.inl rfl, Or.inr rfl, Or.inr rfl, Or.inl rfl, Or.inl rfl, Or.inl rfl, Or.inl rfl, Or.inl rfl, trivial⟩
set_option maxRecDepth 100000 in
theorem S_X11_weeks_99_36 {l : Launch} (hl : l.stackTraces = false) : ∀ (n : Nat) {M : PM} {x1 : Int64} {x3 : Int32} {x4 : Int64} {x6 : Int32} {r : PR}, F_X11_weeks_99_36  n M x1 x3 x4 x6 = some r → PW l 26 Y_X11_weeks k_X11_weeks_36 [vR 99, vJ x1, jk, vI x3, vJ x4, jk, vI x6, jk, jk, jk] [] M r := by
  intro n
  induction n with
  | zero => intro M x1 x3 x4 x6 r h; exact nomatch (show (none : Option PR) = some r from h)
  | succ n ih =>
    intro M x1 x3 x4 x6 r h
    rw [F_X11_weeks_99_36] at h
    refine p_lload rfl ?_
    refine p_lconst cl_0 ?_
    refine p_lcmp ?_
    refine p_if_le h 54 rfl rfl (fun _ h => ?_) (fun _ h => ?_)
    · exact p_fg (S_X11_weeks_99_101 hl h) ⟨Or.inr rfl, Or.inr rfl, Or.inl rfl, Or.inr rfl, Or.inr rfl, Or.inl rfl, Or.inr rfl, Or.inl rfl, Or.inl rfl, Or.inl rfl, trivial⟩
    · refine p_aload_n rfl ?_
      refine p_getI fk_X11_293 gt_99 rfl ?_
      refine p_bipush cb_6 ?_
      refine p_icmp_ge h 54 rfl rfl (fun _ h => ?_) (fun _ h => ?_)
      · exact p_fg (S_X11_weeks_99_101 hl h) ⟨Or.inr rfl, Or.inr rfl, Or.inl rfl, Or.inr rfl, Or.inr rfl, Or.inl rfl, Or.inr rfl, Or.inl rfl, Or.inl rfl, Or.inl rfl, trivial⟩
      · refine p_iload rfl ?_
        refine p_if_eq h 41 rfl rfl (fun _ h => ?_) (fun _ h => ?_)
        · exact p_fg (S_X11_weeks_99_77 hl (fun h => ih h) h) ⟨Or.inr rfl, Or.inr rfl, Or.inl rfl, Or.inr rfl, Or.inr rfl, Or.inl rfl, Or.inl rfl, Or.inl rfl, Or.inl rfl, Or.inl rfl, trivial⟩
        · refine p_lload rfl ?_
          refine p_ldc2_w co_X11_299 ?_
          refine p_lrem h (fun h => ?_)
          refine p_l2i ?_
          refine p_iconst cn_2 ?_
          refine p_bipush cb_24 ?_
          refine p_cI (av := [_, _, _]) ⟨mok_X11_in, Or.inr ⟨141, rfl, rfl, sta_X11_in, Or.inl lk_X11_141⟩⟩ (Nat.le_of_ble_eq_true rfl) (Nat.le_of_ble_eq_true rfl) rfl (fun _ h => pc_X11_in hl h) h (fun v1410 M1409 h => ?_)
          refine p_if_eq h 41 rfl rfl (fun _ h => ?_) (fun _ h => ?_)
          · exact p_fg (S_X11_weeks_99_77 hl (fun h => ih h) h) ⟨Or.inr rfl, Or.inr rfl, Or.inl rfl, Or.inr rfl, Or.inr rfl, Or.inl rfl, Or.inl rfl, Or.inl rfl, Or.inl rfl, Or.inl rfl, trivial⟩
          · refine p_iconst cn_1 ?_
            refine p_goto 42 rfl rfl ?_
            exact p_fg (S_X11_weeks_99_78 hl (fun h => ih h) h) ⟨Or.inr rfl, Or.inr rfl, Or.inl rfl, Or.inr rfl, Or.inr rfl, Or.inl rfl, Or.inl rfl, Or.inl rfl, Or.inl rfl, Or.inl rfl, trivial⟩
set_option maxRecDepth 100000 in
theorem S_X11_weeks_99_29 {l : Launch} (hl : l.stackTraces = false) {M : PM} {x1 : Int64} {x3 : Int32} {x4 : Int64} {t0 : Int32} {r : PR} (h : F_X11_weeks_99_29  M x1 x3 x4 t0 = some r) : PW l 26 Y_X11_weeks k_X11_weeks_29 [vR 99, vJ x1, jk, vI x3, vJ x4, jk, jk, jk, jk, jk] [vI t0] M r := by
  unfold F_X11_weeks_99_29 at h
  refine p_istore (Nat.le_of_ble_eq_true rfl) rfl ?_
  refine p_aload_n rfl ?_
  refine p_iconst cn_0 ?_
  refine p_putI fk_X11_293 gt_99 rfl ?_
  exact p_fg (S_X11_weeks_99_36 hl FUEL h) ⟨Or.inr rfl, Or.inr rfl, Or.inl rfl, Or.inr rfl, Or.inr rfl, Or.inl rfl, Or.inr rfl, Or.inl rfl, Or.inl rfl, Or.inl rfl, trivial⟩
set_option maxRecDepth 100000 in
theorem S_X11_weeks_99_28 {l : Launch} (hl : l.stackTraces = false) {M : PM} {x1 : Int64} {x3 : Int32} {x4 : Int64} {r : PR} (h : F_X11_weeks_99_28  M x1 x3 x4 = some r) : PW l 26 Y_X11_weeks k_X11_weeks_28 [vR 99, vJ x1, jk, vI x3, vJ x4, jk, jk, jk, jk, jk] [] M r := by
  unfold F_X11_weeks_99_28 at h
  refine p_iconst cn_0 ?_
  exact p_fg (S_X11_weeks_99_29 hl h) ⟨Or.inr rfl, Or.inr rfl, Or.inl rfl, Or.inr rfl, Or.inr rfl, Or.inl rfl, Or.inl rfl, Or.inl rfl, Or.inl rfl, Or.inl rfl, trivial⟩
set_option maxRecDepth 100000 in
theorem S_X11_weeks_99 {l : Launch} (hl : l.stackTraces = false) {M : PM} {a1 : Int64} {a2 : Int32} {r : PR} (h : F_X11_weeks_99 M a1 a2 = some r) : PW l 26 Y_X11_weeks k_X11_weeks [vR 99, vJ a1, jk, vI a2, jk, jk, jk, jk, jk, jk] [] M r := by
  unfold F_X11_weeks_99 at h
  refine p_aload_n rfl ?_
  refine p_iconst cn_0 ?_
  refine p_putI fk_X11_107 gt_99 rfl ?_
  refine p_lload_n rfl ?_
  refine p_lstore (Nat.le_of_ble_eq_true rfl) rfl ?_
  refine p_iload_n rfl ?_
  refine p_iconst cn_1 ?_
  refine p_bipush cb_6 ?_
  refine p_cI (av := [_, _, _]) ⟨mok_X11_in, Or.inr ⟨141, rfl, rfl, sta_X11_in, Or.inl lk_X11_141⟩⟩ (Nat.le_of_ble_eq_true rfl) (Nat.le_of_ble_eq_true rfl) rfl (fun _ h => pc_X11_in hl h) h (fun v1412 M1411 h => ?_)
  refine p_if_eq h 16 rfl rfl (fun _ h => ?_) (fun _ h => ?_)
  · exact p_fg (S_X11_weeks_99_28 hl h) ⟨Or.inr rfl, Or.inr rfl, Or.inl rfl, Or.inr rfl, Or.inr rfl, Or.inl rfl, Or.inl rfl, Or.inl rfl, Or.inl rfl, Or.inl rfl, trivial⟩
  · refine p_lload_n rfl ?_
    refine p_lconst cl_0 ?_
    refine p_lcmp ?_
    refine p_if_le h 16 rfl rfl (fun _ h => ?_) (fun _ h => ?_)
    · exact p_fg (S_X11_weeks_99_28 hl h) ⟨Or.inr rfl, Or.inr rfl, Or.inl rfl, Or.inr rfl, Or.inr rfl, Or.inl rfl, Or.inl rfl, Or.inl rfl, Or.inl rfl, Or.inl rfl, trivial⟩
    · refine p_iconst cn_1 ?_
      refine p_goto 17 rfl rfl ?_
      exact p_fg (S_X11_weeks_99_29 hl h) ⟨Or.inr rfl, Or.inr rfl, Or.inl rfl, Or.inr rfl, Or.inr rfl, Or.inl rfl, Or.inl rfl, Or.inl rfl, Or.inl rfl, Or.inl rfl, trivial⟩
set_option maxRecDepth 100000 in
theorem pc_X11_weeks_99 {l : Launch} (hl : l.stackTraces = false) {M : PM} {a1 : Int64} {a2 : Int32} {r : PR} (h : F_X11_weeks_99 M a1 a2 = some r) : PC l 26 Y_X11_weeks [vR 99, vJ a1, vI a2] M r := pc_of hl (by decide +kernel) cok_X11_weeks (Nat.le_of_ble_eq_true rfl) rfl (S_X11_weeks_99 hl  h) rfl
def F_X11_seen_99_107 (M : PM) (t0 : Nat) (t1 : Int32) (t2 : Int32) : Option PR := if t0 < 20 ∧ ixOK t1 3 = true then some (.inl (some (.int (mI (sI (sG M 119 t0 t1.toNatClampNeg t2) 99 32 ((mI (sG M 119 t0 t1.toNatClampNeg t2) 99 32) + 1)) 99 32))), sI (sG M 119 t0 t1.toNatClampNeg t2) 99 32 ((mI (sG M 119 t0 t1.toNatClampNeg t2) 99 32) + 1)) else none
def F_X11_seen_99_43 (M : PM) (x1 : Int32) (x2 : Int32) (x3 : Int32) (t1 : Int32) : Option PR := cI (F_X11_bad_99 M t1 2 2) fun v1414 M1413 => (if v1414 = 0 then (if mI M1413 99 32 = 20 then some (.inl (some (.int (-1))), M1413) else if ixOK (mI M1413 99 32) 20 = true then if (mI M1413 99 32).toNatClampNeg < 20 ∧ ixOK 0 3 = true then if ixOK (mI (sG M1413 119 ((mI M1413 99 32).toNatClampNeg) (0 : Int32).toNatClampNeg x1) 99 32) 20 = true then if (mI (sG M1413 119 ((mI M1413 99 32).toNatClampNeg) (0 : Int32).toNatClampNeg x1) 99 32).toNatClampNeg < 20 ∧ ixOK 1 3 = true then lt (sG (sG M1413 119 ((mI M1413 99 32).toNatClampNeg) (0 : Int32).toNatClampNeg x1) 119 ((mI (sG M1413 119 ((mI M1413 99 32).toNatClampNeg) (0 : Int32).toNatClampNeg x1) 99 32).toNatClampNeg) (1 : Int32).toNatClampNeg x2) fun M1415 => if ixOK (mI M1415 99 32) 20 = true then (if x3 = 0 then F_X11_seen_99_107 M1415 ((mI M1415 99 32).toNatClampNeg) 2 0 else F_X11_seen_99_107 M1415 ((mI M1415 99 32).toNatClampNeg) 2 1) else none else none else none else none else none) else some (.inl (some (.int 0)), M1413))
def F_X11_seen_99_19 (M : PM) (x1 : Int32) (x2 : Int32) (x3 : Int32) (t1 : Int32) : Option PR := cI (F_X11_bad_99 M t1 1 1) fun v1417 M1416 => (if v1417 = 0 then cI (F_X11_in M1416 x2 0 9) fun v1419 M1418 => (if v1419 = 0 then F_X11_seen_99_43 M1418 x1 x2 x3 1 else F_X11_seen_99_43 M1418 x1 x2 x3 0) else some (.inl (some (.int 0)), M1416))
def F_X11_seen_99 (M : PM) (a1 : Int32) (a2 : Int32) (a3 : Int32) : Option PR := cI (F_X11_isLaw_99 (sI M 99 0 0) a1) fun v1421 M1420 => (if v1421 = 0 then F_X11_seen_99_19 M1420 a1 a2 a3 1 else F_X11_seen_99_19 M1420 a1 a2 a3 0)
set_option maxRecDepth 100000 in
theorem S_X11_seen_99_107 {l : Launch} (hl : l.stackTraces = false) {M : PM} {t0 : Nat} {t1 : Int32} {t2 : Int32} {r : PR} (h : F_X11_seen_99_107  M t0 t1 t2 = some r) : PW l 2 Y_X11_seen k_X11_seen_107 [vR 99, jk, jk, jk] [vI t2, vI t1, vG 119 t0] M r := by
  unfold F_X11_seen_99_107 at h
  refine p_iastG gt_119 h (fun h => ?_)
  refine p_aload_n rfl ?_
  refine p_dup rfl ?_
  refine p_getI fk_X11_196 gt_99 rfl ?_
  refine p_iconst cn_1 ?_
  refine p_iadd ?_
  refine p_putI fk_X11_196 gt_99 rfl ?_
  refine p_aload_n rfl ?_
  refine p_getI fk_X11_196 gt_99 rfl ?_
  exact p_iret rfl h
set_option maxRecDepth 100000 in
theorem S_X11_seen_99_43 {l : Launch} (hl : l.stackTraces = false) {M : PM} {x1 : Int32} {x2 : Int32} {x3 : Int32} {t1 : Int32} {r : PR} (h : F_X11_seen_99_43  M x1 x2 x3 t1 = some r) : PW l 2 Y_X11_seen k_X11_seen_43 [vR 99, vI x1, vI x2, vI x3] [vI t1, vR 99] M r := by
  unfold F_X11_seen_99_43 at h
  refine p_iconst cn_2 ?_
  refine p_iconst cn_2 ?_
  refine p_cI (av := [_, _, _, _]) ⟨mok_X11_bad, Or.inl ⟨180, 99, 11, 0, _, rfl, rfl, rfl, gt_99, rfl, ins_X11_bad, Or.inl lk_X11_180⟩⟩ (Nat.le_of_ble_eq_true rfl) (Nat.le_of_ble_eq_true rfl) rfl (fun _ h => pc_X11_bad_99 hl h) h (fun v1414 M1413 h => ?_)
  refine p_if_eq h 30 rfl rfl (fun _ h => ?_) (fun _ h => ?_)
  · refine p_aload_n rfl ?_
    refine p_getI fk_X11_196 gt_99 rfl ?_
    refine p_bipush cb_20 ?_
    refine p_icmp_ne h 36 rfl rfl (fun _ h => ?_) (fun _ h => ?_)
    · refine p_iconst cn_m1 ?_
      exact p_iret rfl h
    · refine p_aload_n rfl ?_
      refine p_getR fk_X11_74 gt_99 rfl rfl ?_
      refine p_aload_n rfl ?_
      refine p_getI fk_X11_196 gt_99 rfl ?_
      refine p_aldG gt_119 h (fun h => ?_)
      refine p_iconst cn_0 ?_
      refine p_iload_n rfl ?_
      refine p_iastG gt_119 h (fun h => ?_)
      refine p_aload_n rfl ?_
      refine p_getR fk_X11_74 gt_99 rfl rfl ?_
      refine p_aload_n rfl ?_
      refine p_getI fk_X11_196 gt_99 rfl ?_
      refine p_aldG gt_119 h (fun h => ?_)
      refine p_iconst cn_1 ?_
      refine p_iload_n rfl ?_
      refine p_iastG gt_119 h (fun h => ?_)
      have h := lt_h h
      refine p_aload_n rfl ?_
      refine p_getR fk_X11_74 gt_99 rfl rfl ?_
      refine p_aload_n rfl ?_
      refine p_getI fk_X11_196 gt_99 rfl ?_
      refine p_aldG gt_119 h (fun h => ?_)
      refine p_iconst cn_2 ?_
      refine p_iload_n rfl ?_
      refine p_if_eq h 62 rfl rfl (fun _ h => ?_) (fun _ h => ?_)
      · refine p_iconst cn_0 ?_
        exact p_fg (S_X11_seen_99_107 hl h) ⟨Or.inr rfl, Or.inl rfl, Or.inl rfl, Or.inl rfl, trivial⟩
      · refine p_iconst cn_1 ?_
        refine p_goto 63 rfl rfl ?_
        exact p_fg (S_X11_seen_99_107 hl h) ⟨Or.inr rfl, Or.inl rfl, Or.inl rfl, Or.inl rfl, trivial⟩
  · refine p_iconst cn_0 ?_
    exact p_iret rfl h
set_option maxRecDepth 100000 in
theorem S_X11_seen_99_19 {l : Launch} (hl : l.stackTraces = false) {M : PM} {x1 : Int32} {x2 : Int32} {x3 : Int32} {t1 : Int32} {r : PR} (h : F_X11_seen_99_19  M x1 x2 x3 t1 = some r) : PW l 2 Y_X11_seen k_X11_seen_19 [vR 99, vI x1, vI x2, vI x3] [vI t1, vR 99] M r := by
  unfold F_X11_seen_99_19 at h
  refine p_iconst cn_1 ?_
  refine p_iconst cn_1 ?_
  refine p_cI (av := [_, _, _, _]) ⟨mok_X11_bad, Or.inl ⟨180, 99, 11, 0, _, rfl, rfl, rfl, gt_99, rfl, ins_X11_bad, Or.inl lk_X11_180⟩⟩ (Nat.le_of_ble_eq_true rfl) (Nat.le_of_ble_eq_true rfl) rfl (fun _ h => pc_X11_bad_99 hl h) h (fun v1417 M1416 h => ?_)
  refine p_if_ne h 28 rfl rfl (fun _ h => ?_) (fun _ h => ?_)
  · refine p_aload_n rfl ?_
    refine p_iload_n rfl ?_
    refine p_iconst cn_0 ?_
    refine p_bipush cb_9 ?_
    refine p_cI (av := [_, _, _]) ⟨mok_X11_in, Or.inr ⟨141, rfl, rfl, sta_X11_in, Or.inl lk_X11_141⟩⟩ (Nat.le_of_ble_eq_true rfl) (Nat.le_of_ble_eq_true rfl) rfl (fun _ h => pc_X11_in hl h) h (fun v1419 M1418 h => ?_)
    refine p_if_ne h 23 rfl rfl (fun _ h => ?_) (fun _ h => ?_)
    · refine p_iconst cn_1 ?_
      refine p_goto 24 rfl rfl ?_
      exact p_fg (S_X11_seen_99_43 hl h) ⟨Or.inr rfl, Or.inr rfl, Or.inr rfl, Or.inr rfl, trivial⟩
    · refine p_iconst cn_0 ?_
      exact p_fg (S_X11_seen_99_43 hl h) ⟨Or.inr rfl, Or.inr rfl, Or.inr rfl, Or.inr rfl, trivial⟩
  · refine p_iconst cn_0 ?_
    exact p_iret rfl h
set_option maxRecDepth 100000 in
theorem S_X11_seen_99 {l : Launch} (hl : l.stackTraces = false) {M : PM} {a1 : Int32} {a2 : Int32} {a3 : Int32} {r : PR} (h : F_X11_seen_99 M a1 a2 a3 = some r) : PW l 2 Y_X11_seen k_X11_seen [vR 99, vI a1, vI a2, vI a3] [] M r := by
  unfold F_X11_seen_99 at h
  refine p_aload_n rfl ?_
  refine p_iconst cn_0 ?_
  refine p_putI fk_X11_107 gt_99 rfl ?_
  refine p_aload_n rfl ?_
  refine p_aload_n rfl ?_
  refine p_iload_n rfl ?_
  refine p_cI (av := [_, _]) ⟨mok_X11_isLaw, Or.inl ⟨236, 99, 11, 0, _, rfl, rfl, rfl, gt_99, rfl, ins_X11_isLaw, Or.inl lk_X11_236⟩⟩ (Nat.le_of_ble_eq_true rfl) (Nat.le_of_ble_eq_true rfl) rfl (fun _ h => pc_X11_isLaw_99 hl h) h (fun v1421 M1420 h => ?_)
  refine p_if_ne h 10 rfl rfl (fun _ h => ?_) (fun _ h => ?_)
  · refine p_iconst cn_1 ?_
    refine p_goto 11 rfl rfl ?_
    exact p_fg (S_X11_seen_99_19 hl h) ⟨Or.inr rfl, Or.inr rfl, Or.inr rfl, Or.inr rfl, trivial⟩
  · refine p_iconst cn_0 ?_
    exact p_fg (S_X11_seen_99_19 hl h) ⟨Or.inr rfl, Or.inr rfl, Or.inr rfl, Or.inr rfl, trivial⟩
set_option maxRecDepth 100000 in
theorem pc_X11_seen_99 {l : Launch} (hl : l.stackTraces = false) {M : PM} {a1 : Int32} {a2 : Int32} {a3 : Int32} {r : PR} (h : F_X11_seen_99 M a1 a2 a3 = some r) : PC l 2 Y_X11_seen [vR 99, vI a1, vI a2, vI a3] M r := pc_of hl (by decide +kernel) cok_X11_seen (Nat.le_of_ble_eq_true rfl) rfl (S_X11_seen_99 hl  h) rfl
def F_X11_isFit_99_82 (k2 : PM → Int32 → Int32 → Option PR) (M : PM) (x1 : Int32) (x2 : Int32) (t0 : Int32) (t1 : Int32) : Option PR := (if t0 = t1 then lt (x2 + 1) fun y1422 => k2 M x1 y1422 else (if (0 : Int32) &&& 1 = 0 then some (.inl (some (.int 0)), M) else none))
def F_X11_isFit_99_65 (k2 : PM → Int32 → Int32 → Option PR) (M : PM) (x1 : Int32) (x2 : Int32) (t0 : Int32) : Option PR := if ixOK x2 20 = true then if x2.toNatClampNeg < 20 ∧ ixOK 2 3 = true then (if mG M 119 x2.toNatClampNeg (2 : Int32).toNatClampNeg = 1 then F_X11_isFit_99_82 k2 M x1 x2 t0 1 else F_X11_isFit_99_82 k2 M x1 x2 t0 0) else none else none
def F_X11_isFit_99_2 : Nat → PM → Int32 → Int32 → Option PR
  | 0, _, _, _ => none
  | n + 1, M, x1, x2 => (if mI M 99 32 ≤ x2 then (if (1 : Int32) &&& 1 = 1 then some (.inl (some (.int 1)), M) else none) else if ixOK x2 20 = true then if x2.toNatClampNeg < 20 ∧ ixOK 0 3 = true then if ixOK (mG M 119 x2.toNatClampNeg (0 : Int32).toNatClampNeg) 12 = true then lt (mA M 107 (mG M 119 x2.toNatClampNeg (0 : Int32).toNatClampNeg).toNatClampNeg) fun y1423 => if ixOK x2 20 = true then if x2.toNatClampNeg < 20 ∧ ixOK 1 3 = true then if y1423 = 0 then none else if y1423 = 0 then none else lt ((((x1 - (mG M 119 x2.toNatClampNeg (1 : Int32).toNatClampNeg)) - (x1 - (mG M 119 x2.toNatClampNeg (1 : Int32).toNatClampNeg)) / y1423 * y1423) + y1423) - (((x1 - (mG M 119 x2.toNatClampNeg (1 : Int32).toNatClampNeg)) - (x1 - (mG M 119 x2.toNatClampNeg (1 : Int32).toNatClampNeg)) / y1423 * y1423) + y1423) / y1423 * y1423) fun y1424 => if ixOK x2 20 = true then if x2.toNatClampNeg < 20 ∧ ixOK 0 3 = true then if ixOK (mG M 119 x2.toNatClampNeg (0 : Int32).toNatClampNeg) 12 = true then (if y1424 = mA M 109 (mG M 119 x2.toNatClampNeg (0 : Int32).toNatClampNeg).toNatClampNeg then F_X11_isFit_99_65 (F_X11_isFit_99_2 n) M x1 x2 1 else F_X11_isFit_99_65 (F_X11_isFit_99_2 n) M x1 x2 0) else none else none else none else none else none else none else none else none)
def F_X11_isFit_99 (M : PM) (a1 : Int32) : Option PR := F_X11_isFit_99_2 FUEL M a1 0
set_option maxRecDepth 100000 in
theorem S_X11_isFit_99_82 {l : Launch} (hl : l.stackTraces = false) {k2 : PM → Int32 → Int32 → Option PR} (hk2 : ∀ {M : PM} {x1 : Int32} {x2 : Int32} {r : PR}, k2 M x1 x2 = some r → PW l 0 Y_X11_isFit k_X11_isFit_2 [vR 99, vI x1, vI x2, jk, jk] [] M r) {M : PM} {x1 : Int32} {x2 : Int32} {t0 : Int32} {t1 : Int32} {r : PR} (h : F_X11_isFit_99_82 k2 M x1 x2 t0 t1 = some r) : PW l 0 Y_X11_isFit k_X11_isFit_82 [vR 99, vI x1, vI x2, jk, jk] [vI t1, vI t0] M r := by
  unfold F_X11_isFit_99_82 at h
  refine p_icmp_eq h 59 rfl rfl (fun _ h => ?_) (fun _ h => ?_)
  · have h := lt_h h
    refine p_iinc (Nat.le_of_ble_eq_true rfl) rfl (ci_1 _) rfl ?_
    refine p_goto 2 rfl rfl ?_
    exact p_fg (hk2 h) ⟨Or.inr rfl, Or.inr rfl, Or.inr rfl, Or.inl rfl, Or.inl rfl, trivial⟩
  · refine p_iconst cn_0 ?_
    exact p_zret rfl h
set_option maxRecDepth 100000 in
theorem S_X11_isFit_99_65 {l : Launch} (hl : l.stackTraces = false) {k2 : PM → Int32 → Int32 → Option PR} (hk2 : ∀ {M : PM} {x1 : Int32} {x2 : Int32} {r : PR}, k2 M x1 x2 = some r → PW l 0 Y_X11_isFit k_X11_isFit_2 [vR 99, vI x1, vI x2, jk, jk] [] M r) {M : PM} {x1 : Int32} {x2 : Int32} {t0 : Int32} {r : PR} (h : F_X11_isFit_99_65 k2 M x1 x2 t0 = some r) : PW l 0 Y_X11_isFit k_X11_isFit_65 [vR 99, vI x1, vI x2, jk, jk] [vI t0] M r := by
  unfold F_X11_isFit_99_65 at h
  refine p_aload_n rfl ?_
  refine p_getR fk_X11_74 gt_99 rfl rfl ?_
  refine p_iload_n rfl ?_
  refine p_aldG gt_119 h (fun h => ?_)
  refine p_iconst cn_2 ?_
  refine p_ialdG gt_119 h (fun h => ?_)
  refine p_iconst cn_1 ?_
  refine p_icmp_ne h 55 rfl rfl (fun _ h => ?_) (fun _ h => ?_)
  · refine p_iconst cn_1 ?_
    refine p_goto 56 rfl rfl ?_
    exact p_fg (S_X11_isFit_99_82 hl hk2 h) ⟨Or.inr rfl, Or.inr rfl, Or.inr rfl, Or.inl rfl, Or.inl rfl, trivial⟩
  · refine p_iconst cn_0 ?_
    exact p_fg (S_X11_isFit_99_82 hl hk2 h) ⟨Or.inr rfl, Or.inr rfl, Or.inr rfl, Or.inl rfl, Or.inl rfl, trivial⟩
set_option maxRecDepth 100000 in
theorem S_X11_isFit_99_2 {l : Launch} (hl : l.stackTraces = false) : ∀ (n : Nat) {M : PM} {x1 : Int32} {x2 : Int32} {r : PR}, F_X11_isFit_99_2  n M x1 x2 = some r → PW l 0 Y_X11_isFit k_X11_isFit_2 [vR 99, vI x1, vI x2, jk, jk] [] M r := by
  intro n
  induction n with
  | zero => intro M x1 x2 r h; exact nomatch (show (none : Option PR) = some r from h)
  | succ n ih =>
    intro M x1 x2 r h
    rw [F_X11_isFit_99_2] at h
    refine p_iload_n rfl ?_
    refine p_aload_n rfl ?_
    refine p_getI fk_X11_196 gt_99 rfl ?_
    refine p_icmp_ge h 61 rfl rfl (fun _ h => ?_) (fun _ h => ?_)
    · refine p_iconst cn_1 ?_
      exact p_zret rfl h
    · refine p_aload_n rfl ?_
      refine p_getR fk_X11_35 gt_99 rfl rfl ?_
      refine p_aload_n rfl ?_
      refine p_getR fk_X11_74 gt_99 rfl rfl ?_
      refine p_iload_n rfl ?_
      refine p_aldG gt_119 h (fun h => ?_)
      refine p_iconst cn_0 ?_
      refine p_ialdG gt_119 h (fun h => ?_)
      refine p_iald gt_107 h (fun h => ?_)
      have h := lt_h h
      refine p_istore_n (Nat.le_of_ble_eq_true rfl) rfl ?_
      refine p_iload_n rfl ?_
      refine p_aload_n rfl ?_
      refine p_getR fk_X11_74 gt_99 rfl rfl ?_
      refine p_iload_n rfl ?_
      refine p_aldG gt_119 h (fun h => ?_)
      refine p_iconst cn_1 ?_
      refine p_ialdG gt_119 h (fun h => ?_)
      refine p_isub ?_
      refine p_iload_n rfl ?_
      refine p_irem h (fun h => ?_)
      refine p_iload_n rfl ?_
      refine p_iadd ?_
      refine p_iload_n rfl ?_
      refine p_irem h (fun h => ?_)
      have h := lt_h h
      refine p_istore (Nat.le_of_ble_eq_true rfl) rfl ?_
      refine p_iload rfl ?_
      refine p_aload_n rfl ?_
      refine p_getR fk_X11_41 gt_99 rfl rfl ?_
      refine p_aload_n rfl ?_
      refine p_getR fk_X11_74 gt_99 rfl rfl ?_
      refine p_iload_n rfl ?_
      refine p_aldG gt_119 h (fun h => ?_)
      refine p_iconst cn_0 ?_
      refine p_ialdG gt_119 h (fun h => ?_)
      refine p_iald gt_109 h (fun h => ?_)
      refine p_icmp_ne h 44 rfl rfl (fun _ h => ?_) (fun _ h => ?_)
      · refine p_iconst cn_1 ?_
        refine p_goto 45 rfl rfl ?_
        exact p_fg (S_X11_isFit_99_65 hl (fun h => ih h) h) ⟨Or.inr rfl, Or.inr rfl, Or.inr rfl, Or.inl rfl, Or.inl rfl, trivial⟩
      · refine p_iconst cn_0 ?_
        exact p_fg (S_X11_isFit_99_65 hl (fun h => ih h) h) ⟨Or.inr rfl, Or.inr rfl, Or.inr rfl, Or.inl rfl, Or.inl rfl, trivial⟩
set_option maxRecDepth 100000 in
theorem S_X11_isFit_99 {l : Launch} (hl : l.stackTraces = false) {M : PM} {a1 : Int32} {r : PR} (h : F_X11_isFit_99 M a1 = some r) : PW l 0 Y_X11_isFit k_X11_isFit [vR 99, vI a1, jk, jk, jk] [] M r := by
  unfold F_X11_isFit_99 at h
  refine p_iconst cn_0 ?_
  refine p_istore_n (Nat.le_of_ble_eq_true rfl) rfl ?_
  exact p_fg (S_X11_isFit_99_2 hl FUEL h) ⟨Or.inr rfl, Or.inr rfl, Or.inr rfl, Or.inl rfl, Or.inl rfl, trivial⟩
set_option maxRecDepth 100000 in
theorem pc_X11_isFit_99 {l : Launch} (hl : l.stackTraces = false) {M : PM} {a1 : Int32} {r : PR} (h : F_X11_isFit_99 M a1 = some r) : PC l 0 Y_X11_isFit [vR 99, vI a1] M r := pc_of hl (by decide +kernel) cok_X11_isFit (Nat.le_of_ble_eq_true rfl) rfl (S_X11_isFit_99 hl  h) rfl
def F_X11_fits_99_82 (k40 : PM → Int32 → Int32 → Int32 → Int32 → Int32 → Option PR) (M : PM) (x1 : Int32) (x2 : Int32) (x3 : Int32) (x4 : Int32) (x5 : Int32) : Option PR := lt (x5 + 1) fun y1425 => k40 M x1 x2 x3 x4 y1425
def F_X11_fits_99_77 (k40 : PM → Int32 → Int32 → Int32 → Int32 → Int32 → Option PR) (M : PM) (x1 : Int32) (x2 : Int32) (x5 : Int32) (t0 : Int32) : Option PR := F_X11_fits_99_82 k40 M x1 x2 t0 x5 x5
def F_X11_fits_99_40 : Nat → PM → Int32 → Int32 → Int32 → Int32 → Int32 → Option PR
  | 0, _, _, _, _, _, _ => none
  | n + 1, M, x1, x2, x3, x4, x5 => if ixOK 4 6 = true then (if mA M 103 (4 : Int32).toNatClampNeg ≤ x5 then (if x1 = 0 then some (.inl (some (.int x2)), M) else (if x1 = 1 then some (.inl (some (.int x3)), M) else some (.inl (some (.int x4)), M))) else cI (F_X11_isFit_99 M x5) fun v1427 M1426 => (if v1427 = 0 then F_X11_fits_99_82 (F_X11_fits_99_40 n) M1426 x1 x2 x3 x4 x5 else lt (x2 + 1) fun y1428 => (if x3 = (-1) then F_X11_fits_99_77 (F_X11_fits_99_40 n) M1426 x1 y1428 x5 x5 else F_X11_fits_99_77 (F_X11_fits_99_40 n) M1426 x1 y1428 x5 x3))) else none
def F_X11_fits_99_20 (M : PM) (x1 : Int32) (t1 : Int32) : Option PR := cI (F_X11_bad_99 M t1 1 2) fun v1430 M1429 => (if v1430 = 0 then F_X11_fits_99_40 FUEL M1429 x1 0 (-1) (-1) 0 else some (.inl (some (.int 0)), M1429))
def F_X11_fits_99 (M : PM) (a1 : Int32) : Option PR := cI (F_X11_in (sI M 99 0 0) a1 0 2) fun v1432 M1431 => (if v1432 = 0 then F_X11_fits_99_20 M1431 a1 1 else F_X11_fits_99_20 M1431 a1 0)
set_option maxRecDepth 100000 in
theorem S_X11_fits_99_82 {l : Launch} (hl : l.stackTraces = false) {k40 : PM → Int32 → Int32 → Int32 → Int32 → Int32 → Option PR} (hk40 : ∀ {M : PM} {x1 : Int32} {x2 : Int32} {x3 : Int32} {x4 : Int32} {x5 : Int32} {r : PR}, k40 M x1 x2 x3 x4 x5 = some r → PW l 1 Y_X11_fits k_X11_fits_40 [vR 99, vI x1, vI x2, vI x3, vI x4, vI x5] [] M r) {M : PM} {x1 : Int32} {x2 : Int32} {x3 : Int32} {x4 : Int32} {x5 : Int32} {r : PR} (h : F_X11_fits_99_82 k40 M x1 x2 x3 x4 x5 = some r) : PW l 1 Y_X11_fits k_X11_fits_82 [vR 99, vI x1, vI x2, vI x3, vI x4, vI x5] [] M r := by
  unfold F_X11_fits_99_82 at h
  have h := lt_h h
  refine p_iinc (Nat.le_of_ble_eq_true rfl) rfl (ci_1 _) rfl ?_
  refine p_goto 26 rfl rfl ?_
  exact p_fg (hk40 h) ⟨Or.inr rfl, Or.inr rfl, Or.inr rfl, Or.inr rfl, Or.inr rfl, Or.inr rfl, trivial⟩
set_option maxRecDepth 100000 in
theorem S_X11_fits_99_77 {l : Launch} (hl : l.stackTraces = false) {k40 : PM → Int32 → Int32 → Int32 → Int32 → Int32 → Option PR} (hk40 : ∀ {M : PM} {x1 : Int32} {x2 : Int32} {x3 : Int32} {x4 : Int32} {x5 : Int32} {r : PR}, k40 M x1 x2 x3 x4 x5 = some r → PW l 1 Y_X11_fits k_X11_fits_40 [vR 99, vI x1, vI x2, vI x3, vI x4, vI x5] [] M r) {M : PM} {x1 : Int32} {x2 : Int32} {x5 : Int32} {t0 : Int32} {r : PR} (h : F_X11_fits_99_77 k40 M x1 x2 x5 t0 = some r) : PW l 1 Y_X11_fits k_X11_fits_77 [vR 99, vI x1, vI x2, jk, jk, vI x5] [vI t0] M r := by
  unfold F_X11_fits_99_77 at h
  refine p_istore_n (Nat.le_of_ble_eq_true rfl) rfl ?_
  refine p_iload rfl ?_
  refine p_istore (Nat.le_of_ble_eq_true rfl) rfl ?_
  exact p_fg (S_X11_fits_99_82 hl hk40 h) ⟨Or.inr rfl, Or.inr rfl, Or.inr rfl, Or.inr rfl, Or.inr rfl, Or.inr rfl, trivial⟩
set_option maxRecDepth 100000 in
theorem S_X11_fits_99_40 {l : Launch} (hl : l.stackTraces = false) : ∀ (n : Nat) {M : PM} {x1 : Int32} {x2 : Int32} {x3 : Int32} {x4 : Int32} {x5 : Int32} {r : PR}, F_X11_fits_99_40  n M x1 x2 x3 x4 x5 = some r → PW l 1 Y_X11_fits k_X11_fits_40 [vR 99, vI x1, vI x2, vI x3, vI x4, vI x5] [] M r := by
  intro n
  induction n with
  | zero => intro M x1 x2 x3 x4 x5 r h; exact nomatch (show (none : Option PR) = some r from h)
  | succ n ih =>
    intro M x1 x2 x3 x4 x5 r h
    rw [F_X11_fits_99_40] at h
    refine p_iload rfl ?_
    refine p_aload_n rfl ?_
    refine p_getR fk_X11_23 gt_99 rfl rfl ?_
    refine p_iconst cn_4 ?_
    refine p_iald gt_103 h (fun h => ?_)
    refine p_icmp_ge h 49 rfl rfl (fun _ h => ?_) (fun _ h => ?_)
    · refine p_iload_n rfl ?_
      refine p_if_ne h 53 rfl rfl (fun _ h => ?_) (fun _ h => ?_)
      · refine p_iload_n rfl ?_
        refine p_goto 59 rfl rfl ?_
        exact p_iret rfl h
      · refine p_iload_n rfl ?_
        refine p_iconst cn_1 ?_
        refine p_icmp_ne h 58 rfl rfl (fun _ h => ?_) (fun _ h => ?_)
        · refine p_iload_n rfl ?_
          refine p_goto 59 rfl rfl ?_
          exact p_iret rfl h
        · refine p_iload rfl ?_
          exact p_iret rfl h
    · refine p_aload_n rfl ?_
      refine p_iload rfl ?_
      refine p_cI (av := [_, _]) ⟨mok_X11_isFit, Or.inl ⟨303, 99, 11, 0, _, rfl, rfl, rfl, gt_99, rfl, ins_X11_isFit, Or.inl lk_X11_303⟩⟩ (Nat.le_of_ble_eq_true rfl) (Nat.le_of_ble_eq_true rfl) rfl (fun _ h => pc_X11_isFit_99 hl h) h (fun v1427 M1426 h => ?_)
      refine p_if_ne h 37 rfl rfl (fun _ h => ?_) (fun _ h => ?_)
      · refine p_goto 47 rfl rfl ?_
        exact p_fg (S_X11_fits_99_82 hl (fun h => ih h) h) ⟨Or.inr rfl, Or.inr rfl, Or.inr rfl, Or.inr rfl, Or.inr rfl, Or.inr rfl, trivial⟩
      · have h := lt_h h
        refine p_iinc (Nat.le_of_ble_eq_true rfl) rfl (ci_1 _) rfl ?_
        refine p_iload_n rfl ?_
        refine p_iconst cn_m1 ?_
        refine p_icmp_ne h 43 rfl rfl (fun _ h => ?_) (fun _ h => ?_)
        · refine p_iload rfl ?_
          refine p_goto 44 rfl rfl ?_
          exact p_fg (S_X11_fits_99_77 hl (fun h => ih h) h) ⟨Or.inr rfl, Or.inr rfl, Or.inr rfl, Or.inl rfl, Or.inl rfl, Or.inr rfl, trivial⟩
        · refine p_iload_n rfl ?_
          exact p_fg (S_X11_fits_99_77 hl (fun h => ih h) h) ⟨Or.inr rfl, Or.inr rfl, Or.inr rfl, Or.inl rfl, Or.inl rfl, Or.inr rfl, trivial⟩
set_option maxRecDepth 100000 in
theorem S_X11_fits_99_20 {l : Launch} (hl : l.stackTraces = false) {M : PM} {x1 : Int32} {t1 : Int32} {r : PR} (h : F_X11_fits_99_20  M x1 t1 = some r) : PW l 1 Y_X11_fits k_X11_fits_20 [vR 99, vI x1, jk, jk, jk, jk] [vI t1, vR 99] M r := by
  unfold F_X11_fits_99_20 at h
  refine p_iconst cn_1 ?_
  refine p_iconst cn_2 ?_
  refine p_cI (av := [_, _, _, _]) ⟨mok_X11_bad, Or.inl ⟨180, 99, 11, 0, _, rfl, rfl, rfl, gt_99, rfl, ins_X11_bad, Or.inl lk_X11_180⟩⟩ (Nat.le_of_ble_eq_true rfl) (Nat.le_of_ble_eq_true rfl) rfl (fun _ h => pc_X11_bad_99 hl h) h (fun v1430 M1429 h => ?_)
  refine p_if_eq h 18 rfl rfl (fun _ h => ?_) (fun _ h => ?_)
  · refine p_iconst cn_0 ?_
    refine p_istore_n (Nat.le_of_ble_eq_true rfl) rfl ?_
    refine p_iconst cn_m1 ?_
    refine p_istore_n (Nat.le_of_ble_eq_true rfl) rfl ?_
    refine p_iconst cn_m1 ?_
    refine p_istore (Nat.le_of_ble_eq_true rfl) rfl ?_
    refine p_iconst cn_0 ?_
    refine p_istore (Nat.le_of_ble_eq_true rfl) rfl ?_
    exact p_fg (S_X11_fits_99_40 hl FUEL h) ⟨Or.inr rfl, Or.inr rfl, Or.inr rfl, Or.inr rfl, Or.inr rfl, Or.inr rfl, trivial⟩
  · refine p_iconst cn_0 ?_
    exact p_iret rfl h
set_option maxRecDepth 100000 in
theorem S_X11_fits_99 {l : Launch} (hl : l.stackTraces = false) {M : PM} {a1 : Int32} {r : PR} (h : F_X11_fits_99 M a1 = some r) : PW l 1 Y_X11_fits k_X11_fits [vR 99, vI a1, jk, jk, jk, jk] [] M r := by
  unfold F_X11_fits_99 at h
  refine p_aload_n rfl ?_
  refine p_iconst cn_0 ?_
  refine p_putI fk_X11_107 gt_99 rfl ?_
  refine p_aload_n rfl ?_
  refine p_iload_n rfl ?_
  refine p_iconst cn_0 ?_
  refine p_iconst cn_2 ?_
  refine p_cI (av := [_, _, _]) ⟨mok_X11_in, Or.inr ⟨141, rfl, rfl, sta_X11_in, Or.inl lk_X11_141⟩⟩ (Nat.le_of_ble_eq_true rfl) (Nat.le_of_ble_eq_true rfl) rfl (fun _ h => pc_X11_in hl h) h (fun v1432 M1431 h => ?_)
  refine p_if_ne h 11 rfl rfl (fun _ h => ?_) (fun _ h => ?_)
  · refine p_iconst cn_1 ?_
    refine p_goto 12 rfl rfl ?_
    exact p_fg (S_X11_fits_99_20 hl h) ⟨Or.inr rfl, Or.inr rfl, Or.inl rfl, Or.inl rfl, Or.inl rfl, Or.inl rfl, trivial⟩
  · refine p_iconst cn_0 ?_
    exact p_fg (S_X11_fits_99_20 hl h) ⟨Or.inr rfl, Or.inr rfl, Or.inl rfl, Or.inl rfl, Or.inl rfl, Or.inl rfl, trivial⟩
set_option maxRecDepth 100000 in
theorem pc_X11_fits_99 {l : Launch} (hl : l.stackTraces = false) {M : PM} {a1 : Int32} {r : PR} (h : F_X11_fits_99 M a1 = some r) : PC l 1 Y_X11_fits [vR 99, vI a1] M r := pc_of hl (by decide +kernel) cok_X11_fits (Nat.le_of_ble_eq_true rfl) rfl (S_X11_fits_99 hl  h) rfl
def F_X11_look_99_218 (k145 : PM → Int32 → Int32 → Int32 → Int32 → Int32 → Option PR) (M : PM) (x1 : Int32) (x2 : Int32) (x3 : Int32) (x4 : Int32) (x5 : Int32) : Option PR := lt (x5 + 1) fun y1433 => k145 M x1 x2 x3 x4 y1433
def F_X11_look_99_211 (k145 : PM → Int32 → Int32 → Int32 → Int32 → Int32 → Option PR) (M : PM) (x1 : Int32) (x2 : Int32) (x5 : Int32) (x6 : Int32) : Option PR := F_X11_look_99_218 k145 M x1 x2 x5 x6 x5
def F_X11_look_99_194 (k145 : PM → Int32 → Int32 → Int32 → Int32 → Int32 → Option PR) (M : PM) (x1 : Int32) (x2 : Int32) (x3 : Int32) (x4 : Int32) (x5 : Int32) (t0 : Int32) : Option PR := (if x3 = (-1) then F_X11_look_99_211 k145 M x1 x2 x5 t0 else (if t0 < x4 then F_X11_look_99_211 k145 M x1 x2 x5 t0 else F_X11_look_99_218 k145 M x1 x2 x3 x4 x5))
def F_X11_look_99_145 : Nat → PM → Int32 → Int32 → Int32 → Int32 → Int32 → Option PR
  | 0, _, _, _, _, _, _ => none
  | n + 1, M, x1, x2, x3, x4, x5 => if ixOK 0 6 = true then (if mA M 103 (0 : Int32).toNatClampNeg ≤ x5 then (if x1 = 0 then some (.inl (some (.int x3)), M) else (if x3 = (-1) then some (.inl (some (.int x2)), M) else some (.inl (some (.int x4)), M))) else if ixOK x5 12 = true then if ixOK x5 12 = true then (if mA M 126 x5.toNatClampNeg ≤ x2 - (mA M 126 x5.toNatClampNeg) then if ixOK x5 12 = true then F_X11_look_99_194 (F_X11_look_99_145 n) M x1 x2 x3 x4 x5 (x2 - (mA M 126 x5.toNatClampNeg)) else none else if ixOK x5 12 = true then F_X11_look_99_194 (F_X11_look_99_145 n) M x1 x2 x3 x4 x5 (mA M 126 x5.toNatClampNeg) else none) else none else none) else none
def F_X11_look_99_136 (k64 : PM → Int32 → Int32 → Int32 → Int32 → Int32 → Option PR) (M : PM) (x1 : Int32) (x2 : Int32) (x3 : Int32) (x4 : Int32) (x5 : Int32) : Option PR := lt (x5 + 1) fun y1434 => k64 M x1 x2 x3 x4 y1434
def F_X11_look_99_128 (k64 : PM → Int32 → Int32 → Int32 → Int32 → Int32 → Option PR) (k93 : PM → Int32 → Int32 → Int32 → Int32 → Int32 → Int32 → Option PR) (M : PM) (x1 : Int32) (x2 : Int32) (x3 : Int32) (x4 : Int32) (x5 : Int32) (x6 : Int32) (t1 : Int32) (t2 : Int32) (t3 : Int32) : Option PR := if ixOK t1 12 = true then lt (x6 + 1) fun y1435 => k93 (sA M 126 t1.toNatClampNeg (t2 + t3)) x1 x2 x3 x4 x5 y1435 else none
def F_X11_look_99_93 (k64 : PM → Int32 → Int32 → Int32 → Int32 → Int32 → Option PR) : Nat → PM → Int32 → Int32 → Int32 → Int32 → Int32 → Int32 → Option PR
  | 0, _, _, _, _, _, _, _ => none
  | n + 1, M, x1, x2, x3, x4, x5, x6 => if ixOK 0 6 = true then (if mA M 103 (0 : Int32).toNatClampNeg ≤ x6 then F_X11_look_99_136 k64 M x1 x2 x3 x4 x5 else if ixOK x6 12 = true then cI (F_X11_holdsAt_99 M x6 x5) fun v1437 M1436 => (if v1437 = 0 then F_X11_look_99_128 k64 (F_X11_look_99_93 k64 n) M1436 x1 x2 x3 x4 x5 x6 x6 (mA M 126 x6.toNatClampNeg) 0 else F_X11_look_99_128 k64 (F_X11_look_99_93 k64 n) M1436 x1 x2 x3 x4 x5 x6 x6 (mA M 126 x6.toNatClampNeg) 1) else none) else none
def F_X11_look_99_64 : Nat → PM → Int32 → Int32 → Int32 → Int32 → Int32 → Option PR
  | 0, _, _, _, _, _, _ => none
  | n + 1, M, x1, x2, x3, x4, x5 => if ixOK 4 6 = true then (if mA M 103 (4 : Int32).toNatClampNeg ≤ x5 then F_X11_look_99_145 FUEL M x1 x2 x3 x4 0 else cI (F_X11_isFit_99 M x5) fun v1439 M1438 => (if v1439 = 0 then F_X11_look_99_136 (F_X11_look_99_64 n) M1438 x1 x2 x3 x4 x5 else lt (x2 + 1) fun y1440 => F_X11_look_99_93 (F_X11_look_99_64 n) FUEL M1438 x1 y1440 x3 x4 x5 0)) else none
def F_X11_look_99_40 : Nat → PM → Int32 → Int32 → Int32 → Int32 → Int32 → Option PR
  | 0, _, _, _, _, _, _ => none
  | n + 1, M, x1, x2, x3, x4, x5 => (if 12 ≤ x5 then F_X11_look_99_64 FUEL M x1 x2 x3 x4 0 else if ixOK x5 12 = true then lt (x5 + 1) fun y1441 => F_X11_look_99_40 n (sA M 126 x5.toNatClampNeg 0) x1 x2 x3 x4 y1441 else none)
def F_X11_look_99_20 (M : PM) (x1 : Int32) (t1 : Int32) : Option PR := cI (F_X11_bad_99 M t1 1 2) fun v1443 M1442 => (if v1443 = 0 then F_X11_look_99_40 FUEL M1442 x1 0 (-1) 0 0 else some (.inl (some (.int 0)), M1442))
def F_X11_look_99 (M : PM) (a1 : Int32) : Option PR := cI (F_X11_in (sI M 99 0 0) a1 0 1) fun v1445 M1444 => (if v1445 = 0 then F_X11_look_99_20 M1444 a1 1 else F_X11_look_99_20 M1444 a1 0)
set_option maxRecDepth 100000 in
theorem S_X11_look_99_218 {l : Launch} (hl : l.stackTraces = false) {k145 : PM → Int32 → Int32 → Int32 → Int32 → Int32 → Option PR} (hk145 : ∀ {M : PM} {x1 : Int32} {x2 : Int32} {x3 : Int32} {x4 : Int32} {x5 : Int32} {r : PR}, k145 M x1 x2 x3 x4 x5 = some r → PW l 1 Y_X11_look k_X11_look_145 [vR 99, vI x1, vI x2, vI x3, vI x4, vI x5, jk] [] M r) {M : PM} {x1 : Int32} {x2 : Int32} {x3 : Int32} {x4 : Int32} {x5 : Int32} {r : PR} (h : F_X11_look_99_218 k145 M x1 x2 x3 x4 x5 = some r) : PW l 1 Y_X11_look k_X11_look_218 [vR 99, vI x1, vI x2, vI x3, vI x4, vI x5, jk] [] M r := by
  unfold F_X11_look_99_218 at h
  have h := lt_h h
  refine p_iinc (Nat.le_of_ble_eq_true rfl) rfl (ci_1 _) rfl ?_
  refine p_goto 79 rfl rfl ?_
  exact p_fg (hk145 h) ⟨Or.inr rfl, Or.inr rfl, Or.inr rfl, Or.inr rfl, Or.inr rfl, Or.inr rfl, Or.inl rfl, trivial⟩
set_option maxRecDepth 100000 in
theorem S_X11_look_99_211 {l : Launch} (hl : l.stackTraces = false) {k145 : PM → Int32 → Int32 → Int32 → Int32 → Int32 → Option PR} (hk145 : ∀ {M : PM} {x1 : Int32} {x2 : Int32} {x3 : Int32} {x4 : Int32} {x5 : Int32} {r : PR}, k145 M x1 x2 x3 x4 x5 = some r → PW l 1 Y_X11_look k_X11_look_145 [vR 99, vI x1, vI x2, vI x3, vI x4, vI x5, jk] [] M r) {M : PM} {x1 : Int32} {x2 : Int32} {x5 : Int32} {x6 : Int32} {r : PR} (h : F_X11_look_99_211 k145 M x1 x2 x5 x6 = some r) : PW l 1 Y_X11_look k_X11_look_211 [vR 99, vI x1, vI x2, jk, jk, vI x5, vI x6] [] M r := by
  unfold F_X11_look_99_211 at h
  refine p_iload rfl ?_
  refine p_istore_n (Nat.le_of_ble_eq_true rfl) rfl ?_
  refine p_iload rfl ?_
  refine p_istore (Nat.le_of_ble_eq_true rfl) rfl ?_
  exact p_fg (S_X11_look_99_218 hl hk145 h) ⟨Or.inr rfl, Or.inr rfl, Or.inr rfl, Or.inr rfl, Or.inr rfl, Or.inr rfl, Or.inl rfl, trivial⟩
set_option maxRecDepth 100000 in
theorem S_X11_look_99_194 {l : Launch} (hl : l.stackTraces = false) {k145 : PM → Int32 → Int32 → Int32 → Int32 → Int32 → Option PR} (hk145 : ∀ {M : PM} {x1 : Int32} {x2 : Int32} {x3 : Int32} {x4 : Int32} {x5 : Int32} {r : PR}, k145 M x1 x2 x3 x4 x5 = some r → PW l 1 Y_X11_look k_X11_look_145 [vR 99, vI x1, vI x2, vI x3, vI x4, vI x5, jk] [] M r) {M : PM} {x1 : Int32} {x2 : Int32} {x3 : Int32} {x4 : Int32} {x5 : Int32} {t0 : Int32} {r : PR} (h : F_X11_look_99_194 k145 M x1 x2 x3 x4 x5 t0 = some r) : PW l 1 Y_X11_look k_X11_look_194 [vR 99, vI x1, vI x2, vI x3, vI x4, vI x5, jk] [vI t0] M r := by
  unfold F_X11_look_99_194 at h
  refine p_istore (Nat.le_of_ble_eq_true rfl) rfl ?_
  refine p_iload_n rfl ?_
  refine p_iconst cn_m1 ?_
  refine p_icmp_eq h 115 rfl rfl (fun _ h => ?_) (fun _ h => ?_)
  · exact p_fg (S_X11_look_99_211 hl hk145 h) ⟨Or.inr rfl, Or.inr rfl, Or.inr rfl, Or.inl rfl, Or.inl rfl, Or.inr rfl, Or.inr rfl, trivial⟩
  · refine p_iload rfl ?_
    refine p_iload rfl ?_
    refine p_icmp_lt h 115 rfl rfl (fun _ h => ?_) (fun _ h => ?_)
    · exact p_fg (S_X11_look_99_211 hl hk145 h) ⟨Or.inr rfl, Or.inr rfl, Or.inr rfl, Or.inl rfl, Or.inl rfl, Or.inr rfl, Or.inr rfl, trivial⟩
    · refine p_goto 119 rfl rfl ?_
      exact p_fg (S_X11_look_99_218 hl hk145 h) ⟨Or.inr rfl, Or.inr rfl, Or.inr rfl, Or.inr rfl, Or.inr rfl, Or.inr rfl, Or.inl rfl, trivial⟩
set_option maxRecDepth 100000 in
theorem S_X11_look_99_145 {l : Launch} (hl : l.stackTraces = false) : ∀ (n : Nat) {M : PM} {x1 : Int32} {x2 : Int32} {x3 : Int32} {x4 : Int32} {x5 : Int32} {r : PR}, F_X11_look_99_145  n M x1 x2 x3 x4 x5 = some r → PW l 1 Y_X11_look k_X11_look_145 [vR 99, vI x1, vI x2, vI x3, vI x4, vI x5, jk] [] M r := by
  intro n
  induction n with
  | zero => intro M x1 x2 x3 x4 x5 r h; exact nomatch (show (none : Option PR) = some r from h)
  | succ n ih =>
    intro M x1 x2 x3 x4 x5 r h
    rw [F_X11_look_99_145] at h
    refine p_iload rfl ?_
    refine p_aload_n rfl ?_
    refine p_getR fk_X11_23 gt_99 rfl rfl ?_
    refine p_iconst cn_0 ?_
    refine p_iald gt_103 h (fun h => ?_)
    refine p_icmp_ge h 121 rfl rfl (fun _ h => ?_) (fun _ h => ?_)
    · refine p_iload_n rfl ?_
      refine p_if_ne h 125 rfl rfl (fun _ h => ?_) (fun _ h => ?_)
      · refine p_iload_n rfl ?_
        refine p_goto 131 rfl rfl ?_
        exact p_iret rfl h
      · refine p_iload_n rfl ?_
        refine p_iconst cn_m1 ?_
        refine p_icmp_ne h 130 rfl rfl (fun _ h => ?_) (fun _ h => ?_)
        · refine p_iload_n rfl ?_
          refine p_goto 131 rfl rfl ?_
          exact p_iret rfl h
        · refine p_iload rfl ?_
          exact p_iret rfl h
    · refine p_aload_n rfl ?_
      refine p_getR fk_X11_95 gt_99 rfl rfl ?_
      refine p_iload rfl ?_
      refine p_iald gt_126 h (fun h => ?_)
      refine p_iload_n rfl ?_
      refine p_aload_n rfl ?_
      refine p_getR fk_X11_95 gt_99 rfl rfl ?_
      refine p_iload rfl ?_
      refine p_iald gt_126 h (fun h => ?_)
      refine p_isub ?_
      refine p_icmp_le h 101 rfl rfl (fun _ h => ?_) (fun _ h => ?_)
      · refine p_iload_n rfl ?_
        refine p_aload_n rfl ?_
        refine p_getR fk_X11_95 gt_99 rfl rfl ?_
        refine p_iload rfl ?_
        refine p_iald gt_126 h (fun h => ?_)
        refine p_isub ?_
        exact p_fg (S_X11_look_99_194 hl (fun h => ih h) h) ⟨Or.inr rfl, Or.inr rfl, Or.inr rfl, Or.inr rfl, Or.inr rfl, Or.inr rfl, Or.inl rfl, trivial⟩
      · refine p_aload_n rfl ?_
        refine p_getR fk_X11_95 gt_99 rfl rfl ?_
        refine p_iload rfl ?_
        refine p_iald gt_126 h (fun h => ?_)
        refine p_goto 107 rfl rfl ?_
        exact p_fg (S_X11_look_99_194 hl (fun h => ih h) h) ⟨Or.inr rfl, Or.inr rfl, Or.inr rfl, Or.inr rfl, Or.inr rfl, Or.inr rfl, Or.inl rfl, trivial⟩
set_option maxRecDepth 100000 in
theorem S_X11_look_99_136 {l : Launch} (hl : l.stackTraces = false) {k64 : PM → Int32 → Int32 → Int32 → Int32 → Int32 → Option PR} (hk64 : ∀ {M : PM} {x1 : Int32} {x2 : Int32} {x3 : Int32} {x4 : Int32} {x5 : Int32} {r : PR}, k64 M x1 x2 x3 x4 x5 = some r → PW l 1 Y_X11_look k_X11_look_64 [vR 99, vI x1, vI x2, vI x3, vI x4, vI x5, jk] [] M r) {M : PM} {x1 : Int32} {x2 : Int32} {x3 : Int32} {x4 : Int32} {x5 : Int32} {r : PR} (h : F_X11_look_99_136 k64 M x1 x2 x3 x4 x5 = some r) : PW l 1 Y_X11_look k_X11_look_136 [vR 99, vI x1, vI x2, vI x3, vI x4, vI x5, jk] [] M r := by
  unfold F_X11_look_99_136 at h
  have h := lt_h h
  refine p_iinc (Nat.le_of_ble_eq_true rfl) rfl (ci_1 _) rfl ?_
  refine p_goto 38 rfl rfl ?_
  exact p_fg (hk64 h) ⟨Or.inr rfl, Or.inr rfl, Or.inr rfl, Or.inr rfl, Or.inr rfl, Or.inr rfl, Or.inl rfl, trivial⟩
set_option maxRecDepth 100000 in
theorem S_X11_look_99_128 {l : Launch} (hl : l.stackTraces = false) {k64 : PM → Int32 → Int32 → Int32 → Int32 → Int32 → Option PR} {k93 : PM → Int32 → Int32 → Int32 → Int32 → Int32 → Int32 → Option PR} (hk64 : ∀ {M : PM} {x1 : Int32} {x2 : Int32} {x3 : Int32} {x4 : Int32} {x5 : Int32} {r : PR}, k64 M x1 x2 x3 x4 x5 = some r → PW l 1 Y_X11_look k_X11_look_64 [vR 99, vI x1, vI x2, vI x3, vI x4, vI x5, jk] [] M r) (hk93 : ∀ {M : PM} {x1 : Int32} {x2 : Int32} {x3 : Int32} {x4 : Int32} {x5 : Int32} {x6 : Int32} {r : PR}, k93 M x1 x2 x3 x4 x5 x6 = some r → PW l 1 Y_X11_look k_X11_look_93 [vR 99, vI x1, vI x2, vI x3, vI x4, vI x5, vI x6] [] M r) {M : PM} {x1 : Int32} {x2 : Int32} {x3 : Int32} {x4 : Int32} {x5 : Int32} {x6 : Int32} {t1 : Int32} {t2 : Int32} {t3 : Int32} {r : PR} (h : F_X11_look_99_128 k64 k93 M x1 x2 x3 x4 x5 x6 t1 t2 t3 = some r) : PW l 1 Y_X11_look k_X11_look_128 [vR 99, vI x1, vI x2, vI x3, vI x4, vI x5, vI x6] [vI t3, vI t2, vI t1, vR 126] M r := by
  unfold F_X11_look_99_128 at h
  refine p_iadd ?_
  refine p_iast gt_126 h (fun h => ?_)
  have h := lt_h h
  refine p_iinc (Nat.le_of_ble_eq_true rfl) rfl (ci_1 _) rfl ?_
  refine p_goto 52 rfl rfl ?_
  exact p_fg (hk93 h) ⟨Or.inr rfl, Or.inr rfl, Or.inr rfl, Or.inr rfl, Or.inr rfl, Or.inr rfl, Or.inr rfl, trivial⟩
set_option maxRecDepth 100000 in
theorem S_X11_look_99_93 {l : Launch} (hl : l.stackTraces = false) {k64 : PM → Int32 → Int32 → Int32 → Int32 → Int32 → Option PR} (hk64 : ∀ {M : PM} {x1 : Int32} {x2 : Int32} {x3 : Int32} {x4 : Int32} {x5 : Int32} {r : PR}, k64 M x1 x2 x3 x4 x5 = some r → PW l 1 Y_X11_look k_X11_look_64 [vR 99, vI x1, vI x2, vI x3, vI x4, vI x5, jk] [] M r) : ∀ (n : Nat) {M : PM} {x1 : Int32} {x2 : Int32} {x3 : Int32} {x4 : Int32} {x5 : Int32} {x6 : Int32} {r : PR}, F_X11_look_99_93 k64 n M x1 x2 x3 x4 x5 x6 = some r → PW l 1 Y_X11_look k_X11_look_93 [vR 99, vI x1, vI x2, vI x3, vI x4, vI x5, vI x6] [] M r := by
  intro n
  induction n with
  | zero => intro M x1 x2 x3 x4 x5 x6 r h; exact nomatch (show (none : Option PR) = some r from h)
  | succ n ih =>
    intro M x1 x2 x3 x4 x5 x6 r h
    rw [F_X11_look_99_93] at h
    refine p_iload rfl ?_
    refine p_aload_n rfl ?_
    refine p_getR fk_X11_23 gt_99 rfl rfl ?_
    refine p_iconst cn_0 ?_
    refine p_iald gt_103 h (fun h => ?_)
    refine p_icmp_ge h 75 rfl rfl (fun _ h => ?_) (fun _ h => ?_)
    · exact p_fg (S_X11_look_99_136 hl hk64 h) ⟨Or.inr rfl, Or.inr rfl, Or.inr rfl, Or.inr rfl, Or.inr rfl, Or.inr rfl, Or.inl rfl, trivial⟩
    · refine p_aload_n rfl ?_
      refine p_getR fk_X11_95 gt_99 rfl rfl ?_
      refine p_iload rfl ?_
      refine p_dup2 rfl rfl ?_
      refine p_iald gt_126 h (fun h => ?_)
      refine p_aload_n rfl ?_
      refine p_iload rfl ?_
      refine p_iload rfl ?_
      refine p_cI (av := [_, _, _]) ⟨mok_X11_holdsAt, Or.inl ⟨243, 99, 11, 0, _, rfl, rfl, rfl, gt_99, rfl, ins_X11_holdsAt, Or.inl lk_X11_243⟩⟩ (Nat.le_of_ble_eq_true rfl) (Nat.le_of_ble_eq_true rfl) rfl (fun _ h => pc_X11_holdsAt_99 hl h) h (fun v1437 M1436 h => ?_)
      refine p_if_eq h 70 rfl rfl (fun _ h => ?_) (fun _ h => ?_)
      · refine p_iconst cn_0 ?_
        exact p_fg (S_X11_look_99_128 hl hk64 (fun h => ih h) h) ⟨Or.inr rfl, Or.inr rfl, Or.inr rfl, Or.inr rfl, Or.inr rfl, Or.inr rfl, Or.inr rfl, trivial⟩
      · refine p_iconst cn_1 ?_
        refine p_goto 71 rfl rfl ?_
        exact p_fg (S_X11_look_99_128 hl hk64 (fun h => ih h) h) ⟨Or.inr rfl, Or.inr rfl, Or.inr rfl, Or.inr rfl, Or.inr rfl, Or.inr rfl, Or.inr rfl, trivial⟩
set_option maxRecDepth 100000 in
theorem S_X11_look_99_64 {l : Launch} (hl : l.stackTraces = false) : ∀ (n : Nat) {M : PM} {x1 : Int32} {x2 : Int32} {x3 : Int32} {x4 : Int32} {x5 : Int32} {r : PR}, F_X11_look_99_64  n M x1 x2 x3 x4 x5 = some r → PW l 1 Y_X11_look k_X11_look_64 [vR 99, vI x1, vI x2, vI x3, vI x4, vI x5, jk] [] M r := by
  intro n
  induction n with
  | zero => intro M x1 x2 x3 x4 x5 r h; exact nomatch (show (none : Option PR) = some r from h)
  | succ n ih =>
    intro M x1 x2 x3 x4 x5 r h
    rw [F_X11_look_99_64] at h
    refine p_iload rfl ?_
    refine p_aload_n rfl ?_
    refine p_getR fk_X11_23 gt_99 rfl rfl ?_
    refine p_iconst cn_4 ?_
    refine p_iald gt_103 h (fun h => ?_)
    refine p_icmp_ge h 77 rfl rfl (fun _ h => ?_) (fun _ h => ?_)
    · refine p_iconst cn_0 ?_
      refine p_istore (Nat.le_of_ble_eq_true rfl) rfl ?_
      exact p_fg (S_X11_look_99_145 hl FUEL h) ⟨Or.inr rfl, Or.inr rfl, Or.inr rfl, Or.inr rfl, Or.inr rfl, Or.inr rfl, Or.inl rfl, trivial⟩
    · refine p_aload_n rfl ?_
      refine p_iload rfl ?_
      refine p_cI (av := [_, _]) ⟨mok_X11_isFit, Or.inl ⟨303, 99, 11, 0, _, rfl, rfl, rfl, gt_99, rfl, ins_X11_isFit, Or.inl lk_X11_303⟩⟩ (Nat.le_of_ble_eq_true rfl) (Nat.le_of_ble_eq_true rfl) rfl (fun _ h => pc_X11_isFit_99 hl h) h (fun v1439 M1438 h => ?_)
      refine p_if_ne h 49 rfl rfl (fun _ h => ?_) (fun _ h => ?_)
      · refine p_goto 75 rfl rfl ?_
        exact p_fg (S_X11_look_99_136 hl (fun h => ih h) h) ⟨Or.inr rfl, Or.inr rfl, Or.inr rfl, Or.inr rfl, Or.inr rfl, Or.inr rfl, Or.inl rfl, trivial⟩
      · have h := lt_h h
        refine p_iinc (Nat.le_of_ble_eq_true rfl) rfl (ci_1 _) rfl ?_
        refine p_iconst cn_0 ?_
        refine p_istore (Nat.le_of_ble_eq_true rfl) rfl ?_
        exact p_fg (S_X11_look_99_93 hl (fun h => ih h) FUEL h) ⟨Or.inr rfl, Or.inr rfl, Or.inr rfl, Or.inr rfl, Or.inr rfl, Or.inr rfl, Or.inr rfl, trivial⟩
set_option maxRecDepth 100000 in
theorem S_X11_look_99_40 {l : Launch} (hl : l.stackTraces = false) : ∀ (n : Nat) {M : PM} {x1 : Int32} {x2 : Int32} {x3 : Int32} {x4 : Int32} {x5 : Int32} {r : PR}, F_X11_look_99_40  n M x1 x2 x3 x4 x5 = some r → PW l 1 Y_X11_look k_X11_look_40 [vR 99, vI x1, vI x2, vI x3, vI x4, vI x5, jk] [] M r := by
  intro n
  induction n with
  | zero => intro M x1 x2 x3 x4 x5 r h; exact nomatch (show (none : Option PR) = some r from h)
  | succ n ih =>
    intro M x1 x2 x3 x4 x5 r h
    rw [F_X11_look_99_40] at h
    refine p_iload rfl ?_
    refine p_bipush cb_12 ?_
    refine p_icmp_ge h 36 rfl rfl (fun _ h => ?_) (fun _ h => ?_)
    · refine p_iconst cn_0 ?_
      refine p_istore (Nat.le_of_ble_eq_true rfl) rfl ?_
      exact p_fg (S_X11_look_99_64 hl FUEL h) ⟨Or.inr rfl, Or.inr rfl, Or.inr rfl, Or.inr rfl, Or.inr rfl, Or.inr rfl, Or.inl rfl, trivial⟩
    · refine p_aload_n rfl ?_
      refine p_getR fk_X11_95 gt_99 rfl rfl ?_
      refine p_iload rfl ?_
      refine p_iconst cn_0 ?_
      refine p_iast gt_126 h (fun h => ?_)
      have h := lt_h h
      refine p_iinc (Nat.le_of_ble_eq_true rfl) rfl (ci_1 _) rfl ?_
      refine p_goto 26 rfl rfl ?_
      exact p_fg (ih h) ⟨Or.inr rfl, Or.inr rfl, Or.inr rfl, Or.inr rfl, Or.inr rfl, Or.inr rfl, Or.inl rfl, trivial⟩
set_option maxRecDepth 100000 in
theorem S_X11_look_99_20 {l : Launch} (hl : l.stackTraces = false) {M : PM} {x1 : Int32} {t1 : Int32} {r : PR} (h : F_X11_look_99_20  M x1 t1 = some r) : PW l 1 Y_X11_look k_X11_look_20 [vR 99, vI x1, jk, jk, jk, jk, jk] [vI t1, vR 99] M r := by
  unfold F_X11_look_99_20 at h
  refine p_iconst cn_1 ?_
  refine p_iconst cn_2 ?_
  refine p_cI (av := [_, _, _, _]) ⟨mok_X11_bad, Or.inl ⟨180, 99, 11, 0, _, rfl, rfl, rfl, gt_99, rfl, ins_X11_bad, Or.inl lk_X11_180⟩⟩ (Nat.le_of_ble_eq_true rfl) (Nat.le_of_ble_eq_true rfl) rfl (fun _ h => pc_X11_bad_99 hl h) h (fun v1443 M1442 h => ?_)
  refine p_if_eq h 18 rfl rfl (fun _ h => ?_) (fun _ h => ?_)
  · refine p_iconst cn_0 ?_
    refine p_istore_n (Nat.le_of_ble_eq_true rfl) rfl ?_
    refine p_iconst cn_m1 ?_
    refine p_istore_n (Nat.le_of_ble_eq_true rfl) rfl ?_
    refine p_iconst cn_0 ?_
    refine p_istore (Nat.le_of_ble_eq_true rfl) rfl ?_
    refine p_iconst cn_0 ?_
    refine p_istore (Nat.le_of_ble_eq_true rfl) rfl ?_
    exact p_fg (S_X11_look_99_40 hl FUEL h) ⟨Or.inr rfl, Or.inr rfl, Or.inr rfl, Or.inr rfl, Or.inr rfl, Or.inr rfl, Or.inl rfl, trivial⟩
  · refine p_iconst cn_0 ?_
    exact p_iret rfl h
set_option maxRecDepth 100000 in
theorem S_X11_look_99 {l : Launch} (hl : l.stackTraces = false) {M : PM} {a1 : Int32} {r : PR} (h : F_X11_look_99 M a1 = some r) : PW l 1 Y_X11_look k_X11_look [vR 99, vI a1, jk, jk, jk, jk, jk] [] M r := by
  unfold F_X11_look_99 at h
  refine p_aload_n rfl ?_
  refine p_iconst cn_0 ?_
  refine p_putI fk_X11_107 gt_99 rfl ?_
  refine p_aload_n rfl ?_
  refine p_iload_n rfl ?_
  refine p_iconst cn_0 ?_
  refine p_iconst cn_1 ?_
  refine p_cI (av := [_, _, _]) ⟨mok_X11_in, Or.inr ⟨141, rfl, rfl, sta_X11_in, Or.inl lk_X11_141⟩⟩ (Nat.le_of_ble_eq_true rfl) (Nat.le_of_ble_eq_true rfl) rfl (fun _ h => pc_X11_in hl h) h (fun v1445 M1444 h => ?_)
  refine p_if_ne h 11 rfl rfl (fun _ h => ?_) (fun _ h => ?_)
  · refine p_iconst cn_1 ?_
    refine p_goto 12 rfl rfl ?_
    exact p_fg (S_X11_look_99_20 hl h) ⟨Or.inr rfl, Or.inr rfl, Or.inl rfl, Or.inl rfl, Or.inl rfl, Or.inl rfl, Or.inl rfl, trivial⟩
  · refine p_iconst cn_0 ?_
    exact p_fg (S_X11_look_99_20 hl h) ⟨Or.inr rfl, Or.inr rfl, Or.inl rfl, Or.inl rfl, Or.inl rfl, Or.inl rfl, Or.inl rfl, trivial⟩
set_option maxRecDepth 100000 in
theorem pc_X11_look_99 {l : Launch} (hl : l.stackTraces = false) {M : PM} {a1 : Int32} {r : PR} (h : F_X11_look_99 M a1 = some r) : PC l 1 Y_X11_look [vR 99, vI a1] M r := pc_of hl (by decide +kernel) cok_X11_look (Nat.le_of_ble_eq_true rfl) rfl (S_X11_look_99 hl  h) rfl
def F_X11_did_99_125 (M : PM) (t0 : Nat) (t1 : Int32) (t2 : Int32) : Option PR := if t0 < 20 ∧ ixOK t1 4 = true then some (.inl (some (.int (mI (sI (sG M 120 t0 t1.toNatClampNeg t2) 99 33 ((mI (sG M 120 t0 t1.toNatClampNeg t2) 99 33) + 1)) 99 33))), sI (sG M 120 t0 t1.toNatClampNeg t2) 99 33 ((mI (sG M 120 t0 t1.toNatClampNeg t2) 99 33) + 1)) else none
def F_X11_did_99_48 (M : PM) (x1 : Int32) (x2 : Int32) (x3 : Int32) (x4 : Int32) (t1 : Int32) : Option PR := cI (F_X11_bad_99 M t1 2 1) fun v1447 M1446 => (if v1447 = 0 then (if mI M1446 99 33 = 20 then some (.inl (some (.int (-1))), M1446) else if ixOK (mI M1446 99 33) 20 = true then if (mI M1446 99 33).toNatClampNeg < 20 ∧ ixOK 0 4 = true then if ixOK (mI (sG M1446 120 ((mI M1446 99 33).toNatClampNeg) (0 : Int32).toNatClampNeg x1) 99 33) 20 = true then if (mI (sG M1446 120 ((mI M1446 99 33).toNatClampNeg) (0 : Int32).toNatClampNeg x1) 99 33).toNatClampNeg < 20 ∧ ixOK 1 4 = true then lt (sG (sG M1446 120 ((mI M1446 99 33).toNatClampNeg) (0 : Int32).toNatClampNeg x1) 120 ((mI (sG M1446 120 ((mI M1446 99 33).toNatClampNeg) (0 : Int32).toNatClampNeg x1) 99 33).toNatClampNeg) (1 : Int32).toNatClampNeg x2) fun M1448 => if ixOK (mI M1448 99 33) 20 = true then if (mI M1448 99 33).toNatClampNeg < 20 ∧ ixOK 2 4 = true then if ixOK (mI (sG M1448 120 ((mI M1448 99 33).toNatClampNeg) (2 : Int32).toNatClampNeg x3) 99 33) 20 = true then (if x4 = 0 then F_X11_did_99_125 (sG M1448 120 ((mI M1448 99 33).toNatClampNeg) (2 : Int32).toNatClampNeg x3) ((mI (sG M1448 120 ((mI M1448 99 33).toNatClampNeg) (2 : Int32).toNatClampNeg x3) 99 33).toNatClampNeg) 3 0 else F_X11_did_99_125 (sG M1448 120 ((mI M1448 99 33).toNatClampNeg) (2 : Int32).toNatClampNeg x3) ((mI (sG M1448 120 ((mI M1448 99 33).toNatClampNeg) (2 : Int32).toNatClampNeg x3) 99 33).toNatClampNeg) 3 1) else none else none else none else none else none else none else none) else some (.inl (some (.int 0)), M1446))
def F_X11_did_99_43 (M : PM) (x1 : Int32) (x2 : Int32) (x3 : Int32) (x4 : Int32) : Option PR := F_X11_did_99_48 M x1 x2 x3 x4 1
def F_X11_did_99_18 (M : PM) (x1 : Int32) (x2 : Int32) (x3 : Int32) (x4 : Int32) (t1 : Int32) : Option PR := cI (F_X11_bad_99 M t1 1 0) fun v1450 M1449 => (if v1450 = 0 then cI (F_X11_isHouse_99 M1449 x1) fun v1452 M1451 => (if v1452 = 0 then F_X11_did_99_43 M1451 x1 x2 x3 x4 else cI (F_X11_isLaw_99 M1451 x2) fun v1454 M1453 => (if v1454 = 0 then F_X11_did_99_43 M1453 x1 x2 x3 x4 else F_X11_did_99_48 M1453 x1 x2 x3 x4 0)) else some (.inl (some (.int 0)), M1449))
def F_X11_did_99 (M : PM) (a1 : Int32) (a2 : Int32) (a3 : Int32) (a4 : Int32) : Option PR := cI (F_X11_isDay (sI M 99 0 0) a3) fun v1456 M1455 => (if v1456 = 0 then F_X11_did_99_18 M1455 a1 a2 a3 a4 1 else F_X11_did_99_18 M1455 a1 a2 a3 a4 0)
set_option maxRecDepth 100000 in
theorem S_X11_did_99_125 {l : Launch} (hl : l.stackTraces = false) {M : PM} {t0 : Nat} {t1 : Int32} {t2 : Int32} {r : PR} (h : F_X11_did_99_125  M t0 t1 t2 = some r) : PW l 2 Y_X11_did k_X11_did_125 [vR 99, jk, jk, jk, jk] [vI t2, vI t1, vG 120 t0] M r := by
  unfold F_X11_did_99_125 at h
  refine p_iastG gt_120 h (fun h => ?_)
  refine p_aload_n rfl ?_
  refine p_dup rfl ?_
  refine p_getI fk_X11_199 gt_99 rfl ?_
  refine p_iconst cn_1 ?_
  refine p_iadd ?_
  refine p_putI fk_X11_199 gt_99 rfl ?_
  refine p_aload_n rfl ?_
  refine p_getI fk_X11_199 gt_99 rfl ?_
  exact p_iret rfl h
set_option maxRecDepth 100000 in
theorem S_X11_did_99_48 {l : Launch} (hl : l.stackTraces = false) {M : PM} {x1 : Int32} {x2 : Int32} {x3 : Int32} {x4 : Int32} {t1 : Int32} {r : PR} (h : F_X11_did_99_48  M x1 x2 x3 x4 t1 = some r) : PW l 2 Y_X11_did k_X11_did_48 [vR 99, vI x1, vI x2, vI x3, vI x4] [vI t1, vR 99] M r := by
  unfold F_X11_did_99_48 at h
  refine p_iconst cn_2 ?_
  refine p_iconst cn_1 ?_
  refine p_cI (av := [_, _, _, _]) ⟨mok_X11_bad, Or.inl ⟨180, 99, 11, 0, _, rfl, rfl, rfl, gt_99, rfl, ins_X11_bad, Or.inl lk_X11_180⟩⟩ (Nat.le_of_ble_eq_true rfl) (Nat.le_of_ble_eq_true rfl) rfl (fun _ h => pc_X11_bad_99 hl h) h (fun v1447 M1446 h => ?_)
  refine p_if_eq h 32 rfl rfl (fun _ h => ?_) (fun _ h => ?_)
  · refine p_aload_n rfl ?_
    refine p_getI fk_X11_199 gt_99 rfl ?_
    refine p_bipush cb_20 ?_
    refine p_icmp_ne h 38 rfl rfl (fun _ h => ?_) (fun _ h => ?_)
    · refine p_iconst cn_m1 ?_
      exact p_iret rfl h
    · refine p_aload_n rfl ?_
      refine p_getR fk_X11_77 gt_99 rfl rfl ?_
      refine p_aload_n rfl ?_
      refine p_getI fk_X11_199 gt_99 rfl ?_
      refine p_aldG gt_120 h (fun h => ?_)
      refine p_iconst cn_0 ?_
      refine p_iload_n rfl ?_
      refine p_iastG gt_120 h (fun h => ?_)
      refine p_aload_n rfl ?_
      refine p_getR fk_X11_77 gt_99 rfl rfl ?_
      refine p_aload_n rfl ?_
      refine p_getI fk_X11_199 gt_99 rfl ?_
      refine p_aldG gt_120 h (fun h => ?_)
      refine p_iconst cn_1 ?_
      refine p_iload_n rfl ?_
      refine p_iastG gt_120 h (fun h => ?_)
      have h := lt_h h
      refine p_aload_n rfl ?_
      refine p_getR fk_X11_77 gt_99 rfl rfl ?_
      refine p_aload_n rfl ?_
      refine p_getI fk_X11_199 gt_99 rfl ?_
      refine p_aldG gt_120 h (fun h => ?_)
      refine p_iconst cn_2 ?_
      refine p_iload_n rfl ?_
      refine p_iastG gt_120 h (fun h => ?_)
      refine p_aload_n rfl ?_
      refine p_getR fk_X11_77 gt_99 rfl rfl ?_
      refine p_aload_n rfl ?_
      refine p_getI fk_X11_199 gt_99 rfl ?_
      refine p_aldG gt_120 h (fun h => ?_)
      refine p_iconst cn_3 ?_
      refine p_iload rfl ?_
      refine p_if_eq h 72 rfl rfl (fun _ h => ?_) (fun _ h => ?_)
      · refine p_iconst cn_0 ?_
        exact p_fg (S_X11_did_99_125 hl h) ⟨Or.inr rfl, Or.inl rfl, Or.inl rfl, Or.inl rfl, Or.inl rfl, trivial⟩
      · refine p_iconst cn_1 ?_
        refine p_goto 73 rfl rfl ?_
        exact p_fg (S_X11_did_99_125 hl h) ⟨Or.inr rfl, Or.inl rfl, Or.inl rfl, Or.inl rfl, Or.inl rfl, trivial⟩
  · refine p_iconst cn_0 ?_
    exact p_iret rfl h
set_option maxRecDepth 100000 in
theorem S_X11_did_99_43 {l : Launch} (hl : l.stackTraces = false) {M : PM} {x1 : Int32} {x2 : Int32} {x3 : Int32} {x4 : Int32} {r : PR} (h : F_X11_did_99_43  M x1 x2 x3 x4 = some r) : PW l 2 Y_X11_did k_X11_did_43 [vR 99, vI x1, vI x2, vI x3, vI x4] [vR 99] M r := by
  unfold F_X11_did_99_43 at h
  refine p_iconst cn_1 ?_
  refine p_goto 26 rfl rfl ?_
  exact p_fg (S_X11_did_99_48 hl h) ⟨Or.inr rfl, Or.inr rfl, Or.inr rfl, Or.inr rfl, Or.inr rfl, trivial⟩
set_option maxRecDepth 100000 in
theorem S_X11_did_99_18 {l : Launch} (hl : l.stackTraces = false) {M : PM} {x1 : Int32} {x2 : Int32} {x3 : Int32} {x4 : Int32} {t1 : Int32} {r : PR} (h : F_X11_did_99_18  M x1 x2 x3 x4 t1 = some r) : PW l 2 Y_X11_did k_X11_did_18 [vR 99, vI x1, vI x2, vI x3, vI x4] [vI t1, vR 99] M r := by
  unfold F_X11_did_99_18 at h
  refine p_iconst cn_1 ?_
  refine p_iconst cn_0 ?_
  refine p_cI (av := [_, _, _, _]) ⟨mok_X11_bad, Or.inl ⟨180, 99, 11, 0, _, rfl, rfl, rfl, gt_99, rfl, ins_X11_bad, Or.inl lk_X11_180⟩⟩ (Nat.le_of_ble_eq_true rfl) (Nat.le_of_ble_eq_true rfl) rfl (fun _ h => pc_X11_bad_99 hl h) h (fun v1450 M1449 h => ?_)
  refine p_if_ne h 30 rfl rfl (fun _ h => ?_) (fun _ h => ?_)
  · refine p_aload_n rfl ?_
    refine p_aload_n rfl ?_
    refine p_iload_n rfl ?_
    refine p_cI (av := [_, _]) ⟨mok_X11_isHouse, Or.inl ⟨239, 99, 11, 0, _, rfl, rfl, rfl, gt_99, rfl, ins_X11_isHouse, Or.inl lk_X11_239⟩⟩ (Nat.le_of_ble_eq_true rfl) (Nat.le_of_ble_eq_true rfl) rfl (fun _ h => pc_X11_isHouse_99 hl h) h (fun v1452 M1451 h => ?_)
    refine p_if_eq h 23 rfl rfl (fun _ h => ?_) (fun _ h => ?_)
    · exact p_fg (S_X11_did_99_43 hl h) ⟨Or.inr rfl, Or.inr rfl, Or.inr rfl, Or.inr rfl, Or.inr rfl, trivial⟩
    · refine p_aload_n rfl ?_
      refine p_iload_n rfl ?_
      refine p_cI (av := [_, _]) ⟨mok_X11_isLaw, Or.inl ⟨236, 99, 11, 0, _, rfl, rfl, rfl, gt_99, rfl, ins_X11_isLaw, Or.inl lk_X11_236⟩⟩ (Nat.le_of_ble_eq_true rfl) (Nat.le_of_ble_eq_true rfl) rfl (fun _ h => pc_X11_isLaw_99 hl h) h (fun v1454 M1453 h => ?_)
      refine p_if_ne h 25 rfl rfl (fun _ h => ?_) (fun _ h => ?_)
      · exact p_fg (S_X11_did_99_43 hl h) ⟨Or.inr rfl, Or.inr rfl, Or.inr rfl, Or.inr rfl, Or.inr rfl, trivial⟩
      · refine p_iconst cn_0 ?_
        exact p_fg (S_X11_did_99_48 hl h) ⟨Or.inr rfl, Or.inr rfl, Or.inr rfl, Or.inr rfl, Or.inr rfl, trivial⟩
  · refine p_iconst cn_0 ?_
    exact p_iret rfl h
set_option maxRecDepth 100000 in
theorem S_X11_did_99 {l : Launch} (hl : l.stackTraces = false) {M : PM} {a1 : Int32} {a2 : Int32} {a3 : Int32} {a4 : Int32} {r : PR} (h : F_X11_did_99 M a1 a2 a3 a4 = some r) : PW l 2 Y_X11_did k_X11_did [vR 99, vI a1, vI a2, vI a3, vI a4] [] M r := by
  unfold F_X11_did_99 at h
  refine p_aload_n rfl ?_
  refine p_iconst cn_0 ?_
  refine p_putI fk_X11_107 gt_99 rfl ?_
  refine p_aload_n rfl ?_
  refine p_iload_n rfl ?_
  refine p_cI (av := [_]) ⟨mok_X11_isDay, Or.inr ⟨247, rfl, rfl, sta_X11_isDay, Or.inl lk_X11_247⟩⟩ (Nat.le_of_ble_eq_true rfl) (Nat.le_of_ble_eq_true rfl) rfl (fun _ h => pc_X11_isDay hl h) h (fun v1456 M1455 h => ?_)
  refine p_if_ne h 9 rfl rfl (fun _ h => ?_) (fun _ h => ?_)
  · refine p_iconst cn_1 ?_
    refine p_goto 10 rfl rfl ?_
    exact p_fg (S_X11_did_99_18 hl h) ⟨Or.inr rfl, Or.inr rfl, Or.inr rfl, Or.inr rfl, Or.inr rfl, trivial⟩
  · refine p_iconst cn_0 ?_
    exact p_fg (S_X11_did_99_18 hl h) ⟨Or.inr rfl, Or.inr rfl, Or.inr rfl, Or.inr rfl, Or.inr rfl, trivial⟩
set_option maxRecDepth 100000 in
theorem pc_X11_did_99 {l : Launch} (hl : l.stackTraces = false) {M : PM} {a1 : Int32} {a2 : Int32} {a3 : Int32} {a4 : Int32} {r : PR} (h : F_X11_did_99 M a1 a2 a3 a4 = some r) : PC l 2 Y_X11_did [vR 99, vI a1, vI a2, vI a3, vI a4] M r := pc_of hl (by decide +kernel) cok_X11_did (Nat.le_of_ble_eq_true rfl) rfl (S_X11_did_99 hl  h) rfl
def F_X11_explains_99_69 (k2 : PM → Int32 → Int32 → Option PR) (M : PM) (x1 : Int32) (x2 : Int32) : Option PR := lt (x2 + 1) fun y1457 => k2 M x1 y1457
def F_X11_explains_99_64 (k2 : PM → Int32 → Int32 → Option PR) (M : PM) (x1 : Int32) (x2 : Int32) (t0 : Int32) (t1 : Int32) : Option PR := (if t0 = t1 then F_X11_explains_99_69 k2 M x1 x2 else (if (0 : Int32) &&& 1 = 0 then some (.inl (some (.int 0)), M) else none))
def F_X11_explains_99_2 : Nat → PM → Int32 → Int32 → Option PR
  | 0, _, _, _ => none
  | n + 1, M, x1, x2 => (if mI M 99 33 ≤ x2 then (if (1 : Int32) &&& 1 = 1 then some (.inl (some (.int 1)), M) else none) else if ixOK x2 20 = true then if x2.toNatClampNeg < 20 ∧ ixOK 0 4 = true then (if mG M 120 x2.toNatClampNeg (0 : Int32).toNatClampNeg = x1 then if ixOK x2 20 = true then if x2.toNatClampNeg < 20 ∧ ixOK 1 4 = true then if ixOK x2 20 = true then if x2.toNatClampNeg < 20 ∧ ixOK 2 4 = true then cI (F_X11_turnedOn_99 M (mG M 120 x2.toNatClampNeg (2 : Int32).toNatClampNeg)) fun v1459 M1458 => cI (F_X11_inHouseAt_99 M1458 x1 (mG M 120 x2.toNatClampNeg (1 : Int32).toNatClampNeg) v1459) fun v1461 M1460 => if ixOK x2 20 = true then if x2.toNatClampNeg < 20 ∧ ixOK 3 4 = true then (if mG M1460 120 x2.toNatClampNeg (3 : Int32).toNatClampNeg = 1 then F_X11_explains_99_64 (F_X11_explains_99_2 n) M1460 x1 x2 v1461 1 else F_X11_explains_99_64 (F_X11_explains_99_2 n) M1460 x1 x2 v1461 0) else none else none else none else none else none else none else F_X11_explains_99_69 (F_X11_explains_99_2 n) M x1 x2) else none else none)
def F_X11_explains_99 (M : PM) (a1 : Int32) : Option PR := F_X11_explains_99_2 FUEL M a1 0
set_option maxRecDepth 100000 in
theorem S_X11_explains_99_69 {l : Launch} (hl : l.stackTraces = false) {k2 : PM → Int32 → Int32 → Option PR} (hk2 : ∀ {M : PM} {x1 : Int32} {x2 : Int32} {r : PR}, k2 M x1 x2 = some r → PW l 1 Y_X11_explains k_X11_explains_2 [vR 99, vI x1, vI x2] [] M r) {M : PM} {x1 : Int32} {x2 : Int32} {r : PR} (h : F_X11_explains_99_69 k2 M x1 x2 = some r) : PW l 1 Y_X11_explains k_X11_explains_69 [vR 99, vI x1, vI x2] [] M r := by
  unfold F_X11_explains_99_69 at h
  have h := lt_h h
  refine p_iinc (Nat.le_of_ble_eq_true rfl) rfl (ci_1 _) rfl ?_
  refine p_goto 2 rfl rfl ?_
  exact p_fg (hk2 h) ⟨Or.inr rfl, Or.inr rfl, Or.inr rfl, trivial⟩
set_option maxRecDepth 100000 in
theorem S_X11_explains_99_64 {l : Launch} (hl : l.stackTraces = false) {k2 : PM → Int32 → Int32 → Option PR} (hk2 : ∀ {M : PM} {x1 : Int32} {x2 : Int32} {r : PR}, k2 M x1 x2 = some r → PW l 1 Y_X11_explains k_X11_explains_2 [vR 99, vI x1, vI x2] [] M r) {M : PM} {x1 : Int32} {x2 : Int32} {t0 : Int32} {t1 : Int32} {r : PR} (h : F_X11_explains_99_64 k2 M x1 x2 t0 t1 = some r) : PW l 1 Y_X11_explains k_X11_explains_64 [vR 99, vI x1, vI x2] [vI t1, vI t0] M r := by
  unfold F_X11_explains_99_64 at h
  refine p_icmp_eq h 45 rfl rfl (fun _ h => ?_) (fun _ h => ?_)
  · exact p_fg (S_X11_explains_99_69 hl hk2 h) ⟨Or.inr rfl, Or.inr rfl, Or.inr rfl, trivial⟩
  · refine p_iconst cn_0 ?_
    exact p_zret rfl h
set_option maxRecDepth 100000 in
theorem S_X11_explains_99_2 {l : Launch} (hl : l.stackTraces = false) : ∀ (n : Nat) {M : PM} {x1 : Int32} {x2 : Int32} {r : PR}, F_X11_explains_99_2  n M x1 x2 = some r → PW l 1 Y_X11_explains k_X11_explains_2 [vR 99, vI x1, vI x2] [] M r := by
  intro n
  induction n with
  | zero => intro M x1 x2 r h; exact nomatch (show (none : Option PR) = some r from h)
  | succ n ih =>
    intro M x1 x2 r h
    rw [F_X11_explains_99_2] at h
    refine p_iload_n rfl ?_
    refine p_aload_n rfl ?_
    refine p_getI fk_X11_199 gt_99 rfl ?_
    refine p_icmp_ge h 47 rfl rfl (fun _ h => ?_) (fun _ h => ?_)
    · refine p_iconst cn_1 ?_
      exact p_zret rfl h
    · refine p_aload_n rfl ?_
      refine p_getR fk_X11_77 gt_99 rfl rfl ?_
      refine p_iload_n rfl ?_
      refine p_aldG gt_120 h (fun h => ?_)
      refine p_iconst cn_0 ?_
      refine p_ialdG gt_120 h (fun h => ?_)
      refine p_iload_n rfl ?_
      refine p_icmp_ne h 45 rfl rfl (fun _ h => ?_) (fun _ h => ?_)
      · refine p_aload_n rfl ?_
        refine p_iload_n rfl ?_
        refine p_aload_n rfl ?_
        refine p_getR fk_X11_77 gt_99 rfl rfl ?_
        refine p_iload_n rfl ?_
        refine p_aldG gt_120 h (fun h => ?_)
        refine p_iconst cn_1 ?_
        refine p_ialdG gt_120 h (fun h => ?_)
        refine p_aload_n rfl ?_
        refine p_aload_n rfl ?_
        refine p_getR fk_X11_77 gt_99 rfl rfl ?_
        refine p_iload_n rfl ?_
        refine p_aldG gt_120 h (fun h => ?_)
        refine p_iconst cn_2 ?_
        refine p_ialdG gt_120 h (fun h => ?_)
        refine p_cI (av := [_, _]) ⟨mok_X11_turnedOn, Or.inl ⟨250, 99, 11, 0, _, rfl, rfl, rfl, gt_99, rfl, ins_X11_turnedOn, Or.inl lk_X11_250⟩⟩ (Nat.le_of_ble_eq_true rfl) (Nat.le_of_ble_eq_true rfl) rfl (fun _ h => pc_X11_turnedOn_99 hl h) h (fun v1459 M1458 h => ?_)
        refine p_cI (av := [_, _, _, _]) ⟨mok_X11_inHouseAt, Or.inl ⟨256, 99, 11, 0, _, rfl, rfl, rfl, gt_99, rfl, ins_X11_inHouseAt, Or.inl lk_X11_256⟩⟩ (Nat.le_of_ble_eq_true rfl) (Nat.le_of_ble_eq_true rfl) rfl (fun _ h => pc_X11_inHouseAt_99 hl h) h (fun v1461 M1460 h => ?_)
        refine p_aload_n rfl ?_
        refine p_getR fk_X11_77 gt_99 rfl rfl ?_
        refine p_iload_n rfl ?_
        refine p_aldG gt_120 h (fun h => ?_)
        refine p_iconst cn_3 ?_
        refine p_ialdG gt_120 h (fun h => ?_)
        refine p_iconst cn_1 ?_
        refine p_icmp_ne h 41 rfl rfl (fun _ h => ?_) (fun _ h => ?_)
        · refine p_iconst cn_1 ?_
          refine p_goto 42 rfl rfl ?_
          exact p_fg (S_X11_explains_99_64 hl (fun h => ih h) h) ⟨Or.inr rfl, Or.inr rfl, Or.inr rfl, trivial⟩
        · refine p_iconst cn_0 ?_
          exact p_fg (S_X11_explains_99_64 hl (fun h => ih h) h) ⟨Or.inr rfl, Or.inr rfl, Or.inr rfl, trivial⟩
      · exact p_fg (S_X11_explains_99_69 hl (fun h => ih h) h) ⟨Or.inr rfl, Or.inr rfl, Or.inr rfl, trivial⟩
set_option maxRecDepth 100000 in
theorem S_X11_explains_99 {l : Launch} (hl : l.stackTraces = false) {M : PM} {a1 : Int32} {r : PR} (h : F_X11_explains_99 M a1 = some r) : PW l 1 Y_X11_explains k_X11_explains [vR 99, vI a1, jk] [] M r := by
  unfold F_X11_explains_99 at h
  refine p_iconst cn_0 ?_
  refine p_istore_n (Nat.le_of_ble_eq_true rfl) rfl ?_
  exact p_fg (S_X11_explains_99_2 hl FUEL h) ⟨Or.inr rfl, Or.inr rfl, Or.inr rfl, trivial⟩
set_option maxRecDepth 100000 in
theorem pc_X11_explains_99 {l : Launch} (hl : l.stackTraces = false) {M : PM} {a1 : Int32} {r : PR} (h : F_X11_explains_99 M a1 = some r) : PC l 1 Y_X11_explains [vR 99, vI a1] M r := pc_of hl (by decide +kernel) cok_X11_explains (Nat.le_of_ble_eq_true rfl) rfl (S_X11_explains_99 hl  h) rfl
def F_X11_slipped_99_222 (k66 : PM → Int32 → Int32 → Int32 → Int32 → Int32 → Int32 → Int32 → Option PR) (k91 : PM → Int32 → Int32 → Int32 → Int32 → Int32 → Int32 → Int32 → Int32 → Int32 → Option PR) (M : PM) (x1 : Int32) (x2 : Int32) (x3 : Int32) (x4 : Int32) (x5 : Int32) (x6 : Int32) (x7 : Int32) (x8 : Int32) (x9 : Int32) : Option PR := lt (x9 + 1) fun y1462 => k91 M x1 x2 x3 x4 x5 x6 x7 x8 y1462
def F_X11_slipped_99_220 (k66 : PM → Int32 → Int32 → Int32 → Int32 → Int32 → Int32 → Int32 → Option PR) (k91 : PM → Int32 → Int32 → Int32 → Int32 → Int32 → Int32 → Int32 → Int32 → Int32 → Option PR) (M : PM) (x1 : Int32) (x2 : Int32) (x3 : Int32) (x4 : Int32) (x5 : Int32) (x7 : Int32) (x8 : Int32) (x9 : Int32) (t0 : Int32) : Option PR := F_X11_slipped_99_222 k66 k91 M x1 x2 x3 x4 x5 t0 x7 x8 x9
def F_X11_slipped_99_204 (k66 : PM → Int32 → Int32 → Int32 → Int32 → Int32 → Int32 → Int32 → Option PR) (k91 : PM → Int32 → Int32 → Int32 → Int32 → Int32 → Int32 → Int32 → Int32 → Int32 → Option PR) (M : PM) (x1 : Int32) (x2 : Int32) (x3 : Int32) (x4 : Int32) (x6 : Int32) (x7 : Int32) (x8 : Int32) (x9 : Int32) (x10 : Int32) (t0 : Int32) : Option PR := (if x10 ≤ x6 then F_X11_slipped_99_220 k66 k91 M x1 x2 x3 x4 t0 x7 x8 x9 x6 else F_X11_slipped_99_220 k66 k91 M x1 x2 x3 x4 t0 x7 x8 x9 x10)
def F_X11_slipped_99_182 (k66 : PM → Int32 → Int32 → Int32 → Int32 → Int32 → Int32 → Int32 → Option PR) (k91 : PM → Int32 → Int32 → Int32 → Int32 → Int32 → Int32 → Int32 → Int32 → Int32 → Option PR) (M : PM) (x1 : Int32) (x2 : Int32) (x3 : Int32) (x5 : Int32) (x6 : Int32) (x7 : Int32) (x8 : Int32) (x9 : Int32) (x10 : Int32) (t0 : Int32) : Option PR := (if x10 ≤ x6 then F_X11_slipped_99_204 k66 k91 M x1 x2 x3 t0 x6 x7 x8 x9 x10 x5 else F_X11_slipped_99_204 k66 k91 M x1 x2 x3 t0 x6 x7 x8 x9 x10 ((100 * x7) + x9))
def F_X11_slipped_99_157 (k66 : PM → Int32 → Int32 → Int32 → Int32 → Int32 → Int32 → Int32 → Option PR) (k91 : PM → Int32 → Int32 → Int32 → Int32 → Int32 → Int32 → Int32 → Int32 → Int32 → Option PR) (M : PM) (x1 : Int32) (x2 : Int32) (x3 : Int32) (x4 : Int32) (x5 : Int32) (x6 : Int32) (x7 : Int32) (x8 : Int32) (x9 : Int32) (t0 : Int32) (t1 : Int32) : Option PR := lt (t0 - t1) fun y1463 => lt (x3 + 1) fun y1464 => (if x4 = (-1) then F_X11_slipped_99_182 k66 k91 M x1 x2 y1464 x5 x6 x7 x8 x9 y1463 ((100 * x7) + x9) else F_X11_slipped_99_182 k66 k91 M x1 x2 y1464 x5 x6 x7 x8 x9 y1463 x4)
def F_X11_slipped_99_91 (k66 : PM → Int32 → Int32 → Int32 → Int32 → Int32 → Int32 → Int32 → Option PR) : Nat → PM → Int32 → Int32 → Int32 → Int32 → Int32 → Int32 → Int32 → Int32 → Int32 → Option PR
  | 0, _, _, _, _, _, _, _, _, _, _ => none
  | n + 1, M, x1, x2, x3, x4, x5, x6, x7, x8, x9 => if ixOK x7 12 = true then (if mA M 107 x7.toNatClampNeg ≤ x9 then if ixOK x1 10 = true then if x1.toNatClampNeg < 10 ∧ ixOK x7 12 = true then lt (x7 + 1) fun y1465 => k66 (sG M 115 x1.toNatClampNeg x7.toNatClampNeg x8) x1 x2 x3 x4 x5 x6 y1465 else none else none else if ixOK x1 10 = true then if x1.toNatClampNeg < 10 ∧ ixOK x7 12 = true then cI (F_X11_explains_99 (sG M 115 x1.toNatClampNeg x7.toNatClampNeg x9) x1) fun v1467 M1466 => (if v1467 = 0 then F_X11_slipped_99_222 k66 (F_X11_slipped_99_91 k66 n) M1466 x1 x2 x3 x4 x5 x6 x7 x8 x9 else if ixOK x7 12 = true then (if (mA M1466 107 x7.toNatClampNeg) - x9 ≤ x9 then if ixOK x7 12 = true then F_X11_slipped_99_157 k66 (F_X11_slipped_99_91 k66 n) M1466 x1 x2 x3 x4 x5 x6 x7 x8 x9 24 ((mA M1466 107 x7.toNatClampNeg) - x9) else none else F_X11_slipped_99_157 k66 (F_X11_slipped_99_91 k66 n) M1466 x1 x2 x3 x4 x5 x6 x7 x8 x9 24 x9) else none) else none else none) else none
def F_X11_slipped_99_66 : Nat → PM → Int32 → Int32 → Int32 → Int32 → Int32 → Int32 → Int32 → Option PR
  | 0, _, _, _, _, _, _, _, _ => none
  | n + 1, M, x1, x2, x3, x4, x5, x6, x7 => if ixOK 0 6 = true then (if mA M 103 (0 : Int32).toNatClampNeg ≤ x7 then (if x2 = 0 then some (.inl (some (.int x3)), M) else (if x2 = 1 then some (.inl (some (.int x4)), M) else some (.inl (some (.int x5)), M))) else if ixOK x1 10 = true then if x1.toNatClampNeg < 10 ∧ ixOK x7 12 = true then lt (mG M 115 x1.toNatClampNeg x7.toNatClampNeg) fun y1468 => F_X11_slipped_99_91 (F_X11_slipped_99_66 n) FUEL M x1 x2 x3 x4 x5 x6 x7 y1468 0 else none else none) else none
def F_X11_slipped_99_42 (M : PM) (x1 : Int32) (x2 : Int32) (t1 : Int32) : Option PR := cI (F_X11_bad_99 M t1 2 2) fun v1470 M1469 => (if v1470 = 0 then F_X11_slipped_99_66 FUEL M1469 x1 x2 0 (-1) (-1) 0 0 else some (.inl (some (.int 0)), M1469))
def F_X11_slipped_99_19 (M : PM) (x1 : Int32) (x2 : Int32) (t1 : Int32) : Option PR := cI (F_X11_bad_99 M t1 1 1) fun v1472 M1471 => (if v1472 = 0 then cI (F_X11_in M1471 x2 0 2) fun v1474 M1473 => (if v1474 = 0 then F_X11_slipped_99_42 M1473 x1 x2 1 else F_X11_slipped_99_42 M1473 x1 x2 0) else some (.inl (some (.int 0)), M1471))
def F_X11_slipped_99 (M : PM) (a1 : Int32) (a2 : Int32) : Option PR := cI (F_X11_isHouse_99 (sI M 99 0 0) a1) fun v1476 M1475 => (if v1476 = 0 then F_X11_slipped_99_19 M1475 a1 a2 1 else F_X11_slipped_99_19 M1475 a1 a2 0)
set_option maxRecDepth 100000 in
theorem S_X11_slipped_99_222 {l : Launch} (hl : l.stackTraces = false) {k66 : PM → Int32 → Int32 → Int32 → Int32 → Int32 → Int32 → Int32 → Option PR} {k91 : PM → Int32 → Int32 → Int32 → Int32 → Int32 → Int32 → Int32 → Int32 → Int32 → Option PR} (hk66 : ∀ {M : PM} {x1 : Int32} {x2 : Int32} {x3 : Int32} {x4 : Int32} {x5 : Int32} {x6 : Int32} {x7 : Int32} {r : PR}, k66 M x1 x2 x3 x4 x5 x6 x7 = some r → PW l 2 Y_X11_slipped k_X11_slipped_66 [vR 99, vI x1, vI x2, vI x3, vI x4, vI x5, vI x6, vI x7, jk, jk, jk] [] M r) (hk91 : ∀ {M : PM} {x1 : Int32} {x2 : Int32} {x3 : Int32} {x4 : Int32} {x5 : Int32} {x6 : Int32} {x7 : Int32} {x8 : Int32} {x9 : Int32} {r : PR}, k91 M x1 x2 x3 x4 x5 x6 x7 x8 x9 = some r → PW l 2 Y_X11_slipped k_X11_slipped_91 [vR 99, vI x1, vI x2, vI x3, vI x4, vI x5, vI x6, vI x7, vI x8, vI x9, jk] [] M r) {M : PM} {x1 : Int32} {x2 : Int32} {x3 : Int32} {x4 : Int32} {x5 : Int32} {x6 : Int32} {x7 : Int32} {x8 : Int32} {x9 : Int32} {r : PR} (h : F_X11_slipped_99_222 k66 k91 M x1 x2 x3 x4 x5 x6 x7 x8 x9 = some r) : PW l 2 Y_X11_slipped k_X11_slipped_222 [vR 99, vI x1, vI x2, vI x3, vI x4, vI x5, vI x6, vI x7, vI x8, vI x9, jk] [] M r := by
  unfold F_X11_slipped_99_222 at h
  have h := lt_h h
  refine p_iinc (Nat.le_of_ble_eq_true rfl) rfl (ci_1 _) rfl ?_
  refine p_goto 55 rfl rfl ?_
  exact p_fg (hk91 h) ⟨Or.inr rfl, Or.inr rfl, Or.inr rfl, Or.inr rfl, Or.inr rfl, Or.inr rfl, Or.inr rfl, Or.inr rfl, Or.inr rfl, Or.inr rfl, Or.inl rfl, trivial⟩
set_option maxRecDepth 100000 in
theorem S_X11_slipped_99_220 {l : Launch} (hl : l.stackTraces = false) {k66 : PM → Int32 → Int32 → Int32 → Int32 → Int32 → Int32 → Int32 → Option PR} {k91 : PM → Int32 → Int32 → Int32 → Int32 → Int32 → Int32 → Int32 → Int32 → Int32 → Option PR} (hk66 : ∀ {M : PM} {x1 : Int32} {x2 : Int32} {x3 : Int32} {x4 : Int32} {x5 : Int32} {x6 : Int32} {x7 : Int32} {r : PR}, k66 M x1 x2 x3 x4 x5 x6 x7 = some r → PW l 2 Y_X11_slipped k_X11_slipped_66 [vR 99, vI x1, vI x2, vI x3, vI x4, vI x5, vI x6, vI x7, jk, jk, jk] [] M r) (hk91 : ∀ {M : PM} {x1 : Int32} {x2 : Int32} {x3 : Int32} {x4 : Int32} {x5 : Int32} {x6 : Int32} {x7 : Int32} {x8 : Int32} {x9 : Int32} {r : PR}, k91 M x1 x2 x3 x4 x5 x6 x7 x8 x9 = some r → PW l 2 Y_X11_slipped k_X11_slipped_91 [vR 99, vI x1, vI x2, vI x3, vI x4, vI x5, vI x6, vI x7, vI x8, vI x9, jk] [] M r) {M : PM} {x1 : Int32} {x2 : Int32} {x3 : Int32} {x4 : Int32} {x5 : Int32} {x7 : Int32} {x8 : Int32} {x9 : Int32} {t0 : Int32} {r : PR} (h : F_X11_slipped_99_220 k66 k91 M x1 x2 x3 x4 x5 x7 x8 x9 t0 = some r) : PW l 2 Y_X11_slipped k_X11_slipped_220 [vR 99, vI x1, vI x2, vI x3, vI x4, vI x5, jk, vI x7, vI x8, vI x9, jk] [vI t0] M r := by
  unfold F_X11_slipped_99_220 at h
  refine p_istore (Nat.le_of_ble_eq_true rfl) rfl ?_
  exact p_fg (S_X11_slipped_99_222 hl hk66 hk91 h) ⟨Or.inr rfl, Or.inr rfl, Or.inr rfl, Or.inr rfl, Or.inr rfl, Or.inr rfl, Or.inr rfl, Or.inr rfl, Or.inr rfl, Or.inr rfl, Or.inl rfl, trivial⟩
set_option maxRecDepth 100000 in
theorem S_X11_slipped_99_204 {l : Launch} (hl : l.stackTraces = false) {k66 : PM → Int32 → Int32 → Int32 → Int32 → Int32 → Int32 → Int32 → Option PR} {k91 : PM → Int32 → Int32 → Int32 → Int32 → Int32 → Int32 → Int32 → Int32 → Int32 → Option PR} (hk66 : ∀ {M : PM} {x1 : Int32} {x2 : Int32} {x3 : Int32} {x4 : Int32} {x5 : Int32} {x6 : Int32} {x7 : Int32} {r : PR}, k66 M x1 x2 x3 x4 x5 x6 x7 = some r → PW l 2 Y_X11_slipped k_X11_slipped_66 [vR 99, vI x1, vI x2, vI x3, vI x4, vI x5, vI x6, vI x7, jk, jk, jk] [] M r) (hk91 : ∀ {M : PM} {x1 : Int32} {x2 : Int32} {x3 : Int32} {x4 : Int32} {x5 : Int32} {x6 : Int32} {x7 : Int32} {x8 : Int32} {x9 : Int32} {r : PR}, k91 M x1 x2 x3 x4 x5 x6 x7 x8 x9 = some r → PW l 2 Y_X11_slipped k_X11_slipped_91 [vR 99, vI x1, vI x2, vI x3, vI x4, vI x5, vI x6, vI x7, vI x8, vI x9, jk] [] M r) {M : PM} {x1 : Int32} {x2 : Int32} {x3 : Int32} {x4 : Int32} {x6 : Int32} {x7 : Int32} {x8 : Int32} {x9 : Int32} {x10 : Int32} {t0 : Int32} {r : PR} (h : F_X11_slipped_99_204 k66 k91 M x1 x2 x3 x4 x6 x7 x8 x9 x10 t0 = some r) : PW l 2 Y_X11_slipped k_X11_slipped_204 [vR 99, vI x1, vI x2, vI x3, vI x4, jk, vI x6, vI x7, vI x8, vI x9, vI x10] [vI t0] M r := by
  unfold F_X11_slipped_99_204 at h
  refine p_istore (Nat.le_of_ble_eq_true rfl) rfl ?_
  refine p_iload rfl ?_
  refine p_iload rfl ?_
  refine p_icmp_le h 120 rfl rfl (fun _ h => ?_) (fun _ h => ?_)
  · refine p_iload rfl ?_
    exact p_fg (S_X11_slipped_99_220 hl hk66 hk91 h) ⟨Or.inr rfl, Or.inr rfl, Or.inr rfl, Or.inr rfl, Or.inr rfl, Or.inr rfl, Or.inl rfl, Or.inr rfl, Or.inr rfl, Or.inr rfl, Or.inl rfl, trivial⟩
  · refine p_iload rfl ?_
    refine p_goto 121 rfl rfl ?_
    exact p_fg (S_X11_slipped_99_220 hl hk66 hk91 h) ⟨Or.inr rfl, Or.inr rfl, Or.inr rfl, Or.inr rfl, Or.inr rfl, Or.inr rfl, Or.inl rfl, Or.inr rfl, Or.inr rfl, Or.inr rfl, Or.inl rfl, trivial⟩
set_option maxRecDepth 100000 in
theorem S_X11_slipped_99_182 {l : Launch} (hl : l.stackTraces = false) {k66 : PM → Int32 → Int32 → Int32 → Int32 → Int32 → Int32 → Int32 → Option PR} {k91 : PM → Int32 → Int32 → Int32 → Int32 → Int32 → Int32 → Int32 → Int32 → Int32 → Option PR} (hk66 : ∀ {M : PM} {x1 : Int32} {x2 : Int32} {x3 : Int32} {x4 : Int32} {x5 : Int32} {x6 : Int32} {x7 : Int32} {r : PR}, k66 M x1 x2 x3 x4 x5 x6 x7 = some r → PW l 2 Y_X11_slipped k_X11_slipped_66 [vR 99, vI x1, vI x2, vI x3, vI x4, vI x5, vI x6, vI x7, jk, jk, jk] [] M r) (hk91 : ∀ {M : PM} {x1 : Int32} {x2 : Int32} {x3 : Int32} {x4 : Int32} {x5 : Int32} {x6 : Int32} {x7 : Int32} {x8 : Int32} {x9 : Int32} {r : PR}, k91 M x1 x2 x3 x4 x5 x6 x7 x8 x9 = some r → PW l 2 Y_X11_slipped k_X11_slipped_91 [vR 99, vI x1, vI x2, vI x3, vI x4, vI x5, vI x6, vI x7, vI x8, vI x9, jk] [] M r) {M : PM} {x1 : Int32} {x2 : Int32} {x3 : Int32} {x5 : Int32} {x6 : Int32} {x7 : Int32} {x8 : Int32} {x9 : Int32} {x10 : Int32} {t0 : Int32} {r : PR} (h : F_X11_slipped_99_182 k66 k91 M x1 x2 x3 x5 x6 x7 x8 x9 x10 t0 = some r) : PW l 2 Y_X11_slipped k_X11_slipped_182 [vR 99, vI x1, vI x2, vI x3, jk, vI x5, vI x6, vI x7, vI x8, vI x9, vI x10] [vI t0] M r := by
  unfold F_X11_slipped_99_182 at h
  refine p_istore (Nat.le_of_ble_eq_true rfl) rfl ?_
  refine p_iload rfl ?_
  refine p_iload rfl ?_
  refine p_icmp_le h 113 rfl rfl (fun _ h => ?_) (fun _ h => ?_)
  · refine p_iload rfl ?_
    exact p_fg (S_X11_slipped_99_204 hl hk66 hk91 h) ⟨Or.inr rfl, Or.inr rfl, Or.inr rfl, Or.inr rfl, Or.inr rfl, Or.inl rfl, Or.inr rfl, Or.inr rfl, Or.inr rfl, Or.inr rfl, Or.inr rfl, trivial⟩
  · refine p_bipush cb_100 ?_
    refine p_iload rfl ?_
    refine p_imul ?_
    refine p_iload rfl ?_
    refine p_iadd ?_
    refine p_goto 114 rfl rfl ?_
    exact p_fg (S_X11_slipped_99_204 hl hk66 hk91 h) ⟨Or.inr rfl, Or.inr rfl, Or.inr rfl, Or.inr rfl, Or.inr rfl, Or.inl rfl, Or.inr rfl, Or.inr rfl, Or.inr rfl, Or.inr rfl, Or.inr rfl, trivial⟩
set_option maxRecDepth 100000 in
theorem S_X11_slipped_99_157 {l : Launch} (hl : l.stackTraces = false) {k66 : PM → Int32 → Int32 → Int32 → Int32 → Int32 → Int32 → Int32 → Option PR} {k91 : PM → Int32 → Int32 → Int32 → Int32 → Int32 → Int32 → Int32 → Int32 → Int32 → Option PR} (hk66 : ∀ {M : PM} {x1 : Int32} {x2 : Int32} {x3 : Int32} {x4 : Int32} {x5 : Int32} {x6 : Int32} {x7 : Int32} {r : PR}, k66 M x1 x2 x3 x4 x5 x6 x7 = some r → PW l 2 Y_X11_slipped k_X11_slipped_66 [vR 99, vI x1, vI x2, vI x3, vI x4, vI x5, vI x6, vI x7, jk, jk, jk] [] M r) (hk91 : ∀ {M : PM} {x1 : Int32} {x2 : Int32} {x3 : Int32} {x4 : Int32} {x5 : Int32} {x6 : Int32} {x7 : Int32} {x8 : Int32} {x9 : Int32} {r : PR}, k91 M x1 x2 x3 x4 x5 x6 x7 x8 x9 = some r → PW l 2 Y_X11_slipped k_X11_slipped_91 [vR 99, vI x1, vI x2, vI x3, vI x4, vI x5, vI x6, vI x7, vI x8, vI x9, jk] [] M r) {M : PM} {x1 : Int32} {x2 : Int32} {x3 : Int32} {x4 : Int32} {x5 : Int32} {x6 : Int32} {x7 : Int32} {x8 : Int32} {x9 : Int32} {t0 : Int32} {t1 : Int32} {r : PR} (h : F_X11_slipped_99_157 k66 k91 M x1 x2 x3 x4 x5 x6 x7 x8 x9 t0 t1 = some r) : PW l 2 Y_X11_slipped k_X11_slipped_157 [vR 99, vI x1, vI x2, vI x3, vI x4, vI x5, vI x6, vI x7, vI x8, vI x9, jk] [vI t1, vI t0] M r := by
  unfold F_X11_slipped_99_157 at h
  refine p_isub ?_
  have h := lt_h h
  refine p_istore (Nat.le_of_ble_eq_true rfl) rfl ?_
  have h := lt_h h
  refine p_iinc (Nat.le_of_ble_eq_true rfl) rfl (ci_1 _) rfl ?_
  refine p_iload rfl ?_
  refine p_iconst cn_m1 ?_
  refine p_icmp_ne h 102 rfl rfl (fun _ h => ?_) (fun _ h => ?_)
  · refine p_bipush cb_100 ?_
    refine p_iload rfl ?_
    refine p_imul ?_
    refine p_iload rfl ?_
    refine p_iadd ?_
    refine p_goto 103 rfl rfl ?_
    exact p_fg (S_X11_slipped_99_182 hl hk66 hk91 h) ⟨Or.inr rfl, Or.inr rfl, Or.inr rfl, Or.inr rfl, Or.inl rfl, Or.inr rfl, Or.inr rfl, Or.inr rfl, Or.inr rfl, Or.inr rfl, Or.inr rfl, trivial⟩
  · refine p_iload rfl ?_
    exact p_fg (S_X11_slipped_99_182 hl hk66 hk91 h) ⟨Or.inr rfl, Or.inr rfl, Or.inr rfl, Or.inr rfl, Or.inl rfl, Or.inr rfl, Or.inr rfl, Or.inr rfl, Or.inr rfl, Or.inr rfl, Or.inr rfl, trivial⟩
set_option maxRecDepth 100000 in
theorem S_X11_slipped_99_91 {l : Launch} (hl : l.stackTraces = false) {k66 : PM → Int32 → Int32 → Int32 → Int32 → Int32 → Int32 → Int32 → Option PR} (hk66 : ∀ {M : PM} {x1 : Int32} {x2 : Int32} {x3 : Int32} {x4 : Int32} {x5 : Int32} {x6 : Int32} {x7 : Int32} {r : PR}, k66 M x1 x2 x3 x4 x5 x6 x7 = some r → PW l 2 Y_X11_slipped k_X11_slipped_66 [vR 99, vI x1, vI x2, vI x3, vI x4, vI x5, vI x6, vI x7, jk, jk, jk] [] M r) : ∀ (n : Nat) {M : PM} {x1 : Int32} {x2 : Int32} {x3 : Int32} {x4 : Int32} {x5 : Int32} {x6 : Int32} {x7 : Int32} {x8 : Int32} {x9 : Int32} {r : PR}, F_X11_slipped_99_91 k66 n M x1 x2 x3 x4 x5 x6 x7 x8 x9 = some r → PW l 2 Y_X11_slipped k_X11_slipped_91 [vR 99, vI x1, vI x2, vI x3, vI x4, vI x5, vI x6, vI x7, vI x8, vI x9, jk] [] M r := by
  intro n
  induction n with
  | zero => intro M x1 x2 x3 x4 x5 x6 x7 x8 x9 r h; exact nomatch (show (none : Option PR) = some r from h)
  | succ n ih =>
    intro M x1 x2 x3 x4 x5 x6 x7 x8 x9 r h
    rw [F_X11_slipped_99_91] at h
    refine p_iload rfl ?_
    refine p_aload_n rfl ?_
    refine p_getR fk_X11_35 gt_99 rfl rfl ?_
    refine p_iload rfl ?_
    refine p_iald gt_107 h (fun h => ?_)
    refine p_icmp_ge h 124 rfl rfl (fun _ h => ?_) (fun _ h => ?_)
    · refine p_aload_n rfl ?_
      refine p_getR fk_X11_61 gt_99 rfl rfl ?_
      refine p_iload_n rfl ?_
      refine p_aldG gt_115 h (fun h => ?_)
      refine p_iload rfl ?_
      refine p_iload rfl ?_
      refine p_iastG gt_115 h (fun h => ?_)
      have h := lt_h h
      refine p_iinc (Nat.le_of_ble_eq_true rfl) rfl (ci_1 _) rfl ?_
      refine p_goto 40 rfl rfl ?_
      exact p_fg (hk66 h) ⟨Or.inr rfl, Or.inr rfl, Or.inr rfl, Or.inr rfl, Or.inr rfl, Or.inr rfl, Or.inr rfl, Or.inr rfl, Or.inl rfl, Or.inl rfl, Or.inl rfl, trivial⟩
    · refine p_aload_n rfl ?_
      refine p_getR fk_X11_61 gt_99 rfl rfl ?_
      refine p_iload_n rfl ?_
      refine p_aldG gt_115 h (fun h => ?_)
      refine p_iload rfl ?_
      refine p_iload rfl ?_
      refine p_iastG gt_115 h (fun h => ?_)
      refine p_aload_n rfl ?_
      refine p_iload_n rfl ?_
      refine p_cI (av := [_, _]) ⟨mok_X11_explains, Or.inl ⟨306, 99, 11, 0, _, rfl, rfl, rfl, gt_99, rfl, ins_X11_explains, Or.inl lk_X11_306⟩⟩ (Nat.le_of_ble_eq_true rfl) (Nat.le_of_ble_eq_true rfl) rfl (fun _ h => pc_X11_explains_99 hl h) h (fun v1467 M1466 h => ?_)
      refine p_if_ne h 73 rfl rfl (fun _ h => ?_) (fun _ h => ?_)
      · refine p_goto 122 rfl rfl ?_
        exact p_fg (S_X11_slipped_99_222 hl hk66 (fun h => ih h) h) ⟨Or.inr rfl, Or.inr rfl, Or.inr rfl, Or.inr rfl, Or.inr rfl, Or.inr rfl, Or.inr rfl, Or.inr rfl, Or.inr rfl, Or.inr rfl, Or.inl rfl, trivial⟩
      · refine p_bipush cb_24 ?_
        refine p_iload rfl ?_
        refine p_aload_n rfl ?_
        refine p_getR fk_X11_35 gt_99 rfl rfl ?_
        refine p_iload rfl ?_
        refine p_iald gt_107 h (fun h => ?_)
        refine p_iload rfl ?_
        refine p_isub ?_
        refine p_icmp_ge h 84 rfl rfl (fun _ h => ?_) (fun _ h => ?_)
        · refine p_aload_n rfl ?_
          refine p_getR fk_X11_35 gt_99 rfl rfl ?_
          refine p_iload rfl ?_
          refine p_iald gt_107 h (fun h => ?_)
          refine p_iload rfl ?_
          refine p_isub ?_
          exact p_fg (S_X11_slipped_99_157 hl hk66 (fun h => ih h) h) ⟨Or.inr rfl, Or.inr rfl, Or.inr rfl, Or.inr rfl, Or.inr rfl, Or.inr rfl, Or.inr rfl, Or.inr rfl, Or.inr rfl, Or.inr rfl, Or.inl rfl, trivial⟩
        · refine p_iload rfl ?_
          refine p_goto 90 rfl rfl ?_
          exact p_fg (S_X11_slipped_99_157 hl hk66 (fun h => ih h) h) ⟨Or.inr rfl, Or.inr rfl, Or.inr rfl, Or.inr rfl, Or.inr rfl, Or.inr rfl, Or.inr rfl, Or.inr rfl, Or.inr rfl, Or.inr rfl, Or.inl rfl, trivial⟩
set_option maxRecDepth 100000 in
theorem S_X11_slipped_99_66 {l : Launch} (hl : l.stackTraces = false) : ∀ (n : Nat) {M : PM} {x1 : Int32} {x2 : Int32} {x3 : Int32} {x4 : Int32} {x5 : Int32} {x6 : Int32} {x7 : Int32} {r : PR}, F_X11_slipped_99_66  n M x1 x2 x3 x4 x5 x6 x7 = some r → PW l 2 Y_X11_slipped k_X11_slipped_66 [vR 99, vI x1, vI x2, vI x3, vI x4, vI x5, vI x6, vI x7, jk, jk, jk] [] M r := by
  intro n
  induction n with
  | zero => intro M x1 x2 x3 x4 x5 x6 x7 r h; exact nomatch (show (none : Option PR) = some r from h)
  | succ n ih =>
    intro M x1 x2 x3 x4 x5 x6 x7 r h
    rw [F_X11_slipped_99_66] at h
    refine p_iload rfl ?_
    refine p_aload_n rfl ?_
    refine p_getR fk_X11_23 gt_99 rfl rfl ?_
    refine p_iconst cn_0 ?_
    refine p_iald gt_103 h (fun h => ?_)
    refine p_icmp_ge h 133 rfl rfl (fun _ h => ?_) (fun _ h => ?_)
    · refine p_iload_n rfl ?_
      refine p_if_ne h 137 rfl rfl (fun _ h => ?_) (fun _ h => ?_)
      · refine p_iload_n rfl ?_
        refine p_goto 143 rfl rfl ?_
        exact p_iret rfl h
      · refine p_iload_n rfl ?_
        refine p_iconst cn_1 ?_
        refine p_icmp_ne h 142 rfl rfl (fun _ h => ?_) (fun _ h => ?_)
        · refine p_iload rfl ?_
          refine p_goto 143 rfl rfl ?_
          exact p_iret rfl h
        · refine p_iload rfl ?_
          exact p_iret rfl h
    · refine p_aload_n rfl ?_
      refine p_getR fk_X11_61 gt_99 rfl rfl ?_
      refine p_iload_n rfl ?_
      refine p_aldG gt_115 h (fun h => ?_)
      refine p_iload rfl ?_
      refine p_ialdG gt_115 h (fun h => ?_)
      have h := lt_h h
      refine p_istore (Nat.le_of_ble_eq_true rfl) rfl ?_
      refine p_iconst cn_0 ?_
      refine p_istore (Nat.le_of_ble_eq_true rfl) rfl ?_
      exact p_fg (S_X11_slipped_99_91 hl (fun h => ih h) FUEL h) ⟨Or.inr rfl, Or.inr rfl, Or.inr rfl, Or.inr rfl, Or.inr rfl, Or.inr rfl, Or.inr rfl, Or.inr rfl, Or.inr rfl, Or.inr rfl, Or.inl rfl, trivial⟩
set_option maxRecDepth 100000 in
theorem S_X11_slipped_99_42 {l : Launch} (hl : l.stackTraces = false) {M : PM} {x1 : Int32} {x2 : Int32} {t1 : Int32} {r : PR} (h : F_X11_slipped_99_42  M x1 x2 t1 = some r) : PW l 2 Y_X11_slipped k_X11_slipped_42 [vR 99, vI x1, vI x2, jk, jk, jk, jk, jk, jk, jk, jk] [vI t1, vR 99] M r := by
  unfold F_X11_slipped_99_42 at h
  refine p_iconst cn_2 ?_
  refine p_iconst cn_2 ?_
  refine p_cI (av := [_, _, _, _]) ⟨mok_X11_bad, Or.inl ⟨180, 99, 11, 0, _, rfl, rfl, rfl, gt_99, rfl, ins_X11_bad, Or.inl lk_X11_180⟩⟩ (Nat.le_of_ble_eq_true rfl) (Nat.le_of_ble_eq_true rfl) rfl (fun _ h => pc_X11_bad_99 hl h) h (fun v1470 M1469 h => ?_)
  refine p_if_eq h 30 rfl rfl (fun _ h => ?_) (fun _ h => ?_)
  · refine p_iconst cn_0 ?_
    refine p_istore_n (Nat.le_of_ble_eq_true rfl) rfl ?_
    refine p_iconst cn_m1 ?_
    refine p_istore (Nat.le_of_ble_eq_true rfl) rfl ?_
    refine p_iconst cn_m1 ?_
    refine p_istore (Nat.le_of_ble_eq_true rfl) rfl ?_
    refine p_iconst cn_0 ?_
    refine p_istore (Nat.le_of_ble_eq_true rfl) rfl ?_
    refine p_iconst cn_0 ?_
    refine p_istore (Nat.le_of_ble_eq_true rfl) rfl ?_
    exact p_fg (S_X11_slipped_99_66 hl FUEL h) ⟨Or.inr rfl, Or.inr rfl, Or.inr rfl, Or.inr rfl, Or.inr rfl, Or.inr rfl, Or.inr rfl, Or.inr rfl, Or.inl rfl, Or.inl rfl, Or.inl rfl, trivial⟩
  · refine p_iconst cn_0 ?_
    exact p_iret rfl h
set_option maxRecDepth 100000 in
theorem S_X11_slipped_99_19 {l : Launch} (hl : l.stackTraces = false) {M : PM} {x1 : Int32} {x2 : Int32} {t1 : Int32} {r : PR} (h : F_X11_slipped_99_19  M x1 x2 t1 = some r) : PW l 2 Y_X11_slipped k_X11_slipped_19 [vR 99, vI x1, vI x2, jk, jk, jk, jk, jk, jk, jk, jk] [vI t1, vR 99] M r := by
  unfold F_X11_slipped_99_19 at h
  refine p_iconst cn_1 ?_
  refine p_iconst cn_1 ?_
  refine p_cI (av := [_, _, _, _]) ⟨mok_X11_bad, Or.inl ⟨180, 99, 11, 0, _, rfl, rfl, rfl, gt_99, rfl, ins_X11_bad, Or.inl lk_X11_180⟩⟩ (Nat.le_of_ble_eq_true rfl) (Nat.le_of_ble_eq_true rfl) rfl (fun _ h => pc_X11_bad_99 hl h) h (fun v1472 M1471 h => ?_)
  refine p_if_ne h 28 rfl rfl (fun _ h => ?_) (fun _ h => ?_)
  · refine p_aload_n rfl ?_
    refine p_iload_n rfl ?_
    refine p_iconst cn_0 ?_
    refine p_iconst cn_2 ?_
    refine p_cI (av := [_, _, _]) ⟨mok_X11_in, Or.inr ⟨141, rfl, rfl, sta_X11_in, Or.inl lk_X11_141⟩⟩ (Nat.le_of_ble_eq_true rfl) (Nat.le_of_ble_eq_true rfl) rfl (fun _ h => pc_X11_in hl h) h (fun v1474 M1473 h => ?_)
    refine p_if_ne h 23 rfl rfl (fun _ h => ?_) (fun _ h => ?_)
    · refine p_iconst cn_1 ?_
      refine p_goto 24 rfl rfl ?_
      exact p_fg (S_X11_slipped_99_42 hl h) ⟨Or.inr rfl, Or.inr rfl, Or.inr rfl, Or.inl rfl, Or.inl rfl, Or.inl rfl, Or.inl rfl, Or.inl rfl, Or.inl rfl, Or.inl rfl, Or.inl rfl, trivial⟩
    · refine p_iconst cn_0 ?_
      exact p_fg (S_X11_slipped_99_42 hl h) ⟨Or.inr rfl, Or.inr rfl, Or.inr rfl, Or.inl rfl, Or.inl rfl, Or.inl rfl, Or.inl rfl, Or.inl rfl, Or.inl rfl, Or.inl rfl, Or.inl rfl, trivial⟩
  · refine p_iconst cn_0 ?_
    exact p_iret rfl h
set_option maxRecDepth 100000 in
theorem S_X11_slipped_99 {l : Launch} (hl : l.stackTraces = false) {M : PM} {a1 : Int32} {a2 : Int32} {r : PR} (h : F_X11_slipped_99 M a1 a2 = some r) : PW l 2 Y_X11_slipped k_X11_slipped [vR 99, vI a1, vI a2, jk, jk, jk, jk, jk, jk, jk, jk] [] M r := by
  unfold F_X11_slipped_99 at h
  refine p_aload_n rfl ?_
  refine p_iconst cn_0 ?_
  refine p_putI fk_X11_107 gt_99 rfl ?_
  refine p_aload_n rfl ?_
  refine p_aload_n rfl ?_
  refine p_iload_n rfl ?_
  refine p_cI (av := [_, _]) ⟨mok_X11_isHouse, Or.inl ⟨239, 99, 11, 0, _, rfl, rfl, rfl, gt_99, rfl, ins_X11_isHouse, Or.inl lk_X11_239⟩⟩ (Nat.le_of_ble_eq_true rfl) (Nat.le_of_ble_eq_true rfl) rfl (fun _ h => pc_X11_isHouse_99 hl h) h (fun v1476 M1475 h => ?_)
  refine p_if_ne h 10 rfl rfl (fun _ h => ?_) (fun _ h => ?_)
  · refine p_iconst cn_1 ?_
    refine p_goto 11 rfl rfl ?_
    exact p_fg (S_X11_slipped_99_19 hl h) ⟨Or.inr rfl, Or.inr rfl, Or.inr rfl, Or.inl rfl, Or.inl rfl, Or.inl rfl, Or.inl rfl, Or.inl rfl, Or.inl rfl, Or.inl rfl, Or.inl rfl, trivial⟩
  · refine p_iconst cn_0 ?_
    exact p_fg (S_X11_slipped_99_19 hl h) ⟨Or.inr rfl, Or.inr rfl, Or.inr rfl, Or.inl rfl, Or.inl rfl, Or.inl rfl, Or.inl rfl, Or.inl rfl, Or.inl rfl, Or.inl rfl, Or.inl rfl, trivial⟩
set_option maxRecDepth 100000 in
theorem pc_X11_slipped_99 {l : Launch} (hl : l.stackTraces = false) {M : PM} {a1 : Int32} {a2 : Int32} {r : PR} (h : F_X11_slipped_99 M a1 a2 = some r) : PC l 2 Y_X11_slipped [vR 99, vI a1, vI a2] M r := pc_of hl (by decide +kernel) cok_X11_slipped (Nat.le_of_ble_eq_true rfl) rfl (S_X11_slipped_99 hl  h) rfl
def F_X11_forget_99 (M : PM)  : Option PR := lt ((mI (sI M 99 0 0) 99 32) + (mI (sI M 99 0 0) 99 33)) fun y1477 => some (.inl (some (.int y1477)), sI (sI (sI M 99 0 0) 99 32 0) 99 33 0)
set_option maxRecDepth 100000 in
theorem S_X11_forget_99 {l : Launch} (hl : l.stackTraces = false) {M : PM}  {r : PR} (h : F_X11_forget_99 M  = some r) : PW l 0 Y_X11_forget k_X11_forget [vR 99, jk] [] M r := by
  unfold F_X11_forget_99 at h
  refine p_aload_n rfl ?_
  refine p_iconst cn_0 ?_
  refine p_putI fk_X11_107 gt_99 rfl ?_
  refine p_aload_n rfl ?_
  refine p_getI fk_X11_196 gt_99 rfl ?_
  refine p_aload_n rfl ?_
  refine p_getI fk_X11_199 gt_99 rfl ?_
  refine p_iadd ?_
  have h := lt_h h
  refine p_istore_n (Nat.le_of_ble_eq_true rfl) rfl ?_
  refine p_aload_n rfl ?_
  refine p_iconst cn_0 ?_
  refine p_putI fk_X11_196 gt_99 rfl ?_
  refine p_aload_n rfl ?_
  refine p_iconst cn_0 ?_
  refine p_putI fk_X11_199 gt_99 rfl ?_
  refine p_iload_n rfl ?_
  exact p_iret rfl h
set_option maxRecDepth 100000 in
theorem pc_X11_forget_99 {l : Launch} (hl : l.stackTraces = false) {M : PM}  {r : PR} (h : F_X11_forget_99 M  = some r) : PC l 0 Y_X11_forget [vR 99] M r := pc_of hl (by decide +kernel) cok_X11_forget (Nat.le_of_ble_eq_true rfl) rfl (S_X11_forget_99 hl  h) rfl
def F_X11_areAlike_99_2 : Nat → PM → Int32 → Int32 → Int32 → Option PR
  | 0, _, _, _, _ => none
  | n + 1, M, x1, x2, x3 => if ixOK 0 6 = true then (if mA M 103 (0 : Int32).toNatClampNeg ≤ x3 then (if (1 : Int32) &&& 1 = 1 then some (.inl (some (.int 1)), M) else none) else if ixOK x1 10 = true then if x1.toNatClampNeg < 10 ∧ ixOK x3 12 = true then if ixOK x2 10 = true then if x2.toNatClampNeg < 10 ∧ ixOK x3 12 = true then (if mG M 115 x1.toNatClampNeg x3.toNatClampNeg = mG M 115 x2.toNatClampNeg x3.toNatClampNeg then lt (x3 + 1) fun y1478 => F_X11_areAlike_99_2 n M x1 x2 y1478 else (if (0 : Int32) &&& 1 = 0 then some (.inl (some (.int 0)), M) else none)) else none else none else none else none) else none
def F_X11_areAlike_99 (M : PM) (a1 : Int32) (a2 : Int32) : Option PR := F_X11_areAlike_99_2 FUEL M a1 a2 0
set_option maxRecDepth 100000 in
theorem S_X11_areAlike_99_2 {l : Launch} (hl : l.stackTraces = false) : ∀ (n : Nat) {M : PM} {x1 : Int32} {x2 : Int32} {x3 : Int32} {r : PR}, F_X11_areAlike_99_2  n M x1 x2 x3 = some r → PW l 0 Y_X11_areAlike k_X11_areAlike_2 [vR 99, vI x1, vI x2, vI x3] [] M r := by
  intro n
  induction n with
  | zero => intro M x1 x2 x3 r h; exact nomatch (show (none : Option PR) = some r from h)
  | succ n ih =>
    intro M x1 x2 x3 r h
    rw [F_X11_areAlike_99_2] at h
    refine p_iload_n rfl ?_
    refine p_aload_n rfl ?_
    refine p_getR fk_X11_23 gt_99 rfl rfl ?_
    refine p_iconst cn_0 ?_
    refine p_iald gt_103 h (fun h => ?_)
    refine p_icmp_ge h 25 rfl rfl (fun _ h => ?_) (fun _ h => ?_)
    · refine p_iconst cn_1 ?_
      exact p_zret rfl h
    · refine p_aload_n rfl ?_
      refine p_getR fk_X11_61 gt_99 rfl rfl ?_
      refine p_iload_n rfl ?_
      refine p_aldG gt_115 h (fun h => ?_)
      refine p_iload_n rfl ?_
      refine p_ialdG gt_115 h (fun h => ?_)
      refine p_aload_n rfl ?_
      refine p_getR fk_X11_61 gt_99 rfl rfl ?_
      refine p_iload_n rfl ?_
      refine p_aldG gt_115 h (fun h => ?_)
      refine p_iload_n rfl ?_
      refine p_ialdG gt_115 h (fun h => ?_)
      refine p_icmp_eq h 23 rfl rfl (fun _ h => ?_) (fun _ h => ?_)
      · have h := lt_h h
        refine p_iinc (Nat.le_of_ble_eq_true rfl) rfl (ci_1 _) rfl ?_
        refine p_goto 2 rfl rfl ?_
        exact p_fg (ih h) ⟨Or.inr rfl, Or.inr rfl, Or.inr rfl, Or.inr rfl, trivial⟩
      · refine p_iconst cn_0 ?_
        exact p_zret rfl h
set_option maxRecDepth 100000 in
theorem S_X11_areAlike_99 {l : Launch} (hl : l.stackTraces = false) {M : PM} {a1 : Int32} {a2 : Int32} {r : PR} (h : F_X11_areAlike_99 M a1 a2 = some r) : PW l 0 Y_X11_areAlike k_X11_areAlike [vR 99, vI a1, vI a2, jk] [] M r := by
  unfold F_X11_areAlike_99 at h
  refine p_iconst cn_0 ?_
  refine p_istore_n (Nat.le_of_ble_eq_true rfl) rfl ?_
  exact p_fg (S_X11_areAlike_99_2 hl FUEL h) ⟨Or.inr rfl, Or.inr rfl, Or.inr rfl, Or.inr rfl, trivial⟩
set_option maxRecDepth 100000 in
theorem pc_X11_areAlike_99 {l : Launch} (hl : l.stackTraces = false) {M : PM} {a1 : Int32} {a2 : Int32} {r : PR} (h : F_X11_areAlike_99 M a1 a2 = some r) : PC l 0 Y_X11_areAlike [vR 99, vI a1, vI a2] M r := pc_of hl (by decide +kernel) cok_X11_areAlike (Nat.le_of_ble_eq_true rfl) rfl (S_X11_areAlike_99 hl  h) rfl
def F_X11_right_99_108 (k34 : PM → Int32 → Int32 → Int32 → Option PR) (M : PM) (x1 : Int32) (x3 : Int32) (t0 : Int32) : Option PR := lt (x3 + 1) fun y1479 => k34 M x1 t0 y1479
def F_X11_right_99_81 (k34 : PM → Int32 → Int32 → Int32 → Option PR) (k50 : PM → Int32 → Int32 → Int32 → Int32 → Int32 → Option PR) (M : PM) (x1 : Int32) (x2 : Int32) (x3 : Int32) (x5 : Int32) (t0 : Int32) (t1 : Int32) : Option PR := lt (t0 ||| t1) fun y1480 => lt (x5 + 1) fun y1481 => k50 M x1 x2 x3 y1480 y1481
def F_X11_right_99_50 (k34 : PM → Int32 → Int32 → Int32 → Option PR) : Nat → PM → Int32 → Int32 → Int32 → Int32 → Int32 → Option PR
  | 0, _, _, _, _, _, _ => none
  | n + 1, M, x1, x2, x3, x4, x5 => if ixOK 2 6 = true then (if mA M 103 (2 : Int32).toNatClampNeg ≤ x5 then cI (F_X11_ones M x4) fun v1483 M1482 => cI (F_X11_ones M1482 x2) fun v1485 M1484 => (if v1483 ≤ v1485 then F_X11_right_99_108 k34 M1484 x1 x3 x2 else F_X11_right_99_108 k34 M1484 x1 x3 x4) else cI (F_X11_areAlike_99 M x3 x5) fun v1487 M1486 => (if v1487 = 0 then F_X11_right_99_81 k34 (F_X11_right_99_50 k34 n) M1486 x1 x2 x3 x5 x4 0 else F_X11_right_99_81 k34 (F_X11_right_99_50 k34 n) M1486 x1 x2 x3 x5 x4 (1 <<< (x5 &&& 31)))) else none
def F_X11_right_99_34 : Nat → PM → Int32 → Int32 → Int32 → Option PR
  | 0, _, _, _, _ => none
  | n + 1, M, x1, x2, x3 => if ixOK 2 6 = true then (if mA M 103 (2 : Int32).toNatClampNeg ≤ x3 then (if x1 = 0 then if ixOK 2 6 = true then cI (F_X11_ones M x2) fun v1489 M1488 => some (.inl (some (.int ((mA M 103 (2 : Int32).toNatClampNeg) - v1489))), M1488) else none else some (.inl (some (.int x2)), M)) else F_X11_right_99_50 (F_X11_right_99_34 n) FUEL M x1 x2 x3 0 0) else none
def F_X11_right_99_20 (M : PM) (x1 : Int32) (t1 : Int32) : Option PR := cI (F_X11_bad_99 M t1 1 2) fun v1491 M1490 => (if v1491 = 0 then F_X11_right_99_34 FUEL M1490 x1 0 0 else some (.inl (some (.int 0)), M1490))
def F_X11_right_99 (M : PM) (a1 : Int32) : Option PR := cI (F_X11_in (sI M 99 0 0) a1 0 1) fun v1493 M1492 => (if v1493 = 0 then F_X11_right_99_20 M1492 a1 1 else F_X11_right_99_20 M1492 a1 0)
set_option maxRecDepth 100000 in
theorem S_X11_right_99_108 {l : Launch} (hl : l.stackTraces = false) {k34 : PM → Int32 → Int32 → Int32 → Option PR} (hk34 : ∀ {M : PM} {x1 : Int32} {x2 : Int32} {x3 : Int32} {r : PR}, k34 M x1 x2 x3 = some r → PW l 1 Y_X11_right k_X11_right_34 [vR 99, vI x1, vI x2, vI x3, jk, jk] [] M r) {M : PM} {x1 : Int32} {x3 : Int32} {t0 : Int32} {r : PR} (h : F_X11_right_99_108 k34 M x1 x3 t0 = some r) : PW l 1 Y_X11_right k_X11_right_108 [vR 99, vI x1, jk, vI x3, jk, jk] [vI t0] M r := by
  unfold F_X11_right_99_108 at h
  refine p_istore_n (Nat.le_of_ble_eq_true rfl) rfl ?_
  have h := lt_h h
  refine p_iinc (Nat.le_of_ble_eq_true rfl) rfl (ci_1 _) rfl ?_
  refine p_goto 22 rfl rfl ?_
  exact p_fg (hk34 h) ⟨Or.inr rfl, Or.inr rfl, Or.inr rfl, Or.inr rfl, Or.inl rfl, Or.inl rfl, trivial⟩
set_option maxRecDepth 100000 in
theorem S_X11_right_99_81 {l : Launch} (hl : l.stackTraces = false) {k34 : PM → Int32 → Int32 → Int32 → Option PR} {k50 : PM → Int32 → Int32 → Int32 → Int32 → Int32 → Option PR} (hk34 : ∀ {M : PM} {x1 : Int32} {x2 : Int32} {x3 : Int32} {r : PR}, k34 M x1 x2 x3 = some r → PW l 1 Y_X11_right k_X11_right_34 [vR 99, vI x1, vI x2, vI x3, jk, jk] [] M r) (hk50 : ∀ {M : PM} {x1 : Int32} {x2 : Int32} {x3 : Int32} {x4 : Int32} {x5 : Int32} {r : PR}, k50 M x1 x2 x3 x4 x5 = some r → PW l 1 Y_X11_right k_X11_right_50 [vR 99, vI x1, vI x2, vI x3, vI x4, vI x5] [] M r) {M : PM} {x1 : Int32} {x2 : Int32} {x3 : Int32} {x5 : Int32} {t0 : Int32} {t1 : Int32} {r : PR} (h : F_X11_right_99_81 k34 k50 M x1 x2 x3 x5 t0 t1 = some r) : PW l 1 Y_X11_right k_X11_right_81 [vR 99, vI x1, vI x2, vI x3, jk, vI x5] [vI t1, vI t0] M r := by
  unfold F_X11_right_99_81 at h
  refine p_ior ?_
  have h := lt_h h
  refine p_istore (Nat.le_of_ble_eq_true rfl) rfl ?_
  have h := lt_h h
  refine p_iinc (Nat.le_of_ble_eq_true rfl) rfl (ci_1 _) rfl ?_
  refine p_goto 32 rfl rfl ?_
  exact p_fg (hk50 h) ⟨Or.inr rfl, Or.inr rfl, Or.inr rfl, Or.inr rfl, Or.inr rfl, Or.inr rfl, trivial⟩
set_option maxRecDepth 100000 in
theorem S_X11_right_99_50 {l : Launch} (hl : l.stackTraces = false) {k34 : PM → Int32 → Int32 → Int32 → Option PR} (hk34 : ∀ {M : PM} {x1 : Int32} {x2 : Int32} {x3 : Int32} {r : PR}, k34 M x1 x2 x3 = some r → PW l 1 Y_X11_right k_X11_right_34 [vR 99, vI x1, vI x2, vI x3, jk, jk] [] M r) : ∀ (n : Nat) {M : PM} {x1 : Int32} {x2 : Int32} {x3 : Int32} {x4 : Int32} {x5 : Int32} {r : PR}, F_X11_right_99_50 k34 n M x1 x2 x3 x4 x5 = some r → PW l 1 Y_X11_right k_X11_right_50 [vR 99, vI x1, vI x2, vI x3, vI x4, vI x5] [] M r := by
  intro n
  induction n with
  | zero => intro M x1 x2 x3 x4 x5 r h; exact nomatch (show (none : Option PR) = some r from h)
  | succ n ih =>
    intro M x1 x2 x3 x4 x5 r h
    rw [F_X11_right_99_50] at h
    refine p_iload rfl ?_
    refine p_aload_n rfl ?_
    refine p_getR fk_X11_23 gt_99 rfl rfl ?_
    refine p_iconst cn_2 ?_
    refine p_iald gt_103 h (fun h => ?_)
    refine p_icmp_ge h 53 rfl rfl (fun _ h => ?_) (fun _ h => ?_)
    · refine p_iload rfl ?_
      refine p_cI (av := [_]) ⟨mok_X11_ones, Or.inr ⟨262, rfl, rfl, sta_X11_ones, Or.inl lk_X11_262⟩⟩ (Nat.le_of_ble_eq_true rfl) (Nat.le_of_ble_eq_true rfl) rfl (fun _ h => pc_X11_ones hl h) h (fun v1483 M1482 h => ?_)
      refine p_iload_n rfl ?_
      refine p_cI (av := [_]) ⟨mok_X11_ones, Or.inr ⟨262, rfl, rfl, sta_X11_ones, Or.inl lk_X11_262⟩⟩ (Nat.le_of_ble_eq_true rfl) (Nat.le_of_ble_eq_true rfl) rfl (fun _ h => pc_X11_ones hl h) h (fun v1485 M1484 h => ?_)
      refine p_icmp_le h 60 rfl rfl (fun _ h => ?_) (fun _ h => ?_)
      · refine p_iload_n rfl ?_
        exact p_fg (S_X11_right_99_108 hl hk34 h) ⟨Or.inr rfl, Or.inr rfl, Or.inl rfl, Or.inr rfl, Or.inl rfl, Or.inl rfl, trivial⟩
      · refine p_iload rfl ?_
        refine p_goto 61 rfl rfl ?_
        exact p_fg (S_X11_right_99_108 hl hk34 h) ⟨Or.inr rfl, Or.inr rfl, Or.inl rfl, Or.inr rfl, Or.inl rfl, Or.inl rfl, trivial⟩
    · refine p_iload rfl ?_
      refine p_aload_n rfl ?_
      refine p_iload_n rfl ?_
      refine p_iload rfl ?_
      refine p_cI (av := [_, _, _]) ⟨mok_X11_areAlike, Or.inl ⟨309, 99, 11, 0, _, rfl, rfl, rfl, gt_99, rfl, ins_X11_areAlike, Or.inl lk_X11_309⟩⟩ (Nat.le_of_ble_eq_true rfl) (Nat.le_of_ble_eq_true rfl) rfl (fun _ h => pc_X11_areAlike_99 hl h) h (fun v1487 M1486 h => ?_)
      refine p_if_eq h 48 rfl rfl (fun _ h => ?_) (fun _ h => ?_)
      · refine p_iconst cn_0 ?_
        exact p_fg (S_X11_right_99_81 hl hk34 (fun h => ih h) h) ⟨Or.inr rfl, Or.inr rfl, Or.inr rfl, Or.inr rfl, Or.inl rfl, Or.inr rfl, trivial⟩
      · refine p_iconst cn_1 ?_
        refine p_iload rfl ?_
        refine p_ishl ?_
        refine p_goto 49 rfl rfl ?_
        exact p_fg (S_X11_right_99_81 hl hk34 (fun h => ih h) h) ⟨Or.inr rfl, Or.inr rfl, Or.inr rfl, Or.inr rfl, Or.inl rfl, Or.inr rfl, trivial⟩
set_option maxRecDepth 100000 in
theorem S_X11_right_99_34 {l : Launch} (hl : l.stackTraces = false) : ∀ (n : Nat) {M : PM} {x1 : Int32} {x2 : Int32} {x3 : Int32} {r : PR}, F_X11_right_99_34  n M x1 x2 x3 = some r → PW l 1 Y_X11_right k_X11_right_34 [vR 99, vI x1, vI x2, vI x3, jk, jk] [] M r := by
  intro n
  induction n with
  | zero => intro M x1 x2 x3 r h; exact nomatch (show (none : Option PR) = some r from h)
  | succ n ih =>
    intro M x1 x2 x3 r h
    rw [F_X11_right_99_34] at h
    refine p_iload_n rfl ?_
    refine p_aload_n rfl ?_
    refine p_getR fk_X11_23 gt_99 rfl rfl ?_
    refine p_iconst cn_2 ?_
    refine p_iald gt_103 h (fun h => ?_)
    refine p_icmp_ge h 64 rfl rfl (fun _ h => ?_) (fun _ h => ?_)
    · refine p_iload_n rfl ?_
      refine p_if_ne h 74 rfl rfl (fun _ h => ?_) (fun _ h => ?_)
      · refine p_aload_n rfl ?_
        refine p_getR fk_X11_23 gt_99 rfl rfl ?_
        refine p_iconst cn_2 ?_
        refine p_iald gt_103 h (fun h => ?_)
        refine p_iload_n rfl ?_
        refine p_cI (av := [_]) ⟨mok_X11_ones, Or.inr ⟨262, rfl, rfl, sta_X11_ones, Or.inl lk_X11_262⟩⟩ (Nat.le_of_ble_eq_true rfl) (Nat.le_of_ble_eq_true rfl) rfl (fun _ h => pc_X11_ones hl h) h (fun v1489 M1488 h => ?_)
        refine p_isub ?_
        refine p_goto 75 rfl rfl ?_
        exact p_iret rfl h
      · refine p_iload_n rfl ?_
        exact p_iret rfl h
    · refine p_iconst cn_0 ?_
      refine p_istore (Nat.le_of_ble_eq_true rfl) rfl ?_
      refine p_iconst cn_0 ?_
      refine p_istore (Nat.le_of_ble_eq_true rfl) rfl ?_
      exact p_fg (S_X11_right_99_50 hl (fun h => ih h) FUEL h) ⟨Or.inr rfl, Or.inr rfl, Or.inr rfl, Or.inr rfl, Or.inr rfl, Or.inr rfl, trivial⟩
set_option maxRecDepth 100000 in
theorem S_X11_right_99_20 {l : Launch} (hl : l.stackTraces = false) {M : PM} {x1 : Int32} {t1 : Int32} {r : PR} (h : F_X11_right_99_20  M x1 t1 = some r) : PW l 1 Y_X11_right k_X11_right_20 [vR 99, vI x1, jk, jk, jk, jk] [vI t1, vR 99] M r := by
  unfold F_X11_right_99_20 at h
  refine p_iconst cn_1 ?_
  refine p_iconst cn_2 ?_
  refine p_cI (av := [_, _, _, _]) ⟨mok_X11_bad, Or.inl ⟨180, 99, 11, 0, _, rfl, rfl, rfl, gt_99, rfl, ins_X11_bad, Or.inl lk_X11_180⟩⟩ (Nat.le_of_ble_eq_true rfl) (Nat.le_of_ble_eq_true rfl) rfl (fun _ h => pc_X11_bad_99 hl h) h (fun v1491 M1490 h => ?_)
  refine p_if_eq h 18 rfl rfl (fun _ h => ?_) (fun _ h => ?_)
  · refine p_iconst cn_0 ?_
    refine p_istore_n (Nat.le_of_ble_eq_true rfl) rfl ?_
    refine p_iconst cn_0 ?_
    refine p_istore_n (Nat.le_of_ble_eq_true rfl) rfl ?_
    exact p_fg (S_X11_right_99_34 hl FUEL h) ⟨Or.inr rfl, Or.inr rfl, Or.inr rfl, Or.inr rfl, Or.inl rfl, Or.inl rfl, trivial⟩
  · refine p_iconst cn_0 ?_
    exact p_iret rfl h
set_option maxRecDepth 100000 in
theorem S_X11_right_99 {l : Launch} (hl : l.stackTraces = false) {M : PM} {a1 : Int32} {r : PR} (h : F_X11_right_99 M a1 = some r) : PW l 1 Y_X11_right k_X11_right [vR 99, vI a1, jk, jk, jk, jk] [] M r := by
  unfold F_X11_right_99 at h
  refine p_aload_n rfl ?_
  refine p_iconst cn_0 ?_
  refine p_putI fk_X11_107 gt_99 rfl ?_
  refine p_aload_n rfl ?_
  refine p_iload_n rfl ?_
  refine p_iconst cn_0 ?_
  refine p_iconst cn_1 ?_
  refine p_cI (av := [_, _, _]) ⟨mok_X11_in, Or.inr ⟨141, rfl, rfl, sta_X11_in, Or.inl lk_X11_141⟩⟩ (Nat.le_of_ble_eq_true rfl) (Nat.le_of_ble_eq_true rfl) rfl (fun _ h => pc_X11_in hl h) h (fun v1493 M1492 h => ?_)
  refine p_if_ne h 11 rfl rfl (fun _ h => ?_) (fun _ h => ?_)
  · refine p_iconst cn_1 ?_
    refine p_goto 12 rfl rfl ?_
    exact p_fg (S_X11_right_99_20 hl h) ⟨Or.inr rfl, Or.inr rfl, Or.inl rfl, Or.inl rfl, Or.inl rfl, Or.inl rfl, trivial⟩
  · refine p_iconst cn_0 ?_
    exact p_fg (S_X11_right_99_20 hl h) ⟨Or.inr rfl, Or.inr rfl, Or.inl rfl, Or.inl rfl, Or.inl rfl, Or.inl rfl, trivial⟩
set_option maxRecDepth 100000 in
theorem pc_X11_right_99 {l : Launch} (hl : l.stackTraces = false) {M : PM} {a1 : Int32} {r : PR} (h : F_X11_right_99 M a1 = some r) : PC l 1 Y_X11_right [vR 99, vI a1] M r := pc_of hl (by decide +kernel) cok_X11_right (Nat.le_of_ble_eq_true rfl) rfl (S_X11_right_99 hl  h) rfl
def F_X11_work_99_29 (M : PM) (x1 : Int32) (x2 : Int32) (t1 : Int32) : Option PR := cI (F_X11_bad_99 M t1 1 2) fun v1495 M1494 => (if v1495 = 0 then (if mI M1494 99 34 = 8 then some (.inl (some (.int (-1))), M1494) else if ixOK (mI M1494 99 34) 8 = true then if (mI M1494 99 34).toNatClampNeg < 8 ∧ ixOK 0 2 = true then if ixOK (mI (sG M1494 121 ((mI M1494 99 34).toNatClampNeg) (0 : Int32).toNatClampNeg x1) 99 34) 8 = true then if (mI (sG M1494 121 ((mI M1494 99 34).toNatClampNeg) (0 : Int32).toNatClampNeg x1) 99 34).toNatClampNeg < 8 ∧ ixOK 1 2 = true then lt (sG (sG M1494 121 ((mI M1494 99 34).toNatClampNeg) (0 : Int32).toNatClampNeg x1) 121 ((mI (sG M1494 121 ((mI M1494 99 34).toNatClampNeg) (0 : Int32).toNatClampNeg x1) 99 34).toNatClampNeg) (1 : Int32).toNatClampNeg x2) fun M1496 => some (.inl (some (.int ((mI (sI M1496 99 34 ((mI M1496 99 34) + 1)) 99 34) - 1))), sI M1496 99 34 ((mI M1496 99 34) + 1)) else none else none else none else none) else some (.inl (some (.int 0)), M1494))
def F_X11_work_99_24 (M : PM) (x1 : Int32) (x2 : Int32) : Option PR := F_X11_work_99_29 M x1 x2 1
def F_X11_work_99 (M : PM) (a1 : Int32) (a2 : Int32) : Option PR := cI (F_X11_in (sI M 99 0 0) a1 1 60) fun v1498 M1497 => (if v1498 = 0 then F_X11_work_99_24 M1497 a1 a2 else cI (F_X11_areLaws_99 M1497 a2) fun v1500 M1499 => (if v1500 = 0 then F_X11_work_99_24 M1499 a1 a2 else F_X11_work_99_29 M1499 a1 a2 0))
set_option maxRecDepth 100000 in
theorem S_X11_work_99_29 {l : Launch} (hl : l.stackTraces = false) {M : PM} {x1 : Int32} {x2 : Int32} {t1 : Int32} {r : PR} (h : F_X11_work_99_29  M x1 x2 t1 = some r) : PW l 2 Y_X11_work k_X11_work_29 [vR 99, vI x1, vI x2] [vI t1, vR 99] M r := by
  unfold F_X11_work_99_29 at h
  refine p_iconst cn_1 ?_
  refine p_iconst cn_2 ?_
  refine p_cI (av := [_, _, _, _]) ⟨mok_X11_bad, Or.inl ⟨180, 99, 11, 0, _, rfl, rfl, rfl, gt_99, rfl, ins_X11_bad, Or.inl lk_X11_180⟩⟩ (Nat.le_of_ble_eq_true rfl) (Nat.le_of_ble_eq_true rfl) rfl (fun _ h => pc_X11_bad_99 hl h) h (fun v1495 M1494 h => ?_)
  refine p_if_eq h 22 rfl rfl (fun _ h => ?_) (fun _ h => ?_)
  · refine p_aload_n rfl ?_
    refine p_getI fk_X11_202 gt_99 rfl ?_
    refine p_bipush cb_8 ?_
    refine p_icmp_ne h 28 rfl rfl (fun _ h => ?_) (fun _ h => ?_)
    · refine p_iconst cn_m1 ?_
      exact p_iret rfl h
    · refine p_aload_n rfl ?_
      refine p_getR fk_X11_80 gt_99 rfl rfl ?_
      refine p_aload_n rfl ?_
      refine p_getI fk_X11_202 gt_99 rfl ?_
      refine p_aldG gt_121 h (fun h => ?_)
      refine p_iconst cn_0 ?_
      refine p_iload_n rfl ?_
      refine p_iastG gt_121 h (fun h => ?_)
      refine p_aload_n rfl ?_
      refine p_getR fk_X11_80 gt_99 rfl rfl ?_
      refine p_aload_n rfl ?_
      refine p_getI fk_X11_202 gt_99 rfl ?_
      refine p_aldG gt_121 h (fun h => ?_)
      refine p_iconst cn_1 ?_
      refine p_iload_n rfl ?_
      refine p_iastG gt_121 h (fun h => ?_)
      have h := lt_h h
      refine p_aload_n rfl ?_
      refine p_dup rfl ?_
      refine p_getI fk_X11_202 gt_99 rfl ?_
      refine p_iconst cn_1 ?_
      refine p_iadd ?_
      refine p_putI fk_X11_202 gt_99 rfl ?_
      refine p_aload_n rfl ?_
      refine p_getI fk_X11_202 gt_99 rfl ?_
      refine p_iconst cn_1 ?_
      refine p_isub ?_
      exact p_iret rfl h
  · refine p_iconst cn_0 ?_
    exact p_iret rfl h
set_option maxRecDepth 100000 in
theorem S_X11_work_99_24 {l : Launch} (hl : l.stackTraces = false) {M : PM} {x1 : Int32} {x2 : Int32} {r : PR} (h : F_X11_work_99_24  M x1 x2 = some r) : PW l 2 Y_X11_work k_X11_work_24 [vR 99, vI x1, vI x2] [vR 99] M r := by
  unfold F_X11_work_99_24 at h
  refine p_iconst cn_1 ?_
  refine p_goto 16 rfl rfl ?_
  exact p_fg (S_X11_work_99_29 hl h) ⟨Or.inr rfl, Or.inr rfl, Or.inr rfl, trivial⟩
set_option maxRecDepth 100000 in
theorem S_X11_work_99 {l : Launch} (hl : l.stackTraces = false) {M : PM} {a1 : Int32} {a2 : Int32} {r : PR} (h : F_X11_work_99 M a1 a2 = some r) : PW l 2 Y_X11_work k_X11_work [vR 99, vI a1, vI a2] [] M r := by
  unfold F_X11_work_99 at h
  refine p_aload_n rfl ?_
  refine p_iconst cn_0 ?_
  refine p_putI fk_X11_107 gt_99 rfl ?_
  refine p_aload_n rfl ?_
  refine p_iload_n rfl ?_
  refine p_iconst cn_1 ?_
  refine p_bipush cb_60 ?_
  refine p_cI (av := [_, _, _]) ⟨mok_X11_in, Or.inr ⟨141, rfl, rfl, sta_X11_in, Or.inl lk_X11_141⟩⟩ (Nat.le_of_ble_eq_true rfl) (Nat.le_of_ble_eq_true rfl) rfl (fun _ h => pc_X11_in hl h) h (fun v1498 M1497 h => ?_)
  refine p_if_eq h 13 rfl rfl (fun _ h => ?_) (fun _ h => ?_)
  · exact p_fg (S_X11_work_99_24 hl h) ⟨Or.inr rfl, Or.inr rfl, Or.inr rfl, trivial⟩
  · refine p_aload_n rfl ?_
    refine p_iload_n rfl ?_
    refine p_cI (av := [_, _]) ⟨mok_X11_areLaws, Or.inl ⟨281, 99, 11, 0, _, rfl, rfl, rfl, gt_99, rfl, ins_X11_areLaws, Or.inl lk_X11_281⟩⟩ (Nat.le_of_ble_eq_true rfl) (Nat.le_of_ble_eq_true rfl) rfl (fun _ h => pc_X11_areLaws_99 hl h) h (fun v1500 M1499 h => ?_)
    refine p_if_ne h 15 rfl rfl (fun _ h => ?_) (fun _ h => ?_)
    · exact p_fg (S_X11_work_99_24 hl h) ⟨Or.inr rfl, Or.inr rfl, Or.inr rfl, trivial⟩
    · refine p_iconst cn_0 ?_
      exact p_fg (S_X11_work_99_29 hl h) ⟨Or.inr rfl, Or.inr rfl, Or.inr rfl, trivial⟩
set_option maxRecDepth 100000 in
theorem pc_X11_work_99 {l : Launch} (hl : l.stackTraces = false) {M : PM} {a1 : Int32} {a2 : Int32} {r : PR} (h : F_X11_work_99 M a1 a2 = some r) : PC l 2 Y_X11_work [vR 99, vI a1, vI a2] M r := pc_of hl (by decide +kernel) cok_X11_work (Nat.le_of_ble_eq_true rfl) rfl (S_X11_work_99 hl  h) rfl
def F_X11_isWork_99 (M : PM) (a1 : Int32) : Option PR := cI (F_X11_in M a1 0 ((mI M 99 34) - 1)) fun v1502 M1501 => (if v1502 &&& 1 = v1502 then some (.inl (some (.int v1502)), M1501) else none)
set_option maxRecDepth 100000 in
theorem S_X11_isWork_99 {l : Launch} (hl : l.stackTraces = false) {M : PM} {a1 : Int32} {r : PR} (h : F_X11_isWork_99 M a1 = some r) : PW l 1 Y_X11_isWork k_X11_isWork [vR 99, vI a1] [] M r := by
  unfold F_X11_isWork_99 at h
  refine p_iload_n rfl ?_
  refine p_iconst cn_0 ?_
  refine p_aload_n rfl ?_
  refine p_getI fk_X11_202 gt_99 rfl ?_
  refine p_iconst cn_1 ?_
  refine p_isub ?_
  refine p_cI (av := [_, _, _]) ⟨mok_X11_in, Or.inr ⟨141, rfl, rfl, sta_X11_in, Or.inl lk_X11_141⟩⟩ (Nat.le_of_ble_eq_true rfl) (Nat.le_of_ble_eq_true rfl) rfl (fun _ h => pc_X11_in hl h) h (fun v1502 M1501 h => ?_)
  exact p_zret rfl h
set_option maxRecDepth 100000 in
theorem pc_X11_isWork_99 {l : Launch} (hl : l.stackTraces = false) {M : PM} {a1 : Int32} {r : PR} (h : F_X11_isWork_99 M a1 = some r) : PC l 1 Y_X11_isWork [vR 99, vI a1] M r := pc_of hl (by decide +kernel) cok_X11_isWork (Nat.le_of_ble_eq_true rfl) rfl (S_X11_isWork_99 hl  h) rfl
def F_X11_isFree_99 (M : PM) (a1 : Int32) (a2 : Int32) : Option PR := cI (F_X11_turnedOn_99 M a1) fun v1504 M1503 => cI (F_X11_bitsAt_99 M1503 v1504) fun v1506 M1505 => (if v1506 &&& a2 = 0 then (if (1 : Int32) &&& 1 = 1 then some (.inl (some (.int 1)), M1505) else none) else (if (0 : Int32) &&& 1 = 0 then some (.inl (some (.int 0)), M1505) else none))
set_option maxRecDepth 100000 in
theorem S_X11_isFree_99 {l : Launch} (hl : l.stackTraces = false) {M : PM} {a1 : Int32} {a2 : Int32} {r : PR} (h : F_X11_isFree_99 M a1 a2 = some r) : PW l 2 Y_X11_isFree k_X11_isFree [vR 99, vI a1, vI a2] [] M r := by
  unfold F_X11_isFree_99 at h
  refine p_aload_n rfl ?_
  refine p_aload_n rfl ?_
  refine p_iload_n rfl ?_
  refine p_cI (av := [_, _]) ⟨mok_X11_turnedOn, Or.inl ⟨250, 99, 11, 0, _, rfl, rfl, rfl, gt_99, rfl, ins_X11_turnedOn, Or.inl lk_X11_250⟩⟩ (Nat.le_of_ble_eq_true rfl) (Nat.le_of_ble_eq_true rfl) rfl (fun _ h => pc_X11_turnedOn_99 hl h) h (fun v1504 M1503 h => ?_)
  refine p_cI (av := [_, _]) ⟨mok_X11_bitsAt, Or.inl ⟨253, 99, 11, 0, _, rfl, rfl, rfl, gt_99, rfl, ins_X11_bitsAt, Or.inl lk_X11_253⟩⟩ (Nat.le_of_ble_eq_true rfl) (Nat.le_of_ble_eq_true rfl) rfl (fun _ h => pc_X11_bitsAt_99 hl h) h (fun v1506 M1505 h => ?_)
  refine p_iload_n rfl ?_
  refine p_iand ?_
  refine p_if_ne h 10 rfl rfl (fun _ h => ?_) (fun _ h => ?_)
  · refine p_iconst cn_1 ?_
    refine p_goto 11 rfl rfl ?_
    exact p_zret rfl h
  · refine p_iconst cn_0 ?_
    exact p_zret rfl h
set_option maxRecDepth 100000 in
theorem pc_X11_isFree_99 {l : Launch} (hl : l.stackTraces = false) {M : PM} {a1 : Int32} {a2 : Int32} {r : PR} (h : F_X11_isFree_99 M a1 a2 = some r) : PC l 2 Y_X11_isFree [vR 99, vI a1, vI a2] M r := pc_of hl (by decide +kernel) cok_X11_isFree (Nat.le_of_ble_eq_true rfl) rfl (S_X11_isFree_99 hl  h) rfl
def F_X11_doneOf_99_86 (k29 : PM → Int32 → Int32 → Int32 → Int32 → Int32 → Option PR) (M : PM) (x1 : Int32) (x3 : Int32) (x4 : Int32) (x5 : Int32) (x6 : Int32) : Option PR := lt (x6 + 1) fun y1507 => k29 M x1 x3 x4 x5 y1507
def F_X11_doneOf_99_29 : Nat → PM → Int32 → Int32 → Int32 → Int32 → Int32 → Option PR
  | 0, _, _, _, _, _, _ => none
  | n + 1, M, x1, x3, x4, x5, x6 => (if 999999999 < x6 then some (.inl (some (.int (-1))), M) else (if x6 < 0 then some (.inl (some (.int (-1))), M) else if ixOK x1 8 = true then if x1.toNatClampNeg < 8 ∧ ixOK 1 2 = true then cI (F_X11_isFree_99 M x6 (mG M 121 x1.toNatClampNeg (1 : Int32).toNatClampNeg)) fun v1509 M1508 => (if v1509 = 0 then lt (x4 + 1) fun y1510 => (if y1510 ≤ x5 + 10 then F_X11_doneOf_99_86 (F_X11_doneOf_99_29 n) M1508 x1 x3 y1510 x5 x6 else some (.inl (some (.int (-1))), M1508)) else lt (x3 + (-1)) fun y1511 => (if y1511 = 0 then some (.inl (some (.int x6)), M1508) else F_X11_doneOf_99_86 (F_X11_doneOf_99_29 n) M1508 x1 y1511 0 x5 x6)) else none else none))
def F_X11_doneOf_99 (M : PM) (a1 : Int32) (a2 : Int32) : Option PR := if ixOK a1 8 = true then if a1.toNatClampNeg < 8 ∧ ixOK 0 2 = true then lt (mG M 121 a1.toNatClampNeg (0 : Int32).toNatClampNeg) fun y1512 => if ixOK a1 8 = true then if a1.toNatClampNeg < 8 ∧ ixOK 1 2 = true then cI (F_X11_turnOf_99 M (mG M 121 a1.toNatClampNeg (1 : Int32).toNatClampNeg)) fun v1514 M1513 => F_X11_doneOf_99_29 FUEL M1513 a1 y1512 0 v1514 a2 else none else none else none else none
set_option maxRecDepth 100000 in
theorem S_X11_doneOf_99_86 {l : Launch} (hl : l.stackTraces = false) {k29 : PM → Int32 → Int32 → Int32 → Int32 → Int32 → Option PR} (hk29 : ∀ {M : PM} {x1 : Int32} {x3 : Int32} {x4 : Int32} {x5 : Int32} {x6 : Int32} {r : PR}, k29 M x1 x3 x4 x5 x6 = some r → PW l 3 Y_X11_doneOf k_X11_doneOf_29 [vR 99, vI x1, jk, vI x3, vI x4, vI x5, vI x6] [] M r) {M : PM} {x1 : Int32} {x3 : Int32} {x4 : Int32} {x5 : Int32} {x6 : Int32} {r : PR} (h : F_X11_doneOf_99_86 k29 M x1 x3 x4 x5 x6 = some r) : PW l 3 Y_X11_doneOf k_X11_doneOf_86 [vR 99, vI x1, jk, vI x3, vI x4, vI x5, vI x6] [] M r := by
  unfold F_X11_doneOf_99_86 at h
  have h := lt_h h
  refine p_iinc (Nat.le_of_ble_eq_true rfl) rfl (ci_1 _) rfl ?_
  refine p_goto 20 rfl rfl ?_
  exact p_fg (hk29 h) ⟨Or.inr rfl, Or.inr rfl, Or.inl rfl, Or.inr rfl, Or.inr rfl, Or.inr rfl, Or.inr rfl, trivial⟩
set_option maxRecDepth 100000 in
theorem S_X11_doneOf_99_29 {l : Launch} (hl : l.stackTraces = false) : ∀ (n : Nat) {M : PM} {x1 : Int32} {x3 : Int32} {x4 : Int32} {x5 : Int32} {x6 : Int32} {r : PR}, F_X11_doneOf_99_29  n M x1 x3 x4 x5 x6 = some r → PW l 3 Y_X11_doneOf k_X11_doneOf_29 [vR 99, vI x1, jk, vI x3, vI x4, vI x5, vI x6] [] M r := by
  intro n
  induction n with
  | zero => intro M x1 x3 x4 x5 x6 r h; exact nomatch (show (none : Option PR) = some r from h)
  | succ n ih =>
    intro M x1 x3 x4 x5 x6 r h
    rw [F_X11_doneOf_99_29] at h
    refine p_iload rfl ?_
    refine p_ldc co_X11_242 ?_
    refine p_icmp_gt h 52 rfl rfl (fun _ h => ?_) (fun _ h => ?_)
    · refine p_iconst cn_m1 ?_
      exact p_iret rfl h
    · refine p_iload rfl ?_
      refine p_if_lt h 52 rfl rfl (fun _ h => ?_) (fun _ h => ?_)
      · refine p_iconst cn_m1 ?_
        exact p_iret rfl h
      · refine p_aload_n rfl ?_
        refine p_iload rfl ?_
        refine p_aload_n rfl ?_
        refine p_getR fk_X11_80 gt_99 rfl rfl ?_
        refine p_iload_n rfl ?_
        refine p_aldG gt_121 h (fun h => ?_)
        refine p_iconst cn_1 ?_
        refine p_ialdG gt_121 h (fun h => ?_)
        refine p_cI (av := [_, _, _]) ⟨mok_X11_isFree, Or.inl ⟨312, 99, 11, 0, _, rfl, rfl, rfl, gt_99, rfl, ins_X11_isFree, Or.inl lk_X11_312⟩⟩ (Nat.le_of_ble_eq_true rfl) (Nat.le_of_ble_eq_true rfl) rfl (fun _ h => pc_X11_isFree_99 hl h) h (fun v1509 M1508 h => ?_)
        refine p_if_eq h 42 rfl rfl (fun _ h => ?_) (fun _ h => ?_)
        · have h := lt_h h
          refine p_iinc (Nat.le_of_ble_eq_true rfl) rfl (ci_1 _) rfl ?_
          refine p_iload rfl ?_
          refine p_iload rfl ?_
          refine p_bipush cb_10 ?_
          refine p_iadd ?_
          refine p_icmp_le h 50 rfl rfl (fun _ h => ?_) (fun _ h => ?_)
          · exact p_fg (S_X11_doneOf_99_86 hl (fun h => ih h) h) ⟨Or.inr rfl, Or.inr rfl, Or.inl rfl, Or.inr rfl, Or.inr rfl, Or.inr rfl, Or.inr rfl, trivial⟩
          · refine p_iconst cn_m1 ?_
            exact p_iret rfl h
        · have h := lt_h h
          refine p_iinc (Nat.le_of_ble_eq_true rfl) rfl (ci_m1 _) rfl ?_
          refine p_iconst cn_0 ?_
          refine p_istore (Nat.le_of_ble_eq_true rfl) rfl ?_
          refine p_iload_n rfl ?_
          refine p_if_ne h 50 rfl rfl (fun _ h => ?_) (fun _ h => ?_)
          · refine p_iload rfl ?_
            exact p_iret rfl h
          · exact p_fg (S_X11_doneOf_99_86 hl (fun h => ih h) h) ⟨Or.inr rfl, Or.inr rfl, Or.inl rfl, Or.inr rfl, Or.inr rfl, Or.inr rfl, Or.inr rfl, trivial⟩
set_option maxRecDepth 100000 in
theorem S_X11_doneOf_99 {l : Launch} (hl : l.stackTraces = false) {M : PM} {a1 : Int32} {a2 : Int32} {r : PR} (h : F_X11_doneOf_99 M a1 a2 = some r) : PW l 3 Y_X11_doneOf k_X11_doneOf [vR 99, vI a1, vI a2, jk, jk, jk, jk] [] M r := by
  unfold F_X11_doneOf_99 at h
  refine p_aload_n rfl ?_
  refine p_getR fk_X11_80 gt_99 rfl rfl ?_
  refine p_iload_n rfl ?_
  refine p_aldG gt_121 h (fun h => ?_)
  refine p_iconst cn_0 ?_
  refine p_ialdG gt_121 h (fun h => ?_)
  have h := lt_h h
  refine p_istore_n (Nat.le_of_ble_eq_true rfl) rfl ?_
  refine p_iconst cn_0 ?_
  refine p_istore (Nat.le_of_ble_eq_true rfl) rfl ?_
  refine p_aload_n rfl ?_
  refine p_aload_n rfl ?_
  refine p_getR fk_X11_80 gt_99 rfl rfl ?_
  refine p_iload_n rfl ?_
  refine p_aldG gt_121 h (fun h => ?_)
  refine p_iconst cn_1 ?_
  refine p_ialdG gt_121 h (fun h => ?_)
  refine p_cI (av := [_, _]) ⟨mok_X11_turnOf, Or.inl ⟨287, 99, 11, 0, _, rfl, rfl, rfl, gt_99, rfl, ins_X11_turnOf, Or.inl lk_X11_287⟩⟩ (Nat.le_of_ble_eq_true rfl) (Nat.le_of_ble_eq_true rfl) rfl (fun _ h => pc_X11_turnOf_99 hl h) h (fun v1514 M1513 h => ?_)
  refine p_istore (Nat.le_of_ble_eq_true rfl) rfl ?_
  refine p_iload_n rfl ?_
  refine p_istore (Nat.le_of_ble_eq_true rfl) rfl ?_
  exact p_fg (S_X11_doneOf_99_29 hl FUEL h) ⟨Or.inr rfl, Or.inr rfl, Or.inl rfl, Or.inr rfl, Or.inr rfl, Or.inr rfl, Or.inr rfl, trivial⟩
set_option maxRecDepth 100000 in
theorem pc_X11_doneOf_99 {l : Launch} (hl : l.stackTraces = false) {M : PM} {a1 : Int32} {a2 : Int32} {r : PR} (h : F_X11_doneOf_99 M a1 a2 = some r) : PC l 3 Y_X11_doneOf [vR 99, vI a1, vI a2] M r := pc_of hl (by decide +kernel) cok_X11_doneOf (Nat.le_of_ble_eq_true rfl) rfl (S_X11_doneOf_99 hl  h) rfl
def F_X11_done_99_40 (M : PM) (x1 : Int32) (x2 : Int32) (t1 : Int32) : Option PR := cI (F_X11_bad_99 M t1 2 1) fun v1516 M1515 => (if v1516 = 0 then cI (F_X11_doneOf_99 M1515 x1 x2) fun v1518 M1517 => some (.inl (some (.int v1518)), M1517) else some (.inl (some (.int 0)), M1515))
def F_X11_done_99_18 (M : PM) (x1 : Int32) (x2 : Int32) (t1 : Int32) : Option PR := cI (F_X11_bad_99 M t1 1 0) fun v1520 M1519 => (if v1520 = 0 then cI (F_X11_isWork_99 M1519 x1) fun v1522 M1521 => (if v1522 = 0 then F_X11_done_99_40 M1521 x1 x2 1 else F_X11_done_99_40 M1521 x1 x2 0) else some (.inl (some (.int 0)), M1519))
def F_X11_done_99 (M : PM) (a1 : Int32) (a2 : Int32) : Option PR := cI (F_X11_isDay (sI M 99 0 0) a2) fun v1524 M1523 => (if v1524 = 0 then F_X11_done_99_18 M1523 a1 a2 1 else F_X11_done_99_18 M1523 a1 a2 0)
set_option maxRecDepth 100000 in
theorem S_X11_done_99_40 {l : Launch} (hl : l.stackTraces = false) {M : PM} {x1 : Int32} {x2 : Int32} {t1 : Int32} {r : PR} (h : F_X11_done_99_40  M x1 x2 t1 = some r) : PW l 4 Y_X11_done k_X11_done_40 [vR 99, vI x1, vI x2] [vI t1, vR 99] M r := by
  unfold F_X11_done_99_40 at h
  refine p_iconst cn_2 ?_
  refine p_iconst cn_1 ?_
  refine p_cI (av := [_, _, _, _]) ⟨mok_X11_bad, Or.inl ⟨180, 99, 11, 0, _, rfl, rfl, rfl, gt_99, rfl, ins_X11_bad, Or.inl lk_X11_180⟩⟩ (Nat.le_of_ble_eq_true rfl) (Nat.le_of_ble_eq_true rfl) rfl (fun _ h => pc_X11_bad_99 hl h) h (fun v1516 M1515 h => ?_)
  refine p_if_eq h 28 rfl rfl (fun _ h => ?_) (fun _ h => ?_)
  · refine p_aload_n rfl ?_
    refine p_iload_n rfl ?_
    refine p_iload_n rfl ?_
    refine p_cI (av := [_, _, _]) ⟨mok_X11_doneOf, Or.inl ⟨318, 99, 11, 0, _, rfl, rfl, rfl, gt_99, rfl, ins_X11_doneOf, Or.inl lk_X11_318⟩⟩ (Nat.le_of_ble_eq_true rfl) (Nat.le_of_ble_eq_true rfl) rfl (fun _ h => pc_X11_doneOf_99 hl h) h (fun v1518 M1517 h => ?_)
    exact p_iret rfl h
  · refine p_iconst cn_0 ?_
    exact p_iret rfl h
set_option maxRecDepth 100000 in
theorem S_X11_done_99_18 {l : Launch} (hl : l.stackTraces = false) {M : PM} {x1 : Int32} {x2 : Int32} {t1 : Int32} {r : PR} (h : F_X11_done_99_18  M x1 x2 t1 = some r) : PW l 4 Y_X11_done k_X11_done_18 [vR 99, vI x1, vI x2] [vI t1, vR 99] M r := by
  unfold F_X11_done_99_18 at h
  refine p_iconst cn_1 ?_
  refine p_iconst cn_0 ?_
  refine p_cI (av := [_, _, _, _]) ⟨mok_X11_bad, Or.inl ⟨180, 99, 11, 0, _, rfl, rfl, rfl, gt_99, rfl, ins_X11_bad, Or.inl lk_X11_180⟩⟩ (Nat.le_of_ble_eq_true rfl) (Nat.le_of_ble_eq_true rfl) rfl (fun _ h => pc_X11_bad_99 hl h) h (fun v1520 M1519 h => ?_)
  refine p_if_ne h 26 rfl rfl (fun _ h => ?_) (fun _ h => ?_)
  · refine p_aload_n rfl ?_
    refine p_aload_n rfl ?_
    refine p_iload_n rfl ?_
    refine p_cI (av := [_, _]) ⟨mok_X11_isWork, Or.inl ⟨315, 99, 11, 0, _, rfl, rfl, rfl, gt_99, rfl, ins_X11_isWork, Or.inl lk_X11_315⟩⟩ (Nat.le_of_ble_eq_true rfl) (Nat.le_of_ble_eq_true rfl) rfl (fun _ h => pc_X11_isWork_99 hl h) h (fun v1522 M1521 h => ?_)
    refine p_if_ne h 21 rfl rfl (fun _ h => ?_) (fun _ h => ?_)
    · refine p_iconst cn_1 ?_
      refine p_goto 22 rfl rfl ?_
      exact p_fg (S_X11_done_99_40 hl h) ⟨Or.inr rfl, Or.inr rfl, Or.inr rfl, trivial⟩
    · refine p_iconst cn_0 ?_
      exact p_fg (S_X11_done_99_40 hl h) ⟨Or.inr rfl, Or.inr rfl, Or.inr rfl, trivial⟩
  · refine p_iconst cn_0 ?_
    exact p_iret rfl h
set_option maxRecDepth 100000 in
theorem S_X11_done_99 {l : Launch} (hl : l.stackTraces = false) {M : PM} {a1 : Int32} {a2 : Int32} {r : PR} (h : F_X11_done_99 M a1 a2 = some r) : PW l 4 Y_X11_done k_X11_done [vR 99, vI a1, vI a2] [] M r := by
  unfold F_X11_done_99 at h
  refine p_aload_n rfl ?_
  refine p_iconst cn_0 ?_
  refine p_putI fk_X11_107 gt_99 rfl ?_
  refine p_aload_n rfl ?_
  refine p_iload_n rfl ?_
  refine p_cI (av := [_]) ⟨mok_X11_isDay, Or.inr ⟨247, rfl, rfl, sta_X11_isDay, Or.inl lk_X11_247⟩⟩ (Nat.le_of_ble_eq_true rfl) (Nat.le_of_ble_eq_true rfl) rfl (fun _ h => pc_X11_isDay hl h) h (fun v1524 M1523 h => ?_)
  refine p_if_ne h 9 rfl rfl (fun _ h => ?_) (fun _ h => ?_)
  · refine p_iconst cn_1 ?_
    refine p_goto 10 rfl rfl ?_
    exact p_fg (S_X11_done_99_18 hl h) ⟨Or.inr rfl, Or.inr rfl, Or.inr rfl, trivial⟩
  · refine p_iconst cn_0 ?_
    exact p_fg (S_X11_done_99_18 hl h) ⟨Or.inr rfl, Or.inr rfl, Or.inr rfl, trivial⟩
set_option maxRecDepth 100000 in
theorem pc_X11_done_99 {l : Launch} (hl : l.stackTraces = false) {M : PM} {a1 : Int32} {a2 : Int32} {r : PR} (h : F_X11_done_99 M a1 a2 = some r) : PC l 4 Y_X11_done [vR 99, vI a1, vI a2] M r := pc_of hl (by decide +kernel) cok_X11_done (Nat.le_of_ble_eq_true rfl) rfl (S_X11_done_99 hl  h) rfl
def F_X11_begun_99_204 (k98 : PM → Int32 → Int32 → Int32 → Int32 → Int32 → Int32 → Option PR) (M : PM) (x1 : Int32) (x3 : Int32) (x4 : Int32) (x5 : Int32) (x6 : Int32) (x7 : Int32) : Option PR := lt (x7 + 1) fun y1525 => k98 M x1 x3 x4 x5 x6 y1525
def F_X11_begun_99_202 (k98 : PM → Int32 → Int32 → Int32 → Int32 → Int32 → Int32 → Option PR) (M : PM) (x1 : Int32) (x3 : Int32) (x4 : Int32) (x5 : Int32) (x7 : Int32) (t0 : Int32) : Option PR := F_X11_begun_99_204 k98 M x1 x3 x4 x5 t0 x7
def F_X11_begun_99_189 (k98 : PM → Int32 → Int32 → Int32 → Int32 → Int32 → Int32 → Option PR) (M : PM) (x1 : Int32) (x3 : Int32) (x4 : Int32) (x5 : Int32) (x6 : Int32) (x7 : Int32) : Option PR := (if x6 ≤ 999999999 then F_X11_begun_99_202 k98 M x1 x3 x4 x5 x7 x6 else F_X11_begun_99_202 k98 M x1 x3 x4 x5 x7 (-1))
def F_X11_begun_99_159 (k98 : PM → Int32 → Int32 → Int32 → Int32 → Int32 → Int32 → Option PR) : Nat → PM → Int32 → Int32 → Int32 → Int32 → Int32 → Int32 → Option PR
  | 0, _, _, _, _, _, _, _ => none
  | n + 1, M, x1, x3, x4, x5, x6, x7 => (if 999999999 < x6 then F_X11_begun_99_189 k98 M x1 x3 x4 x5 x6 x7 else if ixOK x1 8 = true then if x1.toNatClampNeg < 8 ∧ ixOK 1 2 = true then cI (F_X11_isFree_99 M x6 (mG M 121 x1.toNatClampNeg (1 : Int32).toNatClampNeg)) fun v1527 M1526 => (if v1527 = 0 then lt (x6 + 1) fun y1528 => F_X11_begun_99_159 k98 n M1526 x1 x3 x4 x5 y1528 x7 else F_X11_begun_99_189 k98 M1526 x1 x3 x4 x5 x6 x7) else none else none)
def F_X11_begun_99_136 (k98 : PM → Int32 → Int32 → Int32 → Int32 → Int32 → Int32 → Option PR) (M : PM) (x1 : Int32) (x3 : Int32) (x4 : Int32) (x5 : Int32) (x6 : Int32) (x7 : Int32) : Option PR := if ixOK x1 8 = true then if x1.toNatClampNeg < 8 ∧ ixOK 1 2 = true then cI (F_X11_isFree_99 M x7 (mG M 121 x1.toNatClampNeg (1 : Int32).toNatClampNeg)) fun v1530 M1529 => (if v1530 = 0 then F_X11_begun_99_204 k98 M1529 x1 x3 x4 x5 x6 x7 else lt (x6 + 1) fun y1531 => F_X11_begun_99_159 k98 FUEL M1529 x1 x3 x4 x5 y1531 x7) else none else none
def F_X11_begun_99_126 (k98 : PM → Int32 → Int32 → Int32 → Int32 → Int32 → Int32 → Option PR) (M : PM) (x1 : Int32) (x5 : Int32) (x6 : Int32) (x7 : Int32) : Option PR := lt (x6 - x7) fun y1532 => F_X11_begun_99_136 k98 M x1 x7 y1532 x5 x6 x7
def F_X11_begun_99_98 : Nat → PM → Int32 → Int32 → Int32 → Int32 → Int32 → Int32 → Option PR
  | 0, _, _, _, _, _, _, _ => none
  | n + 1, M, x1, x3, x4, x5, x6, x7 => (if x5 < x7 then some (.inl (some (.int x3)), M) else (if x6 = (-1) then some (.inl (some (.int x3)), M) else (if x3 = (-1) then F_X11_begun_99_126 (F_X11_begun_99_98 n) M x1 x5 x6 x7 else (if x4 ≤ x6 - x7 then F_X11_begun_99_136 (F_X11_begun_99_98 n) M x1 x3 x4 x5 x6 x7 else F_X11_begun_99_126 (F_X11_begun_99_98 n) M x1 x5 x6 x7))))
def F_X11_begun_99_85 (M : PM) (x1 : Int32) (x2 : Int32) (x3 : Int32) (x4 : Int32) (t0 : Int32) : Option PR := cI (F_X11_doneOf_99 M x1 x2) fun v1534 M1533 => F_X11_begun_99_98 FUEL M1533 x1 x3 x4 t0 v1534 x2
def F_X11_begun_99_40 (M : PM) (x1 : Int32) (x2 : Int32) (t1 : Int32) : Option PR := cI (F_X11_bad_99 M t1 2 1) fun v1536 M1535 => (if v1536 = 0 then if ixOK 4 6 = true then (if x2 ≤ (999999999 - (mA M1535 103 (4 : Int32).toNatClampNeg)) + 1 then if ixOK 4 6 = true then F_X11_begun_99_85 M1535 x1 x2 (-1) 0 ((x2 + (mA M1535 103 (4 : Int32).toNatClampNeg)) - 1) else none else F_X11_begun_99_85 M1535 x1 x2 (-1) 0 999999999) else none else some (.inl (some (.int 0)), M1535))
def F_X11_begun_99_18 (M : PM) (x1 : Int32) (x2 : Int32) (t1 : Int32) : Option PR := cI (F_X11_bad_99 M t1 1 0) fun v1538 M1537 => (if v1538 = 0 then cI (F_X11_isWork_99 M1537 x1) fun v1540 M1539 => (if v1540 = 0 then F_X11_begun_99_40 M1539 x1 x2 1 else F_X11_begun_99_40 M1539 x1 x2 0) else some (.inl (some (.int 0)), M1537))
def F_X11_begun_99 (M : PM) (a1 : Int32) (a2 : Int32) : Option PR := cI (F_X11_isDay (sI M 99 0 0) a2) fun v1542 M1541 => (if v1542 = 0 then F_X11_begun_99_18 M1541 a1 a2 1 else F_X11_begun_99_18 M1541 a1 a2 0)
set_option maxRecDepth 100000 in
theorem S_X11_begun_99_204 {l : Launch} (hl : l.stackTraces = false) {k98 : PM → Int32 → Int32 → Int32 → Int32 → Int32 → Int32 → Option PR} (hk98 : ∀ {M : PM} {x1 : Int32} {x3 : Int32} {x4 : Int32} {x5 : Int32} {x6 : Int32} {x7 : Int32} {r : PR}, k98 M x1 x3 x4 x5 x6 x7 = some r → PW l 4 Y_X11_begun k_X11_begun_98 [vR 99, vI x1, jk, vI x3, vI x4, vI x5, vI x6, vI x7] [] M r) {M : PM} {x1 : Int32} {x3 : Int32} {x4 : Int32} {x5 : Int32} {x6 : Int32} {x7 : Int32} {r : PR} (h : F_X11_begun_99_204 k98 M x1 x3 x4 x5 x6 x7 = some r) : PW l 4 Y_X11_begun k_X11_begun_204 [vR 99, vI x1, jk, vI x3, vI x4, vI x5, vI x6, vI x7] [] M r := by
  unfold F_X11_begun_99_204 at h
  have h := lt_h h
  refine p_iinc (Nat.le_of_ble_eq_true rfl) rfl (ci_1 _) rfl ?_
  refine p_goto 60 rfl rfl ?_
  exact p_fg (hk98 h) ⟨Or.inr rfl, Or.inr rfl, Or.inl rfl, Or.inr rfl, Or.inr rfl, Or.inr rfl, Or.inr rfl, Or.inr rfl, trivial⟩
set_option maxRecDepth 100000 in
theorem S_X11_begun_99_202 {l : Launch} (hl : l.stackTraces = false) {k98 : PM → Int32 → Int32 → Int32 → Int32 → Int32 → Int32 → Option PR} (hk98 : ∀ {M : PM} {x1 : Int32} {x3 : Int32} {x4 : Int32} {x5 : Int32} {x6 : Int32} {x7 : Int32} {r : PR}, k98 M x1 x3 x4 x5 x6 x7 = some r → PW l 4 Y_X11_begun k_X11_begun_98 [vR 99, vI x1, jk, vI x3, vI x4, vI x5, vI x6, vI x7] [] M r) {M : PM} {x1 : Int32} {x3 : Int32} {x4 : Int32} {x5 : Int32} {x7 : Int32} {t0 : Int32} {r : PR} (h : F_X11_begun_99_202 k98 M x1 x3 x4 x5 x7 t0 = some r) : PW l 4 Y_X11_begun k_X11_begun_202 [vR 99, vI x1, jk, vI x3, vI x4, vI x5, jk, vI x7] [vI t0] M r := by
  unfold F_X11_begun_99_202 at h
  refine p_istore (Nat.le_of_ble_eq_true rfl) rfl ?_
  exact p_fg (S_X11_begun_99_204 hl hk98 h) ⟨Or.inr rfl, Or.inr rfl, Or.inl rfl, Or.inr rfl, Or.inr rfl, Or.inr rfl, Or.inr rfl, Or.inr rfl, trivial⟩
set_option maxRecDepth 100000 in
theorem S_X11_begun_99_189 {l : Launch} (hl : l.stackTraces = false) {k98 : PM → Int32 → Int32 → Int32 → Int32 → Int32 → Int32 → Option PR} (hk98 : ∀ {M : PM} {x1 : Int32} {x3 : Int32} {x4 : Int32} {x5 : Int32} {x6 : Int32} {x7 : Int32} {r : PR}, k98 M x1 x3 x4 x5 x6 x7 = some r → PW l 4 Y_X11_begun k_X11_begun_98 [vR 99, vI x1, jk, vI x3, vI x4, vI x5, vI x6, vI x7] [] M r) {M : PM} {x1 : Int32} {x3 : Int32} {x4 : Int32} {x5 : Int32} {x6 : Int32} {x7 : Int32} {r : PR} (h : F_X11_begun_99_189 k98 M x1 x3 x4 x5 x6 x7 = some r) : PW l 4 Y_X11_begun k_X11_begun_189 [vR 99, vI x1, jk, vI x3, vI x4, vI x5, vI x6, vI x7] [] M r := by
  unfold F_X11_begun_99_189 at h
  refine p_iload rfl ?_
  refine p_ldc co_X11_242 ?_
  refine p_icmp_le h 112 rfl rfl (fun _ h => ?_) (fun _ h => ?_)
  · refine p_iload rfl ?_
    exact p_fg (S_X11_begun_99_202 hl hk98 h) ⟨Or.inr rfl, Or.inr rfl, Or.inl rfl, Or.inr rfl, Or.inr rfl, Or.inr rfl, Or.inl rfl, Or.inr rfl, trivial⟩
  · refine p_iconst cn_m1 ?_
    refine p_goto 113 rfl rfl ?_
    exact p_fg (S_X11_begun_99_202 hl hk98 h) ⟨Or.inr rfl, Or.inr rfl, Or.inl rfl, Or.inr rfl, Or.inr rfl, Or.inr rfl, Or.inl rfl, Or.inr rfl, trivial⟩
set_option maxRecDepth 100000 in
theorem S_X11_begun_99_159 {l : Launch} (hl : l.stackTraces = false) {k98 : PM → Int32 → Int32 → Int32 → Int32 → Int32 → Int32 → Option PR} (hk98 : ∀ {M : PM} {x1 : Int32} {x3 : Int32} {x4 : Int32} {x5 : Int32} {x6 : Int32} {x7 : Int32} {r : PR}, k98 M x1 x3 x4 x5 x6 x7 = some r → PW l 4 Y_X11_begun k_X11_begun_98 [vR 99, vI x1, jk, vI x3, vI x4, vI x5, vI x6, vI x7] [] M r) : ∀ (n : Nat) {M : PM} {x1 : Int32} {x3 : Int32} {x4 : Int32} {x5 : Int32} {x6 : Int32} {x7 : Int32} {r : PR}, F_X11_begun_99_159 k98 n M x1 x3 x4 x5 x6 x7 = some r → PW l 4 Y_X11_begun k_X11_begun_159 [vR 99, vI x1, jk, vI x3, vI x4, vI x5, vI x6, vI x7] [] M r := by
  intro n
  induction n with
  | zero => intro M x1 x3 x4 x5 x6 x7 r h; exact nomatch (show (none : Option PR) = some r from h)
  | succ n ih =>
    intro M x1 x3 x4 x5 x6 x7 r h
    rw [F_X11_begun_99_159] at h
    refine p_iload rfl ?_
    refine p_ldc co_X11_242 ?_
    refine p_icmp_gt h 107 rfl rfl (fun _ h => ?_) (fun _ h => ?_)
    · exact p_fg (S_X11_begun_99_189 hl hk98 h) ⟨Or.inr rfl, Or.inr rfl, Or.inl rfl, Or.inr rfl, Or.inr rfl, Or.inr rfl, Or.inr rfl, Or.inr rfl, trivial⟩
    · refine p_aload_n rfl ?_
      refine p_iload rfl ?_
      refine p_aload_n rfl ?_
      refine p_getR fk_X11_80 gt_99 rfl rfl ?_
      refine p_iload_n rfl ?_
      refine p_aldG gt_121 h (fun h => ?_)
      refine p_iconst cn_1 ?_
      refine p_ialdG gt_121 h (fun h => ?_)
      refine p_cI (av := [_, _, _]) ⟨mok_X11_isFree, Or.inl ⟨312, 99, 11, 0, _, rfl, rfl, rfl, gt_99, rfl, ins_X11_isFree, Or.inl lk_X11_312⟩⟩ (Nat.le_of_ble_eq_true rfl) (Nat.le_of_ble_eq_true rfl) rfl (fun _ h => pc_X11_isFree_99 hl h) h (fun v1527 M1526 h => ?_)
      refine p_if_ne h 107 rfl rfl (fun _ h => ?_) (fun _ h => ?_)
      · have h := lt_h h
        refine p_iinc (Nat.le_of_ble_eq_true rfl) rfl (ci_1 _) rfl ?_
        refine p_goto 92 rfl rfl ?_
        exact p_fg (ih h) ⟨Or.inr rfl, Or.inr rfl, Or.inl rfl, Or.inr rfl, Or.inr rfl, Or.inr rfl, Or.inr rfl, Or.inr rfl, trivial⟩
      · exact p_fg (S_X11_begun_99_189 hl hk98 h) ⟨Or.inr rfl, Or.inr rfl, Or.inl rfl, Or.inr rfl, Or.inr rfl, Or.inr rfl, Or.inr rfl, Or.inr rfl, trivial⟩
set_option maxRecDepth 100000 in
theorem S_X11_begun_99_136 {l : Launch} (hl : l.stackTraces = false) {k98 : PM → Int32 → Int32 → Int32 → Int32 → Int32 → Int32 → Option PR} (hk98 : ∀ {M : PM} {x1 : Int32} {x3 : Int32} {x4 : Int32} {x5 : Int32} {x6 : Int32} {x7 : Int32} {r : PR}, k98 M x1 x3 x4 x5 x6 x7 = some r → PW l 4 Y_X11_begun k_X11_begun_98 [vR 99, vI x1, jk, vI x3, vI x4, vI x5, vI x6, vI x7] [] M r) {M : PM} {x1 : Int32} {x3 : Int32} {x4 : Int32} {x5 : Int32} {x6 : Int32} {x7 : Int32} {r : PR} (h : F_X11_begun_99_136 k98 M x1 x3 x4 x5 x6 x7 = some r) : PW l 4 Y_X11_begun k_X11_begun_136 [vR 99, vI x1, jk, vI x3, vI x4, vI x5, vI x6, vI x7] [] M r := by
  unfold F_X11_begun_99_136 at h
  refine p_aload_n rfl ?_
  refine p_iload rfl ?_
  refine p_aload_n rfl ?_
  refine p_getR fk_X11_80 gt_99 rfl rfl ?_
  refine p_iload_n rfl ?_
  refine p_aldG gt_121 h (fun h => ?_)
  refine p_iconst cn_1 ?_
  refine p_ialdG gt_121 h (fun h => ?_)
  refine p_cI (av := [_, _, _]) ⟨mok_X11_isFree, Or.inl ⟨312, 99, 11, 0, _, rfl, rfl, rfl, gt_99, rfl, ins_X11_isFree, Or.inl lk_X11_312⟩⟩ (Nat.le_of_ble_eq_true rfl) (Nat.le_of_ble_eq_true rfl) rfl (fun _ h => pc_X11_isFree_99 hl h) h (fun v1530 M1529 h => ?_)
  refine p_if_ne h 91 rfl rfl (fun _ h => ?_) (fun _ h => ?_)
  · refine p_goto 114 rfl rfl ?_
    exact p_fg (S_X11_begun_99_204 hl hk98 h) ⟨Or.inr rfl, Or.inr rfl, Or.inl rfl, Or.inr rfl, Or.inr rfl, Or.inr rfl, Or.inr rfl, Or.inr rfl, trivial⟩
  · have h := lt_h h
    refine p_iinc (Nat.le_of_ble_eq_true rfl) rfl (ci_1 _) rfl ?_
    exact p_fg (S_X11_begun_99_159 hl hk98 FUEL h) ⟨Or.inr rfl, Or.inr rfl, Or.inl rfl, Or.inr rfl, Or.inr rfl, Or.inr rfl, Or.inr rfl, Or.inr rfl, trivial⟩
set_option maxRecDepth 100000 in
theorem S_X11_begun_99_126 {l : Launch} (hl : l.stackTraces = false) {k98 : PM → Int32 → Int32 → Int32 → Int32 → Int32 → Int32 → Option PR} (hk98 : ∀ {M : PM} {x1 : Int32} {x3 : Int32} {x4 : Int32} {x5 : Int32} {x6 : Int32} {x7 : Int32} {r : PR}, k98 M x1 x3 x4 x5 x6 x7 = some r → PW l 4 Y_X11_begun k_X11_begun_98 [vR 99, vI x1, jk, vI x3, vI x4, vI x5, vI x6, vI x7] [] M r) {M : PM} {x1 : Int32} {x5 : Int32} {x6 : Int32} {x7 : Int32} {r : PR} (h : F_X11_begun_99_126 k98 M x1 x5 x6 x7 = some r) : PW l 4 Y_X11_begun k_X11_begun_126 [vR 99, vI x1, jk, jk, jk, vI x5, vI x6, vI x7] [] M r := by
  unfold F_X11_begun_99_126 at h
  refine p_iload rfl ?_
  refine p_istore_n (Nat.le_of_ble_eq_true rfl) rfl ?_
  refine p_iload rfl ?_
  refine p_iload rfl ?_
  refine p_isub ?_
  have h := lt_h h
  refine p_istore (Nat.le_of_ble_eq_true rfl) rfl ?_
  exact p_fg (S_X11_begun_99_136 hl hk98 h) ⟨Or.inr rfl, Or.inr rfl, Or.inl rfl, Or.inr rfl, Or.inr rfl, Or.inr rfl, Or.inr rfl, Or.inr rfl, trivial⟩
set_option maxRecDepth 100000 in
theorem S_X11_begun_99_98 {l : Launch} (hl : l.stackTraces = false) : ∀ (n : Nat) {M : PM} {x1 : Int32} {x3 : Int32} {x4 : Int32} {x5 : Int32} {x6 : Int32} {x7 : Int32} {r : PR}, F_X11_begun_99_98  n M x1 x3 x4 x5 x6 x7 = some r → PW l 4 Y_X11_begun k_X11_begun_98 [vR 99, vI x1, jk, vI x3, vI x4, vI x5, vI x6, vI x7] [] M r := by
  intro n
  induction n with
  | zero => intro M x1 x3 x4 x5 x6 x7 r h; exact nomatch (show (none : Option PR) = some r from h)
  | succ n ih =>
    intro M x1 x3 x4 x5 x6 x7 r h
    rw [F_X11_begun_99_98] at h
    refine p_iload rfl ?_
    refine p_iload rfl ?_
    refine p_icmp_gt h 116 rfl rfl (fun _ h => ?_) (fun _ h => ?_)
    · refine p_iload_n rfl ?_
      exact p_iret rfl h
    · refine p_iload rfl ?_
      refine p_iconst cn_m1 ?_
      refine p_icmp_eq h 116 rfl rfl (fun _ h => ?_) (fun _ h => ?_)
      · refine p_iload_n rfl ?_
        exact p_iret rfl h
      · refine p_iload_n rfl ?_
        refine p_iconst cn_m1 ?_
        refine p_icmp_eq h 74 rfl rfl (fun _ h => ?_) (fun _ h => ?_)
        · exact p_fg (S_X11_begun_99_126 hl (fun h => ih h) h) ⟨Or.inr rfl, Or.inr rfl, Or.inl rfl, Or.inl rfl, Or.inl rfl, Or.inr rfl, Or.inr rfl, Or.inr rfl, trivial⟩
        · refine p_iload rfl ?_
          refine p_iload rfl ?_
          refine p_isub ?_
          refine p_iload rfl ?_
          refine p_icmp_ge h 80 rfl rfl (fun _ h => ?_) (fun _ h => ?_)
          · exact p_fg (S_X11_begun_99_136 hl (fun h => ih h) h) ⟨Or.inr rfl, Or.inr rfl, Or.inl rfl, Or.inr rfl, Or.inr rfl, Or.inr rfl, Or.inr rfl, Or.inr rfl, trivial⟩
          · exact p_fg (S_X11_begun_99_126 hl (fun h => ih h) h) ⟨Or.inr rfl, Or.inr rfl, Or.inl rfl, Or.inl rfl, Or.inl rfl, Or.inr rfl, Or.inr rfl, Or.inr rfl, trivial⟩
set_option maxRecDepth 100000 in
theorem S_X11_begun_99_85 {l : Launch} (hl : l.stackTraces = false) {M : PM} {x1 : Int32} {x2 : Int32} {x3 : Int32} {x4 : Int32} {t0 : Int32} {r : PR} (h : F_X11_begun_99_85  M x1 x2 x3 x4 t0 = some r) : PW l 4 Y_X11_begun k_X11_begun_85 [vR 99, vI x1, vI x2, vI x3, vI x4, jk, jk, jk] [vI t0] M r := by
  unfold F_X11_begun_99_85 at h
  refine p_istore (Nat.le_of_ble_eq_true rfl) rfl ?_
  refine p_aload_n rfl ?_
  refine p_iload_n rfl ?_
  refine p_iload_n rfl ?_
  refine p_cI (av := [_, _, _]) ⟨mok_X11_doneOf, Or.inl ⟨318, 99, 11, 0, _, rfl, rfl, rfl, gt_99, rfl, ins_X11_doneOf, Or.inl lk_X11_318⟩⟩ (Nat.le_of_ble_eq_true rfl) (Nat.le_of_ble_eq_true rfl) rfl (fun _ h => pc_X11_doneOf_99 hl h) h (fun v1534 M1533 h => ?_)
  refine p_istore (Nat.le_of_ble_eq_true rfl) rfl ?_
  refine p_iload_n rfl ?_
  refine p_istore (Nat.le_of_ble_eq_true rfl) rfl ?_
  exact p_fg (S_X11_begun_99_98 hl FUEL h) ⟨Or.inr rfl, Or.inr rfl, Or.inl rfl, Or.inr rfl, Or.inr rfl, Or.inr rfl, Or.inr rfl, Or.inr rfl, trivial⟩
set_option maxRecDepth 100000 in
theorem S_X11_begun_99_40 {l : Launch} (hl : l.stackTraces = false) {M : PM} {x1 : Int32} {x2 : Int32} {t1 : Int32} {r : PR} (h : F_X11_begun_99_40  M x1 x2 t1 = some r) : PW l 4 Y_X11_begun k_X11_begun_40 [vR 99, vI x1, vI x2, jk, jk, jk, jk, jk] [vI t1, vR 99] M r := by
  unfold F_X11_begun_99_40 at h
  refine p_iconst cn_2 ?_
  refine p_iconst cn_1 ?_
  refine p_cI (av := [_, _, _, _]) ⟨mok_X11_bad, Or.inl ⟨180, 99, 11, 0, _, rfl, rfl, rfl, gt_99, rfl, ins_X11_bad, Or.inl lk_X11_180⟩⟩ (Nat.le_of_ble_eq_true rfl) (Nat.le_of_ble_eq_true rfl) rfl (fun _ h => pc_X11_bad_99 hl h) h (fun v1536 M1535 h => ?_)
  refine p_if_eq h 28 rfl rfl (fun _ h => ?_) (fun _ h => ?_)
  · refine p_iconst cn_m1 ?_
    refine p_istore_n (Nat.le_of_ble_eq_true rfl) rfl ?_
    refine p_iconst cn_0 ?_
    refine p_istore (Nat.le_of_ble_eq_true rfl) rfl ?_
    refine p_iload_n rfl ?_
    refine p_ldc co_X11_242 ?_
    refine p_aload_n rfl ?_
    refine p_getR fk_X11_23 gt_99 rfl rfl ?_
    refine p_iconst cn_4 ?_
    refine p_iald gt_103 h (fun h => ?_)
    refine p_isub ?_
    refine p_iconst cn_1 ?_
    refine p_iadd ?_
    refine p_icmp_le h 44 rfl rfl (fun _ h => ?_) (fun _ h => ?_)
    · refine p_iload_n rfl ?_
      refine p_aload_n rfl ?_
      refine p_getR fk_X11_23 gt_99 rfl rfl ?_
      refine p_iconst cn_4 ?_
      refine p_iald gt_103 h (fun h => ?_)
      refine p_iadd ?_
      refine p_iconst cn_1 ?_
      refine p_isub ?_
      exact p_fg (S_X11_begun_99_85 hl h) ⟨Or.inr rfl, Or.inr rfl, Or.inr rfl, Or.inr rfl, Or.inr rfl, Or.inl rfl, Or.inl rfl, Or.inl rfl, trivial⟩
    · refine p_ldc co_X11_242 ?_
      refine p_goto 52 rfl rfl ?_
      exact p_fg (S_X11_begun_99_85 hl h) ⟨Or.inr rfl, Or.inr rfl, Or.inr rfl, Or.inr rfl, Or.inr rfl, Or.inl rfl, Or.inl rfl, Or.inl rfl, trivial⟩
  · refine p_iconst cn_0 ?_
    exact p_iret rfl h
set_option maxRecDepth 100000 in
theorem S_X11_begun_99_18 {l : Launch} (hl : l.stackTraces = false) {M : PM} {x1 : Int32} {x2 : Int32} {t1 : Int32} {r : PR} (h : F_X11_begun_99_18  M x1 x2 t1 = some r) : PW l 4 Y_X11_begun k_X11_begun_18 [vR 99, vI x1, vI x2, jk, jk, jk, jk, jk] [vI t1, vR 99] M r := by
  unfold F_X11_begun_99_18 at h
  refine p_iconst cn_1 ?_
  refine p_iconst cn_0 ?_
  refine p_cI (av := [_, _, _, _]) ⟨mok_X11_bad, Or.inl ⟨180, 99, 11, 0, _, rfl, rfl, rfl, gt_99, rfl, ins_X11_bad, Or.inl lk_X11_180⟩⟩ (Nat.le_of_ble_eq_true rfl) (Nat.le_of_ble_eq_true rfl) rfl (fun _ h => pc_X11_bad_99 hl h) h (fun v1538 M1537 h => ?_)
  refine p_if_ne h 26 rfl rfl (fun _ h => ?_) (fun _ h => ?_)
  · refine p_aload_n rfl ?_
    refine p_aload_n rfl ?_
    refine p_iload_n rfl ?_
    refine p_cI (av := [_, _]) ⟨mok_X11_isWork, Or.inl ⟨315, 99, 11, 0, _, rfl, rfl, rfl, gt_99, rfl, ins_X11_isWork, Or.inl lk_X11_315⟩⟩ (Nat.le_of_ble_eq_true rfl) (Nat.le_of_ble_eq_true rfl) rfl (fun _ h => pc_X11_isWork_99 hl h) h (fun v1540 M1539 h => ?_)
    refine p_if_ne h 21 rfl rfl (fun _ h => ?_) (fun _ h => ?_)
    · refine p_iconst cn_1 ?_
      refine p_goto 22 rfl rfl ?_
      exact p_fg (S_X11_begun_99_40 hl h) ⟨Or.inr rfl, Or.inr rfl, Or.inr rfl, Or.inl rfl, Or.inl rfl, Or.inl rfl, Or.inl rfl, Or.inl rfl, trivial⟩
    · refine p_iconst cn_0 ?_
      exact p_fg (S_X11_begun_99_40 hl h) ⟨Or.inr rfl, Or.inr rfl, Or.inr rfl, Or.inl rfl, Or.inl rfl, Or.inl rfl, Or.inl rfl, Or.inl rfl, trivial⟩
  · refine p_iconst cn_0 ?_
    exact p_iret rfl h
set_option maxRecDepth 100000 in
theorem S_X11_begun_99 {l : Launch} (hl : l.stackTraces = false) {M : PM} {a1 : Int32} {a2 : Int32} {r : PR} (h : F_X11_begun_99 M a1 a2 = some r) : PW l 4 Y_X11_begun k_X11_begun [vR 99, vI a1, vI a2, jk, jk, jk, jk, jk] [] M r := by
  unfold F_X11_begun_99 at h
  refine p_aload_n rfl ?_
  refine p_iconst cn_0 ?_
  refine p_putI fk_X11_107 gt_99 rfl ?_
  refine p_aload_n rfl ?_
  refine p_iload_n rfl ?_
  refine p_cI (av := [_]) ⟨mok_X11_isDay, Or.inr ⟨247, rfl, rfl, sta_X11_isDay, Or.inl lk_X11_247⟩⟩ (Nat.le_of_ble_eq_true rfl) (Nat.le_of_ble_eq_true rfl) rfl (fun _ h => pc_X11_isDay hl h) h (fun v1542 M1541 h => ?_)
  refine p_if_ne h 9 rfl rfl (fun _ h => ?_) (fun _ h => ?_)
  · refine p_iconst cn_1 ?_
    refine p_goto 10 rfl rfl ?_
    exact p_fg (S_X11_begun_99_18 hl h) ⟨Or.inr rfl, Or.inr rfl, Or.inr rfl, Or.inl rfl, Or.inl rfl, Or.inl rfl, Or.inl rfl, Or.inl rfl, trivial⟩
  · refine p_iconst cn_0 ?_
    exact p_fg (S_X11_begun_99_18 hl h) ⟨Or.inr rfl, Or.inr rfl, Or.inr rfl, Or.inl rfl, Or.inl rfl, Or.inl rfl, Or.inl rfl, Or.inl rfl, trivial⟩
set_option maxRecDepth 100000 in
theorem pc_X11_begun_99 {l : Launch} (hl : l.stackTraces = false) {M : PM} {a1 : Int32} {a2 : Int32} {r : PR} (h : F_X11_begun_99 M a1 a2 = some r) : PC l 4 Y_X11_begun [vR 99, vI a1, vI a2] M r := pc_of hl (by decide +kernel) cok_X11_begun (Nat.le_of_ble_eq_true rfl) rfl (S_X11_begun_99 hl  h) rfl
def F_X11_laysEarly_99_119 (k2 : PM → Int32 → Int32 → Option PR) (k29 : PM → Int32 → Int32 → Int32 → Option PR) (M : PM) (x1 : Int32) (x2 : Int32) (x3 : Int32) : Option PR := lt (x3 + 1) fun y1543 => k29 M x1 x2 y1543
def F_X11_laysEarly_99_109 (k2 : PM → Int32 → Int32 → Option PR) (k29 : PM → Int32 → Int32 → Int32 → Option PR) (M : PM) (x1 : Int32) (x2 : Int32) (x3 : Int32) (x5 : Int32) : Option PR := if ixOK x2 256 = true then F_X11_laysEarly_99_119 k2 k29 (sA M 127 x2.toNatClampNeg (x5 + 1)) x1 x2 x3 else none
def F_X11_laysEarly_99_29 (k2 : PM → Int32 → Int32 → Option PR) : Nat → PM → Int32 → Int32 → Int32 → Option PR
  | 0, _, _, _, _ => none
  | n + 1, M, x1, x2, x3 => (if mI M 99 34 ≤ x3 then lt (x2 + 1) fun y1544 => k2 M x1 y1544 else lt (x2 &&& ((1 <<< (x3 &&& 31)) ^^^ (-1))) fun y1545 => (if y1545 = x2 then F_X11_laysEarly_99_119 k2 (F_X11_laysEarly_99_29 k2 n) M x1 x2 x3 else if ixOK y1545 256 = true then (if mA M 127 y1545.toNatClampNeg = (-1) then F_X11_laysEarly_99_119 k2 (F_X11_laysEarly_99_29 k2 n) M x1 x2 x3 else if ixOK y1545 256 = true then cI (F_X11_doneOf_99 M x3 (mA M 127 y1545.toNatClampNeg)) fun v1547 M1546 => (if v1547 = (-1) then F_X11_laysEarly_99_119 k2 (F_X11_laysEarly_99_29 k2 n) M1546 x1 x2 x3 else if ixOK x2 256 = true then (if mA M1546 127 x2.toNatClampNeg = (-1) then F_X11_laysEarly_99_109 k2 (F_X11_laysEarly_99_29 k2 n) M1546 x1 x2 x3 v1547 else if ixOK x2 256 = true then (if mA M1546 127 x2.toNatClampNeg ≤ v1547 + 1 then F_X11_laysEarly_99_119 k2 (F_X11_laysEarly_99_29 k2 n) M1546 x1 x2 x3 else F_X11_laysEarly_99_109 k2 (F_X11_laysEarly_99_29 k2 n) M1546 x1 x2 x3 v1547) else none) else none) else none) else none))
def F_X11_laysEarly_99_26 (k2 : PM → Int32 → Int32 → Option PR) (M : PM) (x1 : Int32) (x2 : Int32) (t1 : Int32) (t2 : Int32) : Option PR := if ixOK t1 256 = true then F_X11_laysEarly_99_29 k2 FUEL (sA M 127 t1.toNatClampNeg t2) x1 x2 0 else none
def F_X11_laysEarly_99_2 : Nat → PM → Int32 → Int32 → Option PR
  | 0, _, _, _ => none
  | n + 1, M, x1, x2 => (if 1 <<< ((mI M 99 34) &&& 31) ≤ x2 then some (.inl none, M) else (if x2 = 0 then F_X11_laysEarly_99_26 (F_X11_laysEarly_99_2 n) M x1 x2 x2 x1 else F_X11_laysEarly_99_26 (F_X11_laysEarly_99_2 n) M x1 x2 x2 (-1)))
def F_X11_laysEarly_99 (M : PM) (a1 : Int32) : Option PR := F_X11_laysEarly_99_2 FUEL M a1 0
set_option maxRecDepth 100000 in
theorem S_X11_laysEarly_99_119 {l : Launch} (hl : l.stackTraces = false) {k2 : PM → Int32 → Int32 → Option PR} {k29 : PM → Int32 → Int32 → Int32 → Option PR} (hk2 : ∀ {M : PM} {x1 : Int32} {x2 : Int32} {r : PR}, k2 M x1 x2 = some r → PW l 4 Y_X11_laysEarly k_X11_laysEarly_2 [vR 99, vI x1, vI x2, jk, jk, jk] [] M r) (hk29 : ∀ {M : PM} {x1 : Int32} {x2 : Int32} {x3 : Int32} {r : PR}, k29 M x1 x2 x3 = some r → PW l 4 Y_X11_laysEarly k_X11_laysEarly_29 [vR 99, vI x1, vI x2, vI x3, jk, jk] [] M r) {M : PM} {x1 : Int32} {x2 : Int32} {x3 : Int32} {r : PR} (h : F_X11_laysEarly_99_119 k2 k29 M x1 x2 x3 = some r) : PW l 4 Y_X11_laysEarly k_X11_laysEarly_119 [vR 99, vI x1, vI x2, vI x3, jk, jk] [] M r := by
  unfold F_X11_laysEarly_99_119 at h
  have h := lt_h h
  refine p_iinc (Nat.le_of_ble_eq_true rfl) rfl (ci_1 _) rfl ?_
  refine p_goto 19 rfl rfl ?_
  exact p_fg (hk29 h) ⟨Or.inr rfl, Or.inr rfl, Or.inr rfl, Or.inr rfl, Or.inl rfl, Or.inl rfl, trivial⟩
set_option maxRecDepth 100000 in
theorem S_X11_laysEarly_99_109 {l : Launch} (hl : l.stackTraces = false) {k2 : PM → Int32 → Int32 → Option PR} {k29 : PM → Int32 → Int32 → Int32 → Option PR} (hk2 : ∀ {M : PM} {x1 : Int32} {x2 : Int32} {r : PR}, k2 M x1 x2 = some r → PW l 4 Y_X11_laysEarly k_X11_laysEarly_2 [vR 99, vI x1, vI x2, jk, jk, jk] [] M r) (hk29 : ∀ {M : PM} {x1 : Int32} {x2 : Int32} {x3 : Int32} {r : PR}, k29 M x1 x2 x3 = some r → PW l 4 Y_X11_laysEarly k_X11_laysEarly_29 [vR 99, vI x1, vI x2, vI x3, jk, jk] [] M r) {M : PM} {x1 : Int32} {x2 : Int32} {x3 : Int32} {x5 : Int32} {r : PR} (h : F_X11_laysEarly_99_109 k2 k29 M x1 x2 x3 x5 = some r) : PW l 4 Y_X11_laysEarly k_X11_laysEarly_109 [vR 99, vI x1, vI x2, vI x3, jk, vI x5] [] M r := by
  unfold F_X11_laysEarly_99_109 at h
  refine p_aload_n rfl ?_
  refine p_getR fk_X11_98 gt_99 rfl rfl ?_
  refine p_iload_n rfl ?_
  refine p_iload rfl ?_
  refine p_iconst cn_1 ?_
  refine p_iadd ?_
  refine p_iast gt_127 h (fun h => ?_)
  exact p_fg (S_X11_laysEarly_99_119 hl hk2 hk29 h) ⟨Or.inr rfl, Or.inr rfl, Or.inr rfl, Or.inr rfl, Or.inl rfl, Or.inl rfl, trivial⟩
set_option maxRecDepth 100000 in
theorem S_X11_laysEarly_99_29 {l : Launch} (hl : l.stackTraces = false) {k2 : PM → Int32 → Int32 → Option PR} (hk2 : ∀ {M : PM} {x1 : Int32} {x2 : Int32} {r : PR}, k2 M x1 x2 = some r → PW l 4 Y_X11_laysEarly k_X11_laysEarly_2 [vR 99, vI x1, vI x2, jk, jk, jk] [] M r) : ∀ (n : Nat) {M : PM} {x1 : Int32} {x2 : Int32} {x3 : Int32} {r : PR}, F_X11_laysEarly_99_29 k2 n M x1 x2 x3 = some r → PW l 4 Y_X11_laysEarly k_X11_laysEarly_29 [vR 99, vI x1, vI x2, vI x3, jk, jk] [] M r := by
  intro n
  induction n with
  | zero => intro M x1 x2 x3 r h; exact nomatch (show (none : Option PR) = some r from h)
  | succ n ih =>
    intro M x1 x2 x3 r h
    rw [F_X11_laysEarly_99_29] at h
    refine p_iload_n rfl ?_
    refine p_aload_n rfl ?_
    refine p_getI fk_X11_202 gt_99 rfl ?_
    refine p_icmp_ge h 75 rfl rfl (fun _ h => ?_) (fun _ h => ?_)
    · have h := lt_h h
      refine p_iinc (Nat.le_of_ble_eq_true rfl) rfl (ci_1 _) rfl ?_
      refine p_goto 2 rfl rfl ?_
      exact p_fg (hk2 h) ⟨Or.inr rfl, Or.inr rfl, Or.inr rfl, Or.inl rfl, Or.inl rfl, Or.inl rfl, trivial⟩
    · refine p_iload_n rfl ?_
      refine p_iconst cn_1 ?_
      refine p_iload_n rfl ?_
      refine p_ishl ?_
      refine p_iconst cn_m1 ?_
      refine p_ixor ?_
      refine p_iand ?_
      have h := lt_h h
      refine p_istore (Nat.le_of_ble_eq_true rfl) rfl ?_
      refine p_iload rfl ?_
      refine p_iload_n rfl ?_
      refine p_icmp_eq h 73 rfl rfl (fun _ h => ?_) (fun _ h => ?_)
      · exact p_fg (S_X11_laysEarly_99_119 hl hk2 (fun h => ih h) h) ⟨Or.inr rfl, Or.inr rfl, Or.inr rfl, Or.inr rfl, Or.inl rfl, Or.inl rfl, trivial⟩
      · refine p_aload_n rfl ?_
        refine p_getR fk_X11_98 gt_99 rfl rfl ?_
        refine p_iload rfl ?_
        refine p_iald gt_127 h (fun h => ?_)
        refine p_iconst cn_m1 ?_
        refine p_icmp_ne h 41 rfl rfl (fun _ h => ?_) (fun _ h => ?_)
        · refine p_goto 73 rfl rfl ?_
          exact p_fg (S_X11_laysEarly_99_119 hl hk2 (fun h => ih h) h) ⟨Or.inr rfl, Or.inr rfl, Or.inr rfl, Or.inr rfl, Or.inl rfl, Or.inl rfl, trivial⟩
        · refine p_aload_n rfl ?_
          refine p_iload_n rfl ?_
          refine p_aload_n rfl ?_
          refine p_getR fk_X11_98 gt_99 rfl rfl ?_
          refine p_iload rfl ?_
          refine p_iald gt_127 h (fun h => ?_)
          refine p_cI (av := [_, _, _]) ⟨mok_X11_doneOf, Or.inl ⟨318, 99, 11, 0, _, rfl, rfl, rfl, gt_99, rfl, ins_X11_doneOf, Or.inl lk_X11_318⟩⟩ (Nat.le_of_ble_eq_true rfl) (Nat.le_of_ble_eq_true rfl) rfl (fun _ h => pc_X11_doneOf_99 hl h) h (fun v1547 M1546 h => ?_)
          refine p_istore (Nat.le_of_ble_eq_true rfl) rfl ?_
          refine p_iload rfl ?_
          refine p_iconst cn_m1 ?_
          refine p_icmp_eq h 73 rfl rfl (fun _ h => ?_) (fun _ h => ?_)
          · exact p_fg (S_X11_laysEarly_99_119 hl hk2 (fun h => ih h) h) ⟨Or.inr rfl, Or.inr rfl, Or.inr rfl, Or.inr rfl, Or.inl rfl, Or.inl rfl, trivial⟩
          · refine p_aload_n rfl ?_
            refine p_getR fk_X11_98 gt_99 rfl rfl ?_
            refine p_iload_n rfl ?_
            refine p_iald gt_127 h (fun h => ?_)
            refine p_iconst cn_m1 ?_
            refine p_icmp_eq h 66 rfl rfl (fun _ h => ?_) (fun _ h => ?_)
            · exact p_fg (S_X11_laysEarly_99_109 hl hk2 (fun h => ih h) h) ⟨Or.inr rfl, Or.inr rfl, Or.inr rfl, Or.inr rfl, Or.inl rfl, Or.inr rfl, trivial⟩
            · refine p_iload rfl ?_
              refine p_iconst cn_1 ?_
              refine p_iadd ?_
              refine p_aload_n rfl ?_
              refine p_getR fk_X11_98 gt_99 rfl rfl ?_
              refine p_iload_n rfl ?_
              refine p_iald gt_127 h (fun h => ?_)
              refine p_icmp_ge h 73 rfl rfl (fun _ h => ?_) (fun _ h => ?_)
              · exact p_fg (S_X11_laysEarly_99_119 hl hk2 (fun h => ih h) h) ⟨Or.inr rfl, Or.inr rfl, Or.inr rfl, Or.inr rfl, Or.inl rfl, Or.inl rfl, trivial⟩
              · exact p_fg (S_X11_laysEarly_99_109 hl hk2 (fun h => ih h) h) ⟨Or.inr rfl, Or.inr rfl, Or.inr rfl, Or.inr rfl, Or.inl rfl, Or.inr rfl, trivial⟩
set_option maxRecDepth 100000 in
theorem S_X11_laysEarly_99_26 {l : Launch} (hl : l.stackTraces = false) {k2 : PM → Int32 → Int32 → Option PR} (hk2 : ∀ {M : PM} {x1 : Int32} {x2 : Int32} {r : PR}, k2 M x1 x2 = some r → PW l 4 Y_X11_laysEarly k_X11_laysEarly_2 [vR 99, vI x1, vI x2, jk, jk, jk] [] M r) {M : PM} {x1 : Int32} {x2 : Int32} {t1 : Int32} {t2 : Int32} {r : PR} (h : F_X11_laysEarly_99_26 k2 M x1 x2 t1 t2 = some r) : PW l 4 Y_X11_laysEarly k_X11_laysEarly_26 [vR 99, vI x1, vI x2, jk, jk, jk] [vI t2, vI t1, vR 127] M r := by
  unfold F_X11_laysEarly_99_26 at h
  refine p_iast gt_127 h (fun h => ?_)
  refine p_iconst cn_0 ?_
  refine p_istore_n (Nat.le_of_ble_eq_true rfl) rfl ?_
  exact p_fg (S_X11_laysEarly_99_29 hl hk2 FUEL h) ⟨Or.inr rfl, Or.inr rfl, Or.inr rfl, Or.inr rfl, Or.inl rfl, Or.inl rfl, trivial⟩
set_option maxRecDepth 100000 in
theorem S_X11_laysEarly_99_2 {l : Launch} (hl : l.stackTraces = false) : ∀ (n : Nat) {M : PM} {x1 : Int32} {x2 : Int32} {r : PR}, F_X11_laysEarly_99_2  n M x1 x2 = some r → PW l 4 Y_X11_laysEarly k_X11_laysEarly_2 [vR 99, vI x1, vI x2, jk, jk, jk] [] M r := by
  intro n
  induction n with
  | zero => intro M x1 x2 r h; exact nomatch (show (none : Option PR) = some r from h)
  | succ n ih =>
    intro M x1 x2 r h
    rw [F_X11_laysEarly_99_2] at h
    refine p_iload_n rfl ?_
    refine p_iconst cn_1 ?_
    refine p_aload_n rfl ?_
    refine p_getI fk_X11_202 gt_99 rfl ?_
    refine p_ishl ?_
    refine p_icmp_ge h 77 rfl rfl (fun _ h => ?_) (fun _ h => ?_)
    · exact p_ret rfl h
    · refine p_aload_n rfl ?_
      refine p_getR fk_X11_98 gt_99 rfl rfl ?_
      refine p_iload_n rfl ?_
      refine p_iload_n rfl ?_
      refine p_if_ne h 15 rfl rfl (fun _ h => ?_) (fun _ h => ?_)
      · refine p_iload_n rfl ?_
        refine p_goto 16 rfl rfl ?_
        exact p_fg (S_X11_laysEarly_99_26 hl (fun h => ih h) h) ⟨Or.inr rfl, Or.inr rfl, Or.inr rfl, Or.inl rfl, Or.inl rfl, Or.inl rfl, trivial⟩
      · refine p_iconst cn_m1 ?_
        exact p_fg (S_X11_laysEarly_99_26 hl (fun h => ih h) h) ⟨Or.inr rfl, Or.inr rfl, Or.inr rfl, Or.inl rfl, Or.inl rfl, Or.inl rfl, trivial⟩
set_option maxRecDepth 100000 in
theorem S_X11_laysEarly_99 {l : Launch} (hl : l.stackTraces = false) {M : PM} {a1 : Int32} {r : PR} (h : F_X11_laysEarly_99 M a1 = some r) : PW l 4 Y_X11_laysEarly k_X11_laysEarly [vR 99, vI a1, jk, jk, jk, jk] [] M r := by
  unfold F_X11_laysEarly_99 at h
  refine p_iconst cn_0 ?_
  refine p_istore_n (Nat.le_of_ble_eq_true rfl) rfl ?_
  exact p_fg (S_X11_laysEarly_99_2 hl FUEL h) ⟨Or.inr rfl, Or.inr rfl, Or.inr rfl, Or.inl rfl, Or.inl rfl, Or.inl rfl, trivial⟩
set_option maxRecDepth 100000 in
theorem pc_X11_laysEarly_99 {l : Launch} (hl : l.stackTraces = false) {M : PM} {a1 : Int32} {r : PR} (h : F_X11_laysEarly_99 M a1 = some r) : PC l 4 Y_X11_laysEarly [vR 99, vI a1] M r := pc_of hl (by decide +kernel) cok_X11_laysEarly (Nat.le_of_ble_eq_true rfl) rfl (S_X11_laysEarly_99 hl  h) rfl
def F_X11_latestOf_99_79 (k29 : PM → Int32 → Int32 → Int32 → Int32 → Int32 → Option PR) (M : PM) (x1 : Int32) (x3 : Int32) (x4 : Int32) (x5 : Int32) (x6 : Int32) : Option PR := lt (x6 + (-1)) fun y1548 => k29 M x1 x3 x4 x5 y1548
def F_X11_latestOf_99_29 : Nat → PM → Int32 → Int32 → Int32 → Int32 → Int32 → Option PR
  | 0, _, _, _, _, _, _ => none
  | n + 1, M, x1, x3, x4, x5, x6 => (if x6 < 0 then some (.inl (some (.int (-1))), M) else if ixOK x1 8 = true then if x1.toNatClampNeg < 8 ∧ ixOK 1 2 = true then cI (F_X11_isFree_99 M x6 (mG M 121 x1.toNatClampNeg (1 : Int32).toNatClampNeg)) fun v1550 M1549 => (if v1550 = 0 then lt (x4 + 1) fun y1552 => (if y1552 ≤ x5 + 10 then F_X11_latestOf_99_79 (F_X11_latestOf_99_29 n) M1549 x1 x3 y1552 x5 x6 else some (.inl (some (.int (-1))), M1549)) else lt (x3 + (-1)) fun y1551 => (if y1551 = 0 then some (.inl (some (.int x6)), M1549) else F_X11_latestOf_99_79 (F_X11_latestOf_99_29 n) M1549 x1 y1551 0 x5 x6)) else none else none)
def F_X11_latestOf_99 (M : PM) (a1 : Int32) (a2 : Int32) : Option PR := if ixOK a1 8 = true then if a1.toNatClampNeg < 8 ∧ ixOK 0 2 = true then lt (mG M 121 a1.toNatClampNeg (0 : Int32).toNatClampNeg) fun y1553 => if ixOK a1 8 = true then if a1.toNatClampNeg < 8 ∧ ixOK 1 2 = true then cI (F_X11_turnOf_99 M (mG M 121 a1.toNatClampNeg (1 : Int32).toNatClampNeg)) fun v1555 M1554 => F_X11_latestOf_99_29 FUEL M1554 a1 y1553 0 v1555 a2 else none else none else none else none
set_option maxRecDepth 100000 in
theorem S_X11_latestOf_99_79 {l : Launch} (hl : l.stackTraces = false) {k29 : PM → Int32 → Int32 → Int32 → Int32 → Int32 → Option PR} (hk29 : ∀ {M : PM} {x1 : Int32} {x3 : Int32} {x4 : Int32} {x5 : Int32} {x6 : Int32} {r : PR}, k29 M x1 x3 x4 x5 x6 = some r → PW l 3 Y_X11_latestOf k_X11_latestOf_29 [vR 99, vI x1, jk, vI x3, vI x4, vI x5, vI x6] [] M r) {M : PM} {x1 : Int32} {x3 : Int32} {x4 : Int32} {x5 : Int32} {x6 : Int32} {r : PR} (h : F_X11_latestOf_99_79 k29 M x1 x3 x4 x5 x6 = some r) : PW l 3 Y_X11_latestOf k_X11_latestOf_79 [vR 99, vI x1, jk, vI x3, vI x4, vI x5, vI x6] [] M r := by
  unfold F_X11_latestOf_99_79 at h
  have h := lt_h h
  refine p_iinc (Nat.le_of_ble_eq_true rfl) rfl (ci_m1 _) rfl ?_
  refine p_goto 20 rfl rfl ?_
  exact p_fg (hk29 h) ⟨Or.inr rfl, Or.inr rfl, Or.inl rfl, Or.inr rfl, Or.inr rfl, Or.inr rfl, Or.inr rfl, trivial⟩
set_option maxRecDepth 100000 in
theorem S_X11_latestOf_99_29 {l : Launch} (hl : l.stackTraces = false) : ∀ (n : Nat) {M : PM} {x1 : Int32} {x3 : Int32} {x4 : Int32} {x5 : Int32} {x6 : Int32} {r : PR}, F_X11_latestOf_99_29  n M x1 x3 x4 x5 x6 = some r → PW l 3 Y_X11_latestOf k_X11_latestOf_29 [vR 99, vI x1, jk, vI x3, vI x4, vI x5, vI x6] [] M r := by
  intro n
  induction n with
  | zero => intro M x1 x3 x4 x5 x6 r h; exact nomatch (show (none : Option PR) = some r from h)
  | succ n ih =>
    intro M x1 x3 x4 x5 x6 r h
    rw [F_X11_latestOf_99_29] at h
    refine p_iload rfl ?_
    refine p_if_lt h 49 rfl rfl (fun _ h => ?_) (fun _ h => ?_)
    · refine p_iconst cn_m1 ?_
      exact p_iret rfl h
    · refine p_aload_n rfl ?_
      refine p_iload rfl ?_
      refine p_aload_n rfl ?_
      refine p_getR fk_X11_80 gt_99 rfl rfl ?_
      refine p_iload_n rfl ?_
      refine p_aldG gt_121 h (fun h => ?_)
      refine p_iconst cn_1 ?_
      refine p_ialdG gt_121 h (fun h => ?_)
      refine p_cI (av := [_, _, _]) ⟨mok_X11_isFree, Or.inl ⟨312, 99, 11, 0, _, rfl, rfl, rfl, gt_99, rfl, ins_X11_isFree, Or.inl lk_X11_312⟩⟩ (Nat.le_of_ble_eq_true rfl) (Nat.le_of_ble_eq_true rfl) rfl (fun _ h => pc_X11_isFree_99 hl h) h (fun v1550 M1549 h => ?_)
      refine p_if_ne h 40 rfl rfl (fun _ h => ?_) (fun _ h => ?_)
      · have h := lt_h h
        refine p_iinc (Nat.le_of_ble_eq_true rfl) rfl (ci_1 _) rfl ?_
        refine p_iload rfl ?_
        refine p_iload rfl ?_
        refine p_bipush cb_10 ?_
        refine p_iadd ?_
        refine p_icmp_le h 47 rfl rfl (fun _ h => ?_) (fun _ h => ?_)
        · exact p_fg (S_X11_latestOf_99_79 hl (fun h => ih h) h) ⟨Or.inr rfl, Or.inr rfl, Or.inl rfl, Or.inr rfl, Or.inr rfl, Or.inr rfl, Or.inr rfl, trivial⟩
        · refine p_iconst cn_m1 ?_
          exact p_iret rfl h
      · have h := lt_h h
        refine p_iinc (Nat.le_of_ble_eq_true rfl) rfl (ci_m1 _) rfl ?_
        refine p_iconst cn_0 ?_
        refine p_istore (Nat.le_of_ble_eq_true rfl) rfl ?_
        refine p_iload_n rfl ?_
        refine p_if_ne h 47 rfl rfl (fun _ h => ?_) (fun _ h => ?_)
        · refine p_iload rfl ?_
          exact p_iret rfl h
        · exact p_fg (S_X11_latestOf_99_79 hl (fun h => ih h) h) ⟨Or.inr rfl, Or.inr rfl, Or.inl rfl, Or.inr rfl, Or.inr rfl, Or.inr rfl, Or.inr rfl, trivial⟩
set_option maxRecDepth 100000 in
theorem S_X11_latestOf_99 {l : Launch} (hl : l.stackTraces = false) {M : PM} {a1 : Int32} {a2 : Int32} {r : PR} (h : F_X11_latestOf_99 M a1 a2 = some r) : PW l 3 Y_X11_latestOf k_X11_latestOf [vR 99, vI a1, vI a2, jk, jk, jk, jk] [] M r := by
  unfold F_X11_latestOf_99 at h
  refine p_aload_n rfl ?_
  refine p_getR fk_X11_80 gt_99 rfl rfl ?_
  refine p_iload_n rfl ?_
  refine p_aldG gt_121 h (fun h => ?_)
  refine p_iconst cn_0 ?_
  refine p_ialdG gt_121 h (fun h => ?_)
  have h := lt_h h
  refine p_istore_n (Nat.le_of_ble_eq_true rfl) rfl ?_
  refine p_iconst cn_0 ?_
  refine p_istore (Nat.le_of_ble_eq_true rfl) rfl ?_
  refine p_aload_n rfl ?_
  refine p_aload_n rfl ?_
  refine p_getR fk_X11_80 gt_99 rfl rfl ?_
  refine p_iload_n rfl ?_
  refine p_aldG gt_121 h (fun h => ?_)
  refine p_iconst cn_1 ?_
  refine p_ialdG gt_121 h (fun h => ?_)
  refine p_cI (av := [_, _]) ⟨mok_X11_turnOf, Or.inl ⟨287, 99, 11, 0, _, rfl, rfl, rfl, gt_99, rfl, ins_X11_turnOf, Or.inl lk_X11_287⟩⟩ (Nat.le_of_ble_eq_true rfl) (Nat.le_of_ble_eq_true rfl) rfl (fun _ h => pc_X11_turnOf_99 hl h) h (fun v1555 M1554 h => ?_)
  refine p_istore (Nat.le_of_ble_eq_true rfl) rfl ?_
  refine p_iload_n rfl ?_
  refine p_istore (Nat.le_of_ble_eq_true rfl) rfl ?_
  exact p_fg (S_X11_latestOf_99_29 hl FUEL h) ⟨Or.inr rfl, Or.inr rfl, Or.inl rfl, Or.inr rfl, Or.inr rfl, Or.inr rfl, Or.inr rfl, trivial⟩
set_option maxRecDepth 100000 in
theorem pc_X11_latestOf_99 {l : Launch} (hl : l.stackTraces = false) {M : PM} {a1 : Int32} {a2 : Int32} {r : PR} (h : F_X11_latestOf_99 M a1 a2 = some r) : PC l 3 Y_X11_latestOf [vR 99, vI a1, vI a2] M r := pc_of hl (by decide +kernel) cok_X11_latestOf (Nat.le_of_ble_eq_true rfl) rfl (S_X11_latestOf_99 hl  h) rfl
def F_X11_laysLate_99_110 (k2 : PM → Int32 → Int32 → Option PR) (k29 : PM → Int32 → Int32 → Int32 → Option PR) (M : PM) (x1 : Int32) (x2 : Int32) (x3 : Int32) : Option PR := lt (x3 + 1) fun y1556 => k29 M x1 x2 y1556
def F_X11_laysLate_99_109 (k2 : PM → Int32 → Int32 → Option PR) (k29 : PM → Int32 → Int32 → Int32 → Option PR) (M : PM) (x1 : Int32) (x2 : Int32) (x3 : Int32) (t1 : Int32) (t2 : Int32) : Option PR := if ixOK t1 256 = true then F_X11_laysLate_99_110 k2 k29 (sA M 128 t1.toNatClampNeg t2) x1 x2 x3 else none
def F_X11_laysLate_99_29 (k2 : PM → Int32 → Int32 → Option PR) : Nat → PM → Int32 → Int32 → Int32 → Option PR
  | 0, _, _, _, _ => none
  | n + 1, M, x1, x2, x3 => (if mI M 99 34 ≤ x3 then lt (x2 + 1) fun y1557 => k2 M x1 y1557 else lt (x2 &&& ((1 <<< (x3 &&& 31)) ^^^ (-1))) fun y1558 => (if y1558 = x2 then F_X11_laysLate_99_110 k2 (F_X11_laysLate_99_29 k2 n) M x1 x2 x3 else if ixOK y1558 256 = true then (if mA M 128 y1558.toNatClampNeg = (-1) then F_X11_laysLate_99_110 k2 (F_X11_laysLate_99_29 k2 n) M x1 x2 x3 else if ixOK y1558 256 = true then cI (F_X11_latestOf_99 M x3 ((mA M 128 y1558.toNatClampNeg) - 1)) fun v1560 M1559 => if ixOK x2 256 = true then (if v1560 ≤ mA M1559 128 x2.toNatClampNeg then if ixOK x2 256 = true then F_X11_laysLate_99_109 k2 (F_X11_laysLate_99_29 k2 n) M1559 x1 x2 x3 x2 (mA M1559 128 x2.toNatClampNeg) else none else F_X11_laysLate_99_109 k2 (F_X11_laysLate_99_29 k2 n) M1559 x1 x2 x3 x2 v1560) else none else none) else none))
def F_X11_laysLate_99_26 (k2 : PM → Int32 → Int32 → Option PR) (M : PM) (x1 : Int32) (x2 : Int32) (t1 : Int32) (t2 : Int32) : Option PR := if ixOK t1 256 = true then F_X11_laysLate_99_29 k2 FUEL (sA M 128 t1.toNatClampNeg t2) x1 x2 0 else none
def F_X11_laysLate_99_2 : Nat → PM → Int32 → Int32 → Option PR
  | 0, _, _, _ => none
  | n + 1, M, x1, x2 => (if 1 <<< ((mI M 99 34) &&& 31) ≤ x2 then some (.inl none, M) else (if x2 = 0 then F_X11_laysLate_99_26 (F_X11_laysLate_99_2 n) M x1 x2 x2 x1 else F_X11_laysLate_99_26 (F_X11_laysLate_99_2 n) M x1 x2 x2 (-1)))
def F_X11_laysLate_99 (M : PM) (a1 : Int32) : Option PR := F_X11_laysLate_99_2 FUEL M a1 0
set_option maxRecDepth 100000 in
theorem S_X11_laysLate_99_110 {l : Launch} (hl : l.stackTraces = false) {k2 : PM → Int32 → Int32 → Option PR} {k29 : PM → Int32 → Int32 → Int32 → Option PR} (hk2 : ∀ {M : PM} {x1 : Int32} {x2 : Int32} {r : PR}, k2 M x1 x2 = some r → PW l 4 Y_X11_laysLate k_X11_laysLate_2 [vR 99, vI x1, vI x2, jk, jk, jk] [] M r) (hk29 : ∀ {M : PM} {x1 : Int32} {x2 : Int32} {x3 : Int32} {r : PR}, k29 M x1 x2 x3 = some r → PW l 4 Y_X11_laysLate k_X11_laysLate_29 [vR 99, vI x1, vI x2, vI x3, jk, jk] [] M r) {M : PM} {x1 : Int32} {x2 : Int32} {x3 : Int32} {r : PR} (h : F_X11_laysLate_99_110 k2 k29 M x1 x2 x3 = some r) : PW l 4 Y_X11_laysLate k_X11_laysLate_110 [vR 99, vI x1, vI x2, vI x3, jk, jk] [] M r := by
  unfold F_X11_laysLate_99_110 at h
  have h := lt_h h
  refine p_iinc (Nat.le_of_ble_eq_true rfl) rfl (ci_1 _) rfl ?_
  refine p_goto 19 rfl rfl ?_
  exact p_fg (hk29 h) ⟨Or.inr rfl, Or.inr rfl, Or.inr rfl, Or.inr rfl, Or.inl rfl, Or.inl rfl, trivial⟩
set_option maxRecDepth 100000 in
theorem S_X11_laysLate_99_109 {l : Launch} (hl : l.stackTraces = false) {k2 : PM → Int32 → Int32 → Option PR} {k29 : PM → Int32 → Int32 → Int32 → Option PR} (hk2 : ∀ {M : PM} {x1 : Int32} {x2 : Int32} {r : PR}, k2 M x1 x2 = some r → PW l 4 Y_X11_laysLate k_X11_laysLate_2 [vR 99, vI x1, vI x2, jk, jk, jk] [] M r) (hk29 : ∀ {M : PM} {x1 : Int32} {x2 : Int32} {x3 : Int32} {r : PR}, k29 M x1 x2 x3 = some r → PW l 4 Y_X11_laysLate k_X11_laysLate_29 [vR 99, vI x1, vI x2, vI x3, jk, jk] [] M r) {M : PM} {x1 : Int32} {x2 : Int32} {x3 : Int32} {t1 : Int32} {t2 : Int32} {r : PR} (h : F_X11_laysLate_99_109 k2 k29 M x1 x2 x3 t1 t2 = some r) : PW l 4 Y_X11_laysLate k_X11_laysLate_109 [vR 99, vI x1, vI x2, vI x3, jk, jk] [vI t2, vI t1, vR 128] M r := by
  unfold F_X11_laysLate_99_109 at h
  refine p_iast gt_128 h (fun h => ?_)
  exact p_fg (S_X11_laysLate_99_110 hl hk2 hk29 h) ⟨Or.inr rfl, Or.inr rfl, Or.inr rfl, Or.inr rfl, Or.inl rfl, Or.inl rfl, trivial⟩
set_option maxRecDepth 100000 in
theorem S_X11_laysLate_99_29 {l : Launch} (hl : l.stackTraces = false) {k2 : PM → Int32 → Int32 → Option PR} (hk2 : ∀ {M : PM} {x1 : Int32} {x2 : Int32} {r : PR}, k2 M x1 x2 = some r → PW l 4 Y_X11_laysLate k_X11_laysLate_2 [vR 99, vI x1, vI x2, jk, jk, jk] [] M r) : ∀ (n : Nat) {M : PM} {x1 : Int32} {x2 : Int32} {x3 : Int32} {r : PR}, F_X11_laysLate_99_29 k2 n M x1 x2 x3 = some r → PW l 4 Y_X11_laysLate k_X11_laysLate_29 [vR 99, vI x1, vI x2, vI x3, jk, jk] [] M r := by
  intro n
  induction n with
  | zero => intro M x1 x2 x3 r h; exact nomatch (show (none : Option PR) = some r from h)
  | succ n ih =>
    intro M x1 x2 x3 r h
    rw [F_X11_laysLate_99_29] at h
    refine p_iload_n rfl ?_
    refine p_aload_n rfl ?_
    refine p_getI fk_X11_202 gt_99 rfl ?_
    refine p_icmp_ge h 69 rfl rfl (fun _ h => ?_) (fun _ h => ?_)
    · have h := lt_h h
      refine p_iinc (Nat.le_of_ble_eq_true rfl) rfl (ci_1 _) rfl ?_
      refine p_goto 2 rfl rfl ?_
      exact p_fg (hk2 h) ⟨Or.inr rfl, Or.inr rfl, Or.inr rfl, Or.inl rfl, Or.inl rfl, Or.inl rfl, trivial⟩
    · refine p_iload_n rfl ?_
      refine p_iconst cn_1 ?_
      refine p_iload_n rfl ?_
      refine p_ishl ?_
      refine p_iconst cn_m1 ?_
      refine p_ixor ?_
      refine p_iand ?_
      have h := lt_h h
      refine p_istore (Nat.le_of_ble_eq_true rfl) rfl ?_
      refine p_iload rfl ?_
      refine p_iload_n rfl ?_
      refine p_icmp_eq h 67 rfl rfl (fun _ h => ?_) (fun _ h => ?_)
      · exact p_fg (S_X11_laysLate_99_110 hl hk2 (fun h => ih h) h) ⟨Or.inr rfl, Or.inr rfl, Or.inr rfl, Or.inr rfl, Or.inl rfl, Or.inl rfl, trivial⟩
      · refine p_aload_n rfl ?_
        refine p_getR fk_X11_101 gt_99 rfl rfl ?_
        refine p_iload rfl ?_
        refine p_iald gt_128 h (fun h => ?_)
        refine p_iconst cn_m1 ?_
        refine p_icmp_ne h 41 rfl rfl (fun _ h => ?_) (fun _ h => ?_)
        · refine p_goto 67 rfl rfl ?_
          exact p_fg (S_X11_laysLate_99_110 hl hk2 (fun h => ih h) h) ⟨Or.inr rfl, Or.inr rfl, Or.inr rfl, Or.inr rfl, Or.inl rfl, Or.inl rfl, trivial⟩
        · refine p_aload_n rfl ?_
          refine p_iload_n rfl ?_
          refine p_aload_n rfl ?_
          refine p_getR fk_X11_101 gt_99 rfl rfl ?_
          refine p_iload rfl ?_
          refine p_iald gt_128 h (fun h => ?_)
          refine p_iconst cn_1 ?_
          refine p_isub ?_
          refine p_cI (av := [_, _, _]) ⟨mok_X11_latestOf, Or.inl ⟨321, 99, 11, 0, _, rfl, rfl, rfl, gt_99, rfl, ins_X11_latestOf, Or.inl lk_X11_321⟩⟩ (Nat.le_of_ble_eq_true rfl) (Nat.le_of_ble_eq_true rfl) rfl (fun _ h => pc_X11_latestOf_99 hl h) h (fun v1560 M1559 h => ?_)
          refine p_istore (Nat.le_of_ble_eq_true rfl) rfl ?_
          refine p_aload_n rfl ?_
          refine p_getR fk_X11_101 gt_99 rfl rfl ?_
          refine p_iload_n rfl ?_
          refine p_iload rfl ?_
          refine p_aload_n rfl ?_
          refine p_getR fk_X11_101 gt_99 rfl rfl ?_
          refine p_iload_n rfl ?_
          refine p_iald gt_128 h (fun h => ?_)
          refine p_icmp_le h 62 rfl rfl (fun _ h => ?_) (fun _ h => ?_)
          · refine p_aload_n rfl ?_
            refine p_getR fk_X11_101 gt_99 rfl rfl ?_
            refine p_iload_n rfl ?_
            refine p_iald gt_128 h (fun h => ?_)
            exact p_fg (S_X11_laysLate_99_109 hl hk2 (fun h => ih h) h) ⟨Or.inr rfl, Or.inr rfl, Or.inr rfl, Or.inr rfl, Or.inl rfl, Or.inl rfl, trivial⟩
          · refine p_iload rfl ?_
            refine p_goto 66 rfl rfl ?_
            exact p_fg (S_X11_laysLate_99_109 hl hk2 (fun h => ih h) h) ⟨Or.inr rfl, Or.inr rfl, Or.inr rfl, Or.inr rfl, Or.inl rfl, Or.inl rfl, trivial⟩
set_option maxRecDepth 100000 in
theorem S_X11_laysLate_99_26 {l : Launch} (hl : l.stackTraces = false) {k2 : PM → Int32 → Int32 → Option PR} (hk2 : ∀ {M : PM} {x1 : Int32} {x2 : Int32} {r : PR}, k2 M x1 x2 = some r → PW l 4 Y_X11_laysLate k_X11_laysLate_2 [vR 99, vI x1, vI x2, jk, jk, jk] [] M r) {M : PM} {x1 : Int32} {x2 : Int32} {t1 : Int32} {t2 : Int32} {r : PR} (h : F_X11_laysLate_99_26 k2 M x1 x2 t1 t2 = some r) : PW l 4 Y_X11_laysLate k_X11_laysLate_26 [vR 99, vI x1, vI x2, jk, jk, jk] [vI t2, vI t1, vR 128] M r := by
  unfold F_X11_laysLate_99_26 at h
  refine p_iast gt_128 h (fun h => ?_)
  refine p_iconst cn_0 ?_
  refine p_istore_n (Nat.le_of_ble_eq_true rfl) rfl ?_
  exact p_fg (S_X11_laysLate_99_29 hl hk2 FUEL h) ⟨Or.inr rfl, Or.inr rfl, Or.inr rfl, Or.inr rfl, Or.inl rfl, Or.inl rfl, trivial⟩
set_option maxRecDepth 100000 in
theorem S_X11_laysLate_99_2 {l : Launch} (hl : l.stackTraces = false) : ∀ (n : Nat) {M : PM} {x1 : Int32} {x2 : Int32} {r : PR}, F_X11_laysLate_99_2  n M x1 x2 = some r → PW l 4 Y_X11_laysLate k_X11_laysLate_2 [vR 99, vI x1, vI x2, jk, jk, jk] [] M r := by
  intro n
  induction n with
  | zero => intro M x1 x2 r h; exact nomatch (show (none : Option PR) = some r from h)
  | succ n ih =>
    intro M x1 x2 r h
    rw [F_X11_laysLate_99_2] at h
    refine p_iload_n rfl ?_
    refine p_iconst cn_1 ?_
    refine p_aload_n rfl ?_
    refine p_getI fk_X11_202 gt_99 rfl ?_
    refine p_ishl ?_
    refine p_icmp_ge h 71 rfl rfl (fun _ h => ?_) (fun _ h => ?_)
    · exact p_ret rfl h
    · refine p_aload_n rfl ?_
      refine p_getR fk_X11_101 gt_99 rfl rfl ?_
      refine p_iload_n rfl ?_
      refine p_iload_n rfl ?_
      refine p_if_ne h 15 rfl rfl (fun _ h => ?_) (fun _ h => ?_)
      · refine p_iload_n rfl ?_
        refine p_goto 16 rfl rfl ?_
        exact p_fg (S_X11_laysLate_99_26 hl (fun h => ih h) h) ⟨Or.inr rfl, Or.inr rfl, Or.inr rfl, Or.inl rfl, Or.inl rfl, Or.inl rfl, trivial⟩
      · refine p_iconst cn_m1 ?_
        exact p_fg (S_X11_laysLate_99_26 hl (fun h => ih h) h) ⟨Or.inr rfl, Or.inr rfl, Or.inr rfl, Or.inl rfl, Or.inl rfl, Or.inl rfl, trivial⟩
set_option maxRecDepth 100000 in
theorem S_X11_laysLate_99 {l : Launch} (hl : l.stackTraces = false) {M : PM} {a1 : Int32} {r : PR} (h : F_X11_laysLate_99 M a1 = some r) : PW l 4 Y_X11_laysLate k_X11_laysLate [vR 99, vI a1, jk, jk, jk, jk] [] M r := by
  unfold F_X11_laysLate_99 at h
  refine p_iconst cn_0 ?_
  refine p_istore_n (Nat.le_of_ble_eq_true rfl) rfl ?_
  exact p_fg (S_X11_laysLate_99_2 hl FUEL h) ⟨Or.inr rfl, Or.inr rfl, Or.inr rfl, Or.inl rfl, Or.inl rfl, Or.inl rfl, trivial⟩
set_option maxRecDepth 100000 in
theorem pc_X11_laysLate_99 {l : Launch} (hl : l.stackTraces = false) {M : PM} {a1 : Int32} {r : PR} (h : F_X11_laysLate_99 M a1 = some r) : PC l 4 Y_X11_laysLate [vR 99, vI a1] M r := pc_of hl (by decide +kernel) cok_X11_laysLate (Nat.le_of_ble_eq_true rfl) rfl (S_X11_laysLate_99 hl  h) rfl
def F_X11_orderOf_99_98 (k17 : PM → Int32 → Int32 → Int32 → Int32 → Option PR) (M : PM) (x2 : Int32) (x4 : Int32) (x5 : Int32) (x6 : Int32) (x7 : Int32) : Option PR := lt (x2 &&& ((1 <<< (x6 &&& 31)) ^^^ (-1))) fun y1561 => lt (x7 + 1) fun y1562 => lt ((10 * x4) + x6) fun y1563 => lt (x5 + 1) fun y1564 => k17 M y1561 y1562 y1563 y1564
def F_X11_orderOf_99_92 (k17 : PM → Int32 → Int32 → Int32 → Int32 → Option PR) (k32 : PM → Int32 → Int32 → Int32 → Int32 → Int32 → Int32 → Option PR) (M : PM) (x2 : Int32) (x3 : Int32) (x4 : Int32) (x5 : Int32) (x6 : Int32) (x7 : Int32) : Option PR := lt (x6 + 1) fun y1565 => k32 M x2 x3 x4 x5 y1565 x7
def F_X11_orderOf_99_61 (k17 : PM → Int32 → Int32 → Int32 → Int32 → Option PR) (k32 : PM → Int32 → Int32 → Int32 → Int32 → Int32 → Int32 → Option PR) (M : PM) (x2 : Int32) (x3 : Int32) (x4 : Int32) (x5 : Int32) (x6 : Int32) (t0 : Int32) : Option PR := (if t0 = (-1) then F_X11_orderOf_99_92 k17 k32 M x2 x3 x4 x5 x6 t0 else if ixOK (x2 &&& ((1 <<< (x6 &&& 31)) ^^^ (-1))) 256 = true then (if mA M 128 (x2 &&& ((1 <<< (x6 &&& 31)) ^^^ (-1))).toNatClampNeg < t0 + 1 then F_X11_orderOf_99_92 k17 k32 M x2 x3 x4 x5 x6 t0 else F_X11_orderOf_99_98 k17 M x2 x4 x5 x6 t0) else none)
def F_X11_orderOf_99_32 (k17 : PM → Int32 → Int32 → Int32 → Int32 → Option PR) : Nat → PM → Int32 → Int32 → Int32 → Int32 → Int32 → Int32 → Option PR
  | 0, _, _, _, _, _, _, _ => none
  | n + 1, M, x2, x3, x4, x5, x6, x7 => (if mI M 99 34 ≤ x6 then F_X11_orderOf_99_98 k17 M x2 x4 x5 x6 x7 else (if (x2 >>> (x6 &&& 31)) &&& 1 = 0 then F_X11_orderOf_99_61 k17 (F_X11_orderOf_99_32 k17 n) M x2 x3 x4 x5 x6 (-1) else cI (F_X11_doneOf_99 M x6 x3) fun v1567 M1566 => F_X11_orderOf_99_61 k17 (F_X11_orderOf_99_32 k17 n) M1566 x2 x3 x4 x5 x6 v1567))
def F_X11_orderOf_99_17 : Nat → PM → Int32 → Int32 → Int32 → Int32 → Option PR
  | 0, _, _, _, _, _ => none
  | n + 1, M, x2, x3, x4, x5 => (if mI M 99 34 ≤ x5 then some (.inl (some (.int x4)), M) else F_X11_orderOf_99_32 (F_X11_orderOf_99_17 n) FUEL M x2 x3 x4 x5 0 (-1))
def F_X11_orderOf_99 (M : PM) (a1 : Int32) : Option PR := lt ((1 <<< ((mI M 99 34) &&& 31)) - 1) fun y1568 => F_X11_orderOf_99_17 FUEL M y1568 a1 0 0
set_option maxRecDepth 100000 in
theorem S_X11_orderOf_99_98 {l : Launch} (hl : l.stackTraces = false) {k17 : PM → Int32 → Int32 → Int32 → Int32 → Option PR} (hk17 : ∀ {M : PM} {x2 : Int32} {x3 : Int32} {x4 : Int32} {x5 : Int32} {r : PR}, k17 M x2 x3 x4 x5 = some r → PW l 4 Y_X11_orderOf k_X11_orderOf_17 [vR 99, jk, vI x2, vI x3, vI x4, vI x5, jk, jk] [] M r) {M : PM} {x2 : Int32} {x4 : Int32} {x5 : Int32} {x6 : Int32} {x7 : Int32} {r : PR} (h : F_X11_orderOf_99_98 k17 M x2 x4 x5 x6 x7 = some r) : PW l 4 Y_X11_orderOf k_X11_orderOf_98 [vR 99, jk, vI x2, jk, vI x4, vI x5, vI x6, vI x7] [] M r := by
  unfold F_X11_orderOf_99_98 at h
  refine p_iload_n rfl ?_
  refine p_iconst cn_1 ?_
  refine p_iload rfl ?_
  refine p_ishl ?_
  refine p_iconst cn_m1 ?_
  refine p_ixor ?_
  refine p_iand ?_
  have h := lt_h h
  refine p_istore_n (Nat.le_of_ble_eq_true rfl) rfl ?_
  refine p_iload rfl ?_
  refine p_iconst cn_1 ?_
  refine p_iadd ?_
  have h := lt_h h
  refine p_istore_n (Nat.le_of_ble_eq_true rfl) rfl ?_
  refine p_bipush cb_10 ?_
  refine p_iload rfl ?_
  refine p_imul ?_
  refine p_iload rfl ?_
  refine p_iadd ?_
  have h := lt_h h
  refine p_istore (Nat.le_of_ble_eq_true rfl) rfl ?_
  have h := lt_h h
  refine p_iinc (Nat.le_of_ble_eq_true rfl) rfl (ci_1 _) rfl ?_
  refine p_goto 13 rfl rfl ?_
  exact p_fg (hk17 h) ⟨Or.inr rfl, Or.inl rfl, Or.inr rfl, Or.inr rfl, Or.inr rfl, Or.inr rfl, Or.inl rfl, Or.inl rfl, trivial⟩
set_option maxRecDepth 100000 in
theorem S_X11_orderOf_99_92 {l : Launch} (hl : l.stackTraces = false) {k17 : PM → Int32 → Int32 → Int32 → Int32 → Option PR} {k32 : PM → Int32 → Int32 → Int32 → Int32 → Int32 → Int32 → Option PR} (hk17 : ∀ {M : PM} {x2 : Int32} {x3 : Int32} {x4 : Int32} {x5 : Int32} {r : PR}, k17 M x2 x3 x4 x5 = some r → PW l 4 Y_X11_orderOf k_X11_orderOf_17 [vR 99, jk, vI x2, vI x3, vI x4, vI x5, jk, jk] [] M r) (hk32 : ∀ {M : PM} {x2 : Int32} {x3 : Int32} {x4 : Int32} {x5 : Int32} {x6 : Int32} {x7 : Int32} {r : PR}, k32 M x2 x3 x4 x5 x6 x7 = some r → PW l 4 Y_X11_orderOf k_X11_orderOf_32 [vR 99, jk, vI x2, vI x3, vI x4, vI x5, vI x6, vI x7] [] M r) {M : PM} {x2 : Int32} {x3 : Int32} {x4 : Int32} {x5 : Int32} {x6 : Int32} {x7 : Int32} {r : PR} (h : F_X11_orderOf_99_92 k17 k32 M x2 x3 x4 x5 x6 x7 = some r) : PW l 4 Y_X11_orderOf k_X11_orderOf_92 [vR 99, jk, vI x2, vI x3, vI x4, vI x5, vI x6, vI x7] [] M r := by
  unfold F_X11_orderOf_99_92 at h
  have h := lt_h h
  refine p_iinc (Nat.le_of_ble_eq_true rfl) rfl (ci_1 _) rfl ?_
  refine p_goto 21 rfl rfl ?_
  exact p_fg (hk32 h) ⟨Or.inr rfl, Or.inl rfl, Or.inr rfl, Or.inr rfl, Or.inr rfl, Or.inr rfl, Or.inr rfl, Or.inr rfl, trivial⟩
set_option maxRecDepth 100000 in
theorem S_X11_orderOf_99_61 {l : Launch} (hl : l.stackTraces = false) {k17 : PM → Int32 → Int32 → Int32 → Int32 → Option PR} {k32 : PM → Int32 → Int32 → Int32 → Int32 → Int32 → Int32 → Option PR} (hk17 : ∀ {M : PM} {x2 : Int32} {x3 : Int32} {x4 : Int32} {x5 : Int32} {r : PR}, k17 M x2 x3 x4 x5 = some r → PW l 4 Y_X11_orderOf k_X11_orderOf_17 [vR 99, jk, vI x2, vI x3, vI x4, vI x5, jk, jk] [] M r) (hk32 : ∀ {M : PM} {x2 : Int32} {x3 : Int32} {x4 : Int32} {x5 : Int32} {x6 : Int32} {x7 : Int32} {r : PR}, k32 M x2 x3 x4 x5 x6 x7 = some r → PW l 4 Y_X11_orderOf k_X11_orderOf_32 [vR 99, jk, vI x2, vI x3, vI x4, vI x5, vI x6, vI x7] [] M r) {M : PM} {x2 : Int32} {x3 : Int32} {x4 : Int32} {x5 : Int32} {x6 : Int32} {t0 : Int32} {r : PR} (h : F_X11_orderOf_99_61 k17 k32 M x2 x3 x4 x5 x6 t0 = some r) : PW l 4 Y_X11_orderOf k_X11_orderOf_61 [vR 99, jk, vI x2, vI x3, vI x4, vI x5, vI x6, jk] [vI t0] M r := by
  unfold F_X11_orderOf_99_61 at h
  refine p_istore (Nat.le_of_ble_eq_true rfl) rfl ?_
  refine p_iload rfl ?_
  refine p_iconst cn_m1 ?_
  refine p_icmp_eq h 56 rfl rfl (fun _ h => ?_) (fun _ h => ?_)
  · exact p_fg (S_X11_orderOf_99_92 hl hk17 hk32 h) ⟨Or.inr rfl, Or.inl rfl, Or.inr rfl, Or.inr rfl, Or.inr rfl, Or.inr rfl, Or.inr rfl, Or.inr rfl, trivial⟩
  · refine p_iload rfl ?_
    refine p_iconst cn_1 ?_
    refine p_iadd ?_
    refine p_aload_n rfl ?_
    refine p_getR fk_X11_101 gt_99 rfl rfl ?_
    refine p_iload_n rfl ?_
    refine p_iconst cn_1 ?_
    refine p_iload rfl ?_
    refine p_ishl ?_
    refine p_iconst cn_m1 ?_
    refine p_ixor ?_
    refine p_iand ?_
    refine p_iald gt_128 h (fun h => ?_)
    refine p_icmp_gt h 56 rfl rfl (fun _ h => ?_) (fun _ h => ?_)
    · exact p_fg (S_X11_orderOf_99_92 hl hk17 hk32 h) ⟨Or.inr rfl, Or.inl rfl, Or.inr rfl, Or.inr rfl, Or.inr rfl, Or.inr rfl, Or.inr rfl, Or.inr rfl, trivial⟩
    · refine p_goto 58 rfl rfl ?_
      exact p_fg (S_X11_orderOf_99_98 hl hk17 h) ⟨Or.inr rfl, Or.inl rfl, Or.inr rfl, Or.inl rfl, Or.inr rfl, Or.inr rfl, Or.inr rfl, Or.inr rfl, trivial⟩
set_option maxRecDepth 100000 in
theorem S_X11_orderOf_99_32 {l : Launch} (hl : l.stackTraces = false) {k17 : PM → Int32 → Int32 → Int32 → Int32 → Option PR} (hk17 : ∀ {M : PM} {x2 : Int32} {x3 : Int32} {x4 : Int32} {x5 : Int32} {r : PR}, k17 M x2 x3 x4 x5 = some r → PW l 4 Y_X11_orderOf k_X11_orderOf_17 [vR 99, jk, vI x2, vI x3, vI x4, vI x5, jk, jk] [] M r) : ∀ (n : Nat) {M : PM} {x2 : Int32} {x3 : Int32} {x4 : Int32} {x5 : Int32} {x6 : Int32} {x7 : Int32} {r : PR}, F_X11_orderOf_99_32 k17 n M x2 x3 x4 x5 x6 x7 = some r → PW l 4 Y_X11_orderOf k_X11_orderOf_32 [vR 99, jk, vI x2, vI x3, vI x4, vI x5, vI x6, vI x7] [] M r := by
  intro n
  induction n with
  | zero => intro M x2 x3 x4 x5 x6 x7 r h; exact nomatch (show (none : Option PR) = some r from h)
  | succ n ih =>
    intro M x2 x3 x4 x5 x6 x7 r h
    rw [F_X11_orderOf_99_32] at h
    refine p_iload rfl ?_
    refine p_aload_n rfl ?_
    refine p_getI fk_X11_202 gt_99 rfl ?_
    refine p_icmp_ge h 58 rfl rfl (fun _ h => ?_) (fun _ h => ?_)
    · exact p_fg (S_X11_orderOf_99_98 hl hk17 h) ⟨Or.inr rfl, Or.inl rfl, Or.inr rfl, Or.inl rfl, Or.inr rfl, Or.inr rfl, Or.inr rfl, Or.inr rfl, trivial⟩
    · refine p_iload_n rfl ?_
      refine p_iload rfl ?_
      refine p_ishr ?_
      refine p_iconst cn_1 ?_
      refine p_iand ?_
      refine p_if_ne h 33 rfl rfl (fun _ h => ?_) (fun _ h => ?_)
      · refine p_iconst cn_m1 ?_
        refine p_goto 37 rfl rfl ?_
        exact p_fg (S_X11_orderOf_99_61 hl hk17 (fun h => ih h) h) ⟨Or.inr rfl, Or.inl rfl, Or.inr rfl, Or.inr rfl, Or.inr rfl, Or.inr rfl, Or.inr rfl, Or.inl rfl, trivial⟩
      · refine p_aload_n rfl ?_
        refine p_iload rfl ?_
        refine p_iload_n rfl ?_
        refine p_cI (av := [_, _, _]) ⟨mok_X11_doneOf, Or.inl ⟨318, 99, 11, 0, _, rfl, rfl, rfl, gt_99, rfl, ins_X11_doneOf, Or.inl lk_X11_318⟩⟩ (Nat.le_of_ble_eq_true rfl) (Nat.le_of_ble_eq_true rfl) rfl (fun _ h => pc_X11_doneOf_99 hl h) h (fun v1567 M1566 h => ?_)
        exact p_fg (S_X11_orderOf_99_61 hl hk17 (fun h => ih h) h) ⟨Or.inr rfl, Or.inl rfl, Or.inr rfl, Or.inr rfl, Or.inr rfl, Or.inr rfl, Or.inr rfl, Or.inl rfl, trivial⟩
set_option maxRecDepth 100000 in
theorem S_X11_orderOf_99_17 {l : Launch} (hl : l.stackTraces = false) : ∀ (n : Nat) {M : PM} {x2 : Int32} {x3 : Int32} {x4 : Int32} {x5 : Int32} {r : PR}, F_X11_orderOf_99_17  n M x2 x3 x4 x5 = some r → PW l 4 Y_X11_orderOf k_X11_orderOf_17 [vR 99, jk, vI x2, vI x3, vI x4, vI x5, jk, jk] [] M r := by
  intro n
  induction n with
  | zero => intro M x2 x3 x4 x5 r h; exact nomatch (show (none : Option PR) = some r from h)
  | succ n ih =>
    intro M x2 x3 x4 x5 r h
    rw [F_X11_orderOf_99_17] at h
    refine p_iload rfl ?_
    refine p_aload_n rfl ?_
    refine p_getI fk_X11_202 gt_99 rfl ?_
    refine p_icmp_ge h 78 rfl rfl (fun _ h => ?_) (fun _ h => ?_)
    · refine p_iload rfl ?_
      exact p_iret rfl h
    · refine p_iconst cn_0 ?_
      refine p_istore (Nat.le_of_ble_eq_true rfl) rfl ?_
      refine p_iconst cn_m1 ?_
      refine p_istore (Nat.le_of_ble_eq_true rfl) rfl ?_
      exact p_fg (S_X11_orderOf_99_32 hl (fun h => ih h) FUEL h) ⟨Or.inr rfl, Or.inl rfl, Or.inr rfl, Or.inr rfl, Or.inr rfl, Or.inr rfl, Or.inr rfl, Or.inr rfl, trivial⟩
set_option maxRecDepth 100000 in
theorem S_X11_orderOf_99 {l : Launch} (hl : l.stackTraces = false) {M : PM} {a1 : Int32} {r : PR} (h : F_X11_orderOf_99 M a1 = some r) : PW l 4 Y_X11_orderOf k_X11_orderOf [vR 99, vI a1, jk, jk, jk, jk, jk, jk] [] M r := by
  unfold F_X11_orderOf_99 at h
  refine p_iconst cn_1 ?_
  refine p_aload_n rfl ?_
  refine p_getI fk_X11_202 gt_99 rfl ?_
  refine p_ishl ?_
  refine p_iconst cn_1 ?_
  refine p_isub ?_
  have h := lt_h h
  refine p_istore_n (Nat.le_of_ble_eq_true rfl) rfl ?_
  refine p_iload_n rfl ?_
  refine p_istore_n (Nat.le_of_ble_eq_true rfl) rfl ?_
  refine p_iconst cn_0 ?_
  refine p_istore (Nat.le_of_ble_eq_true rfl) rfl ?_
  refine p_iconst cn_0 ?_
  refine p_istore (Nat.le_of_ble_eq_true rfl) rfl ?_
  exact p_fg (S_X11_orderOf_99_17 hl FUEL h) ⟨Or.inr rfl, Or.inl rfl, Or.inr rfl, Or.inr rfl, Or.inr rfl, Or.inr rfl, Or.inl rfl, Or.inl rfl, trivial⟩
set_option maxRecDepth 100000 in
theorem pc_X11_orderOf_99 {l : Launch} (hl : l.stackTraces = false) {M : PM} {a1 : Int32} {r : PR} (h : F_X11_orderOf_99 M a1 = some r) : PC l 4 Y_X11_orderOf [vR 99, vI a1] M r := pc_of hl (by decide +kernel) cok_X11_orderOf (Nat.le_of_ble_eq_true rfl) rfl (S_X11_orderOf_99 hl  h) rfl
def F_X11_soonest_99_98 (M : PM) (x3 : Int32) : Option PR := (if x3 = (-1) then some (.inl (some (.int (-1))), M) else some (.inl (some (.int (x3 - 1))), M))
def F_X11_soonest_99_41 (M : PM) (x1 : Int32) (x2 : Int32) (t1 : Int32) : Option PR := cI (F_X11_bad_99 M t1 2 2) fun v1570 M1569 => (if v1570 = 0 then (if mI M1569 99 34 = 0 then (if x2 = 0 then some (.inl (some (.int (x1 - 1))), M1569) else some (.inl (some (.int 0)), M1569)) else cV (F_X11_laysEarly_99 M1569 x1) fun M1571 => if ixOK ((1 <<< ((mI M1571 99 34) &&& 31)) - 1) 256 = true then lt (mA M1571 127 ((1 <<< ((mI M1571 99 34) &&& 31)) - 1).toNatClampNeg) fun y1572 => (if y1572 = (-1) then F_X11_soonest_99_98 M1571 y1572 else (if x2 = 0 then F_X11_soonest_99_98 M1571 y1572 else cV (F_X11_laysLate_99 M1571 y1572) fun M1573 => cI (F_X11_orderOf_99 M1573 x1) fun v1575 M1574 => some (.inl (some (.int v1575)), M1574))) else none) else some (.inl (some (.int 0)), M1569))
def F_X11_soonest_99_18 (M : PM) (x1 : Int32) (x2 : Int32) (t1 : Int32) : Option PR := cI (F_X11_bad_99 M t1 1 0) fun v1577 M1576 => (if v1577 = 0 then cI (F_X11_in M1576 x2 0 1) fun v1579 M1578 => (if v1579 = 0 then F_X11_soonest_99_41 M1578 x1 x2 1 else F_X11_soonest_99_41 M1578 x1 x2 0) else some (.inl (some (.int 0)), M1576))
def F_X11_soonest_99 (M : PM) (a1 : Int32) (a2 : Int32) : Option PR := cI (F_X11_isDay (sI M 99 0 0) a1) fun v1581 M1580 => (if v1581 = 0 then F_X11_soonest_99_18 M1580 a1 a2 1 else F_X11_soonest_99_18 M1580 a1 a2 0)
set_option maxRecDepth 100000 in
theorem S_X11_soonest_99_98 {l : Launch} (hl : l.stackTraces = false) {M : PM} {x3 : Int32} {r : PR} (h : F_X11_soonest_99_98  M x3 = some r) : PW l 5 Y_X11_soonest k_X11_soonest_98 [jk, jk, jk, vI x3] [] M r := by
  unfold F_X11_soonest_99_98 at h
  refine p_iload_n rfl ?_
  refine p_iconst cn_m1 ?_
  refine p_icmp_ne h 63 rfl rfl (fun _ h => ?_) (fun _ h => ?_)
  · refine p_iconst cn_m1 ?_
    refine p_goto 66 rfl rfl ?_
    exact p_iret rfl h
  · refine p_iload_n rfl ?_
    refine p_iconst cn_1 ?_
    refine p_isub ?_
    exact p_iret rfl h
set_option maxRecDepth 100000 in
theorem S_X11_soonest_99_41 {l : Launch} (hl : l.stackTraces = false) {M : PM} {x1 : Int32} {x2 : Int32} {t1 : Int32} {r : PR} (h : F_X11_soonest_99_41  M x1 x2 t1 = some r) : PW l 5 Y_X11_soonest k_X11_soonest_41 [vR 99, vI x1, vI x2, jk] [vI t1, vR 99] M r := by
  unfold F_X11_soonest_99_41 at h
  refine p_iconst cn_2 ?_
  refine p_iconst cn_2 ?_
  refine p_cI (av := [_, _, _, _]) ⟨mok_X11_bad, Or.inl ⟨180, 99, 11, 0, _, rfl, rfl, rfl, gt_99, rfl, ins_X11_bad, Or.inl lk_X11_180⟩⟩ (Nat.le_of_ble_eq_true rfl) (Nat.le_of_ble_eq_true rfl) rfl (fun _ h => pc_X11_bad_99 hl h) h (fun v1570 M1569 h => ?_)
  refine p_if_eq h 29 rfl rfl (fun _ h => ?_) (fun _ h => ?_)
  · refine p_aload_n rfl ?_
    refine p_getI fk_X11_202 gt_99 rfl ?_
    refine p_if_ne h 40 rfl rfl (fun _ h => ?_) (fun _ h => ?_)
    · refine p_iload_n rfl ?_
      refine p_if_ne h 38 rfl rfl (fun _ h => ?_) (fun _ h => ?_)
      · refine p_iload_n rfl ?_
        refine p_iconst cn_1 ?_
        refine p_isub ?_
        refine p_goto 39 rfl rfl ?_
        exact p_iret rfl h
      · refine p_iconst cn_0 ?_
        exact p_iret rfl h
    · refine p_aload_n rfl ?_
      refine p_iload_n rfl ?_
      refine p_cV (av := [_, _]) ⟨mok_X11_laysEarly, Or.inl ⟨324, 99, 11, 0, _, rfl, rfl, rfl, gt_99, rfl, ins_X11_laysEarly, Or.inl lk_X11_324⟩⟩ (Nat.le_of_ble_eq_true rfl) (Nat.le_of_ble_eq_true rfl) rfl (fun _ h => pc_X11_laysEarly_99 hl h) h (fun M1571 h => ?_)
      refine p_aload_n rfl ?_
      refine p_getR fk_X11_98 gt_99 rfl rfl ?_
      refine p_iconst cn_1 ?_
      refine p_aload_n rfl ?_
      refine p_getI fk_X11_202 gt_99 rfl ?_
      refine p_ishl ?_
      refine p_iconst cn_1 ?_
      refine p_isub ?_
      refine p_iald gt_127 h (fun h => ?_)
      have h := lt_h h
      refine p_istore_n (Nat.le_of_ble_eq_true rfl) rfl ?_
      refine p_iload_n rfl ?_
      refine p_iconst cn_m1 ?_
      refine p_icmp_eq h 58 rfl rfl (fun _ h => ?_) (fun _ h => ?_)
      · exact p_fg (S_X11_soonest_99_98 hl h) ⟨Or.inl rfl, Or.inl rfl, Or.inl rfl, Or.inr rfl, trivial⟩
      · refine p_iload_n rfl ?_
        refine p_if_ne h 67 rfl rfl (fun _ h => ?_) (fun _ h => ?_)
        · exact p_fg (S_X11_soonest_99_98 hl h) ⟨Or.inl rfl, Or.inl rfl, Or.inl rfl, Or.inr rfl, trivial⟩
        · refine p_aload_n rfl ?_
          refine p_iload_n rfl ?_
          refine p_cV (av := [_, _]) ⟨mok_X11_laysLate, Or.inl ⟨327, 99, 11, 0, _, rfl, rfl, rfl, gt_99, rfl, ins_X11_laysLate, Or.inl lk_X11_327⟩⟩ (Nat.le_of_ble_eq_true rfl) (Nat.le_of_ble_eq_true rfl) rfl (fun _ h => pc_X11_laysLate_99 hl h) h (fun M1573 h => ?_)
          refine p_aload_n rfl ?_
          refine p_iload_n rfl ?_
          refine p_cI (av := [_, _]) ⟨mok_X11_orderOf, Or.inl ⟨330, 99, 11, 0, _, rfl, rfl, rfl, gt_99, rfl, ins_X11_orderOf, Or.inl lk_X11_330⟩⟩ (Nat.le_of_ble_eq_true rfl) (Nat.le_of_ble_eq_true rfl) rfl (fun _ h => pc_X11_orderOf_99 hl h) h (fun v1575 M1574 h => ?_)
          exact p_iret rfl h
  · refine p_iconst cn_0 ?_
    exact p_iret rfl h
set_option maxRecDepth 100000 in
theorem S_X11_soonest_99_18 {l : Launch} (hl : l.stackTraces = false) {M : PM} {x1 : Int32} {x2 : Int32} {t1 : Int32} {r : PR} (h : F_X11_soonest_99_18  M x1 x2 t1 = some r) : PW l 5 Y_X11_soonest k_X11_soonest_18 [vR 99, vI x1, vI x2, jk] [vI t1, vR 99] M r := by
  unfold F_X11_soonest_99_18 at h
  refine p_iconst cn_1 ?_
  refine p_iconst cn_0 ?_
  refine p_cI (av := [_, _, _, _]) ⟨mok_X11_bad, Or.inl ⟨180, 99, 11, 0, _, rfl, rfl, rfl, gt_99, rfl, ins_X11_bad, Or.inl lk_X11_180⟩⟩ (Nat.le_of_ble_eq_true rfl) (Nat.le_of_ble_eq_true rfl) rfl (fun _ h => pc_X11_bad_99 hl h) h (fun v1577 M1576 h => ?_)
  refine p_if_ne h 27 rfl rfl (fun _ h => ?_) (fun _ h => ?_)
  · refine p_aload_n rfl ?_
    refine p_iload_n rfl ?_
    refine p_iconst cn_0 ?_
    refine p_iconst cn_1 ?_
    refine p_cI (av := [_, _, _]) ⟨mok_X11_in, Or.inr ⟨141, rfl, rfl, sta_X11_in, Or.inl lk_X11_141⟩⟩ (Nat.le_of_ble_eq_true rfl) (Nat.le_of_ble_eq_true rfl) rfl (fun _ h => pc_X11_in hl h) h (fun v1579 M1578 h => ?_)
    refine p_if_ne h 22 rfl rfl (fun _ h => ?_) (fun _ h => ?_)
    · refine p_iconst cn_1 ?_
      refine p_goto 23 rfl rfl ?_
      exact p_fg (S_X11_soonest_99_41 hl h) ⟨Or.inr rfl, Or.inr rfl, Or.inr rfl, Or.inl rfl, trivial⟩
    · refine p_iconst cn_0 ?_
      exact p_fg (S_X11_soonest_99_41 hl h) ⟨Or.inr rfl, Or.inr rfl, Or.inr rfl, Or.inl rfl, trivial⟩
  · refine p_iconst cn_0 ?_
    exact p_iret rfl h
set_option maxRecDepth 100000 in
theorem S_X11_soonest_99 {l : Launch} (hl : l.stackTraces = false) {M : PM} {a1 : Int32} {a2 : Int32} {r : PR} (h : F_X11_soonest_99 M a1 a2 = some r) : PW l 5 Y_X11_soonest k_X11_soonest [vR 99, vI a1, vI a2, jk] [] M r := by
  unfold F_X11_soonest_99 at h
  refine p_aload_n rfl ?_
  refine p_iconst cn_0 ?_
  refine p_putI fk_X11_107 gt_99 rfl ?_
  refine p_aload_n rfl ?_
  refine p_iload_n rfl ?_
  refine p_cI (av := [_]) ⟨mok_X11_isDay, Or.inr ⟨247, rfl, rfl, sta_X11_isDay, Or.inl lk_X11_247⟩⟩ (Nat.le_of_ble_eq_true rfl) (Nat.le_of_ble_eq_true rfl) rfl (fun _ h => pc_X11_isDay hl h) h (fun v1581 M1580 h => ?_)
  refine p_if_ne h 9 rfl rfl (fun _ h => ?_) (fun _ h => ?_)
  · refine p_iconst cn_1 ?_
    refine p_goto 10 rfl rfl ?_
    exact p_fg (S_X11_soonest_99_18 hl h) ⟨Or.inr rfl, Or.inr rfl, Or.inr rfl, Or.inl rfl, trivial⟩
  · refine p_iconst cn_0 ?_
    exact p_fg (S_X11_soonest_99_18 hl h) ⟨Or.inr rfl, Or.inr rfl, Or.inr rfl, Or.inl rfl, trivial⟩
set_option maxRecDepth 100000 in
theorem pc_X11_soonest_99 {l : Launch} (hl : l.stackTraces = false) {M : PM} {a1 : Int32} {a2 : Int32} {r : PR} (h : F_X11_soonest_99 M a1 a2 = some r) : PC l 5 Y_X11_soonest [vR 99, vI a1, vI a2] M r := pc_of hl (by decide +kernel) cok_X11_soonest (Nat.le_of_ble_eq_true rfl) rfl (S_X11_soonest_99 hl  h) rfl
def F_X11_rest_99 (M : PM)  : Option PR := lt (mI (sI M 99 0 0) 99 34) fun y1582 => some (.inl (some (.int y1582)), sI (sI M 99 0 0) 99 34 0)
set_option maxRecDepth 100000 in
theorem S_X11_rest_99 {l : Launch} (hl : l.stackTraces = false) {M : PM}  {r : PR} (h : F_X11_rest_99 M  = some r) : PW l 0 Y_X11_rest k_X11_rest [vR 99, jk] [] M r := by
  unfold F_X11_rest_99 at h
  refine p_aload_n rfl ?_
  refine p_iconst cn_0 ?_
  refine p_putI fk_X11_107 gt_99 rfl ?_
  refine p_aload_n rfl ?_
  refine p_getI fk_X11_202 gt_99 rfl ?_
  have h := lt_h h
  refine p_istore_n (Nat.le_of_ble_eq_true rfl) rfl ?_
  refine p_aload_n rfl ?_
  refine p_iconst cn_0 ?_
  refine p_putI fk_X11_202 gt_99 rfl ?_
  refine p_iload_n rfl ?_
  exact p_iret rfl h
set_option maxRecDepth 100000 in
theorem pc_X11_rest_99 {l : Launch} (hl : l.stackTraces = false) {M : PM}  {r : PR} (h : F_X11_rest_99 M  = some r) : PC l 0 Y_X11_rest [vR 99] M r := pc_of hl (by decide +kernel) cok_X11_rest (Nat.le_of_ble_eq_true rfl) rfl (S_X11_rest_99 hl  h) rfl
def F_X11_badTwo_99_41 (M : PM) (t1 : Int32) : Option PR := cI (F_X11_bad_99 M t1 2 2) fun v1584 M1583 => (if v1584 = 0 then (if (0 : Int32) &&& 1 = 0 then some (.inl (some (.int 0)), M1583) else none) else (if (1 : Int32) &&& 1 = 1 then some (.inl (some (.int 1)), M1583) else none))
def F_X11_badTwo_99_22 (M : PM) (x1 : Int32) (x2 : Int32) (t1 : Int32) : Option PR := cI (F_X11_bad_99 M t1 1 1) fun v1586 M1585 => (if v1586 = 0 then (if x1 = x2 then F_X11_badTwo_99_41 M1585 1 else F_X11_badTwo_99_41 M1585 0) else (if (1 : Int32) &&& 1 = 1 then some (.inl (some (.int 1)), M1585) else none))
def F_X11_badTwo_99_17 (M : PM) (x1 : Int32) (x2 : Int32) : Option PR := F_X11_badTwo_99_22 M x1 x2 1
def F_X11_badTwo_99 (M : PM) (a1 : Int32) (a2 : Int32) : Option PR := cI (F_X11_isLaw_99 M a1) fun v1588 M1587 => (if v1588 = 0 then F_X11_badTwo_99_17 M1587 a1 a2 else cI (F_X11_isLaw_99 M1587 a2) fun v1590 M1589 => (if v1590 = 0 then F_X11_badTwo_99_17 M1589 a1 a2 else F_X11_badTwo_99_22 M1589 a1 a2 0))
set_option maxRecDepth 100000 in
theorem S_X11_badTwo_99_41 {l : Launch} (hl : l.stackTraces = false) {M : PM} {t1 : Int32} {r : PR} (h : F_X11_badTwo_99_41  M t1 = some r) : PW l 2 Y_X11_badTwo k_X11_badTwo_41 [jk, jk, jk] [vI t1, vR 99] M r := by
  unfold F_X11_badTwo_99_41 at h
  refine p_iconst cn_2 ?_
  refine p_iconst cn_2 ?_
  refine p_cI (av := [_, _, _, _]) ⟨mok_X11_bad, Or.inl ⟨180, 99, 11, 0, _, rfl, rfl, rfl, gt_99, rfl, ins_X11_bad, Or.inl lk_X11_180⟩⟩ (Nat.le_of_ble_eq_true rfl) (Nat.le_of_ble_eq_true rfl) rfl (fun _ h => pc_X11_bad_99 hl h) h (fun v1584 M1583 h => ?_)
  refine p_if_eq h 29 rfl rfl (fun _ h => ?_) (fun _ h => ?_)
  · refine p_iconst cn_0 ?_
    exact p_zret rfl h
  · refine p_iconst cn_1 ?_
    refine p_goto 30 rfl rfl ?_
    exact p_zret rfl h
set_option maxRecDepth 100000 in
theorem S_X11_badTwo_99_22 {l : Launch} (hl : l.stackTraces = false) {M : PM} {x1 : Int32} {x2 : Int32} {t1 : Int32} {r : PR} (h : F_X11_badTwo_99_22  M x1 x2 t1 = some r) : PW l 2 Y_X11_badTwo k_X11_badTwo_22 [vR 99, vI x1, vI x2] [vI t1, vR 99] M r := by
  unfold F_X11_badTwo_99_22 at h
  refine p_iconst cn_1 ?_
  refine p_iconst cn_1 ?_
  refine p_cI (av := [_, _, _, _]) ⟨mok_X11_bad, Or.inl ⟨180, 99, 11, 0, _, rfl, rfl, rfl, gt_99, rfl, ins_X11_bad, Or.inl lk_X11_180⟩⟩ (Nat.le_of_ble_eq_true rfl) (Nat.le_of_ble_eq_true rfl) rfl (fun _ h => pc_X11_bad_99 hl h) h (fun v1586 M1585 h => ?_)
  refine p_if_ne h 27 rfl rfl (fun _ h => ?_) (fun _ h => ?_)
  · refine p_aload_n rfl ?_
    refine p_iload_n rfl ?_
    refine p_iload_n rfl ?_
    refine p_icmp_ne h 22 rfl rfl (fun _ h => ?_) (fun _ h => ?_)
    · refine p_iconst cn_1 ?_
      refine p_goto 23 rfl rfl ?_
      exact p_fg (S_X11_badTwo_99_41 hl h) ⟨Or.inl rfl, Or.inl rfl, Or.inl rfl, trivial⟩
    · refine p_iconst cn_0 ?_
      exact p_fg (S_X11_badTwo_99_41 hl h) ⟨Or.inl rfl, Or.inl rfl, Or.inl rfl, trivial⟩
  · refine p_iconst cn_1 ?_
    refine p_goto 30 rfl rfl ?_
    exact p_zret rfl h
set_option maxRecDepth 100000 in
theorem S_X11_badTwo_99_17 {l : Launch} (hl : l.stackTraces = false) {M : PM} {x1 : Int32} {x2 : Int32} {r : PR} (h : F_X11_badTwo_99_17  M x1 x2 = some r) : PW l 2 Y_X11_badTwo k_X11_badTwo_17 [vR 99, vI x1, vI x2] [vR 99] M r := by
  unfold F_X11_badTwo_99_17 at h
  refine p_iconst cn_1 ?_
  refine p_goto 12 rfl rfl ?_
  exact p_fg (S_X11_badTwo_99_22 hl h) ⟨Or.inr rfl, Or.inr rfl, Or.inr rfl, trivial⟩
set_option maxRecDepth 100000 in
theorem S_X11_badTwo_99 {l : Launch} (hl : l.stackTraces = false) {M : PM} {a1 : Int32} {a2 : Int32} {r : PR} (h : F_X11_badTwo_99 M a1 a2 = some r) : PW l 2 Y_X11_badTwo k_X11_badTwo [vR 99, vI a1, vI a2] [] M r := by
  unfold F_X11_badTwo_99 at h
  refine p_aload_n rfl ?_
  refine p_aload_n rfl ?_
  refine p_iload_n rfl ?_
  refine p_cI (av := [_, _]) ⟨mok_X11_isLaw, Or.inl ⟨236, 99, 11, 0, _, rfl, rfl, rfl, gt_99, rfl, ins_X11_isLaw, Or.inl lk_X11_236⟩⟩ (Nat.le_of_ble_eq_true rfl) (Nat.le_of_ble_eq_true rfl) rfl (fun _ h => pc_X11_isLaw_99 hl h) h (fun v1588 M1587 h => ?_)
  refine p_if_eq h 9 rfl rfl (fun _ h => ?_) (fun _ h => ?_)
  · exact p_fg (S_X11_badTwo_99_17 hl h) ⟨Or.inr rfl, Or.inr rfl, Or.inr rfl, trivial⟩
  · refine p_aload_n rfl ?_
    refine p_iload_n rfl ?_
    refine p_cI (av := [_, _]) ⟨mok_X11_isLaw, Or.inl ⟨236, 99, 11, 0, _, rfl, rfl, rfl, gt_99, rfl, ins_X11_isLaw, Or.inl lk_X11_236⟩⟩ (Nat.le_of_ble_eq_true rfl) (Nat.le_of_ble_eq_true rfl) rfl (fun _ h => pc_X11_isLaw_99 hl h) h (fun v1590 M1589 h => ?_)
    refine p_if_ne h 11 rfl rfl (fun _ h => ?_) (fun _ h => ?_)
    · exact p_fg (S_X11_badTwo_99_17 hl h) ⟨Or.inr rfl, Or.inr rfl, Or.inr rfl, trivial⟩
    · refine p_iconst cn_0 ?_
      exact p_fg (S_X11_badTwo_99_22 hl h) ⟨Or.inr rfl, Or.inr rfl, Or.inr rfl, trivial⟩
set_option maxRecDepth 100000 in
theorem pc_X11_badTwo_99 {l : Launch} (hl : l.stackTraces = false) {M : PM} {a1 : Int32} {a2 : Int32} {r : PR} (h : F_X11_badTwo_99 M a1 a2 = some r) : PC l 2 Y_X11_badTwo [vR 99, vI a1, vI a2] M r := pc_of hl (by decide +kernel) cok_X11_badTwo (Nat.le_of_ble_eq_true rfl) rfl (S_X11_badTwo_99 hl  h) rfl
def F_X11_isThiefs_99 (M : PM) (a1 : Int32) (a2 : Int32) (a3 : Int32) : Option PR := cI (F_X11_holdsAt_99 M a1 a3) fun v1592 M1591 => (if v1592 = 0 then (if (0 : Int32) &&& 1 = 0 then some (.inl (some (.int 0)), M1591) else none) else cI (F_X11_holdsAt_99 M1591 a2 a3) fun v1594 M1593 => (if v1594 = 0 then (if (1 : Int32) &&& 1 = 1 then some (.inl (some (.int 1)), M1593) else none) else (if (0 : Int32) &&& 1 = 0 then some (.inl (some (.int 0)), M1593) else none)))
set_option maxRecDepth 100000 in
theorem S_X11_isThiefs_99 {l : Launch} (hl : l.stackTraces = false) {M : PM} {a1 : Int32} {a2 : Int32} {a3 : Int32} {r : PR} (h : F_X11_isThiefs_99 M a1 a2 a3 = some r) : PW l 1 Y_X11_isThiefs k_X11_isThiefs [vR 99, vI a1, vI a2, vI a3] [] M r := by
  unfold F_X11_isThiefs_99 at h
  refine p_aload_n rfl ?_
  refine p_iload_n rfl ?_
  refine p_iload_n rfl ?_
  refine p_cI (av := [_, _, _]) ⟨mok_X11_holdsAt, Or.inl ⟨243, 99, 11, 0, _, rfl, rfl, rfl, gt_99, rfl, ins_X11_holdsAt, Or.inl lk_X11_243⟩⟩ (Nat.le_of_ble_eq_true rfl) (Nat.le_of_ble_eq_true rfl) rfl (fun _ h => pc_X11_holdsAt_99 hl h) h (fun v1592 M1591 h => ?_)
  refine p_if_eq h 12 rfl rfl (fun _ h => ?_) (fun _ h => ?_)
  · refine p_iconst cn_0 ?_
    exact p_zret rfl h
  · refine p_aload_n rfl ?_
    refine p_iload_n rfl ?_
    refine p_iload_n rfl ?_
    refine p_cI (av := [_, _, _]) ⟨mok_X11_holdsAt, Or.inl ⟨243, 99, 11, 0, _, rfl, rfl, rfl, gt_99, rfl, ins_X11_holdsAt, Or.inl lk_X11_243⟩⟩ (Nat.le_of_ble_eq_true rfl) (Nat.le_of_ble_eq_true rfl) rfl (fun _ h => pc_X11_holdsAt_99 hl h) h (fun v1594 M1593 h => ?_)
    refine p_if_ne h 12 rfl rfl (fun _ h => ?_) (fun _ h => ?_)
    · refine p_iconst cn_1 ?_
      refine p_goto 13 rfl rfl ?_
      exact p_zret rfl h
    · refine p_iconst cn_0 ?_
      exact p_zret rfl h
set_option maxRecDepth 100000 in
theorem pc_X11_isThiefs_99 {l : Launch} (hl : l.stackTraces = false) {M : PM} {a1 : Int32} {a2 : Int32} {a3 : Int32} {r : PR} (h : F_X11_isThiefs_99 M a1 a2 a3 = some r) : PC l 1 Y_X11_isThiefs [vR 99, vI a1, vI a2, vI a3] M r := pc_of hl (by decide +kernel) cok_X11_isThiefs (Nat.le_of_ble_eq_true rfl) rfl (S_X11_isThiefs_99 hl  h) rfl
def F_X11_thief_99_49 (k21 : PM → Int32 → Int32 → Int32 → Int32 → Option PR) (M : PM) (x1 : Int32) (x2 : Int32) (x4 : Int32) (t0 : Int32) (t1 : Int32) : Option PR := lt (t0 + t1) fun y1595 => lt (x4 + 1) fun y1596 => k21 M x1 x2 y1595 y1596
def F_X11_thief_99_21 : Nat → PM → Int32 → Int32 → Int32 → Int32 → Option PR
  | 0, _, _, _, _, _ => none
  | n + 1, M, x1, x2, x3, x4 => if ixOK 4 6 = true then (if mA M 103 (4 : Int32).toNatClampNeg ≤ x4 then some (.inl (some (.int x3)), M) else cI (F_X11_isThiefs_99 M x1 x2 x4) fun v1598 M1597 => (if v1598 = 0 then F_X11_thief_99_49 (F_X11_thief_99_21 n) M1597 x1 x2 x4 x3 0 else F_X11_thief_99_49 (F_X11_thief_99_21 n) M1597 x1 x2 x4 x3 1)) else none
def F_X11_thief_99 (M : PM) (a1 : Int32) (a2 : Int32) : Option PR := cI (F_X11_badTwo_99 (sI M 99 0 0) a1 a2) fun v1600 M1599 => (if v1600 = 0 then F_X11_thief_99_21 FUEL M1599 a1 a2 0 0 else some (.inl (some (.int 0)), M1599))
set_option maxRecDepth 100000 in
theorem S_X11_thief_99_49 {l : Launch} (hl : l.stackTraces = false) {k21 : PM → Int32 → Int32 → Int32 → Int32 → Option PR} (hk21 : ∀ {M : PM} {x1 : Int32} {x2 : Int32} {x3 : Int32} {x4 : Int32} {r : PR}, k21 M x1 x2 x3 x4 = some r → PW l 3 Y_X11_thief k_X11_thief_21 [vR 99, vI x1, vI x2, vI x3, vI x4] [] M r) {M : PM} {x1 : Int32} {x2 : Int32} {x4 : Int32} {t0 : Int32} {t1 : Int32} {r : PR} (h : F_X11_thief_99_49 k21 M x1 x2 x4 t0 t1 = some r) : PW l 3 Y_X11_thief k_X11_thief_49 [vR 99, vI x1, vI x2, jk, vI x4] [vI t1, vI t0] M r := by
  unfold F_X11_thief_99_49 at h
  refine p_iadd ?_
  have h := lt_h h
  refine p_istore_n (Nat.le_of_ble_eq_true rfl) rfl ?_
  have h := lt_h h
  refine p_iinc (Nat.le_of_ble_eq_true rfl) rfl (ci_1 _) rfl ?_
  refine p_goto 14 rfl rfl ?_
  exact p_fg (hk21 h) ⟨Or.inr rfl, Or.inr rfl, Or.inr rfl, Or.inr rfl, Or.inr rfl, trivial⟩
set_option maxRecDepth 100000 in
theorem S_X11_thief_99_21 {l : Launch} (hl : l.stackTraces = false) : ∀ (n : Nat) {M : PM} {x1 : Int32} {x2 : Int32} {x3 : Int32} {x4 : Int32} {r : PR}, F_X11_thief_99_21  n M x1 x2 x3 x4 = some r → PW l 3 Y_X11_thief k_X11_thief_21 [vR 99, vI x1, vI x2, vI x3, vI x4] [] M r := by
  intro n
  induction n with
  | zero => intro M x1 x2 x3 x4 r h; exact nomatch (show (none : Option PR) = some r from h)
  | succ n ih =>
    intro M x1 x2 x3 x4 r h
    rw [F_X11_thief_99_21] at h
    refine p_iload rfl ?_
    refine p_aload_n rfl ?_
    refine p_getR fk_X11_23 gt_99 rfl rfl ?_
    refine p_iconst cn_4 ?_
    refine p_iald gt_103 h (fun h => ?_)
    refine p_icmp_ge h 34 rfl rfl (fun _ h => ?_) (fun _ h => ?_)
    · refine p_iload_n rfl ?_
      exact p_iret rfl h
    · refine p_iload_n rfl ?_
      refine p_aload_n rfl ?_
      refine p_iload_n rfl ?_
      refine p_iload_n rfl ?_
      refine p_iload rfl ?_
      refine p_cI (av := [_, _, _, _]) ⟨mok_X11_isThiefs, Or.inl ⟨336, 99, 11, 0, _, rfl, rfl, rfl, gt_99, rfl, ins_X11_isThiefs, Or.inl lk_X11_336⟩⟩ (Nat.le_of_ble_eq_true rfl) (Nat.le_of_ble_eq_true rfl) rfl (fun _ h => pc_X11_isThiefs_99 hl h) h (fun v1598 M1597 h => ?_)
      refine p_if_eq h 29 rfl rfl (fun _ h => ?_) (fun _ h => ?_)
      · refine p_iconst cn_0 ?_
        exact p_fg (S_X11_thief_99_49 hl (fun h => ih h) h) ⟨Or.inr rfl, Or.inr rfl, Or.inr rfl, Or.inl rfl, Or.inr rfl, trivial⟩
      · refine p_iconst cn_1 ?_
        refine p_goto 30 rfl rfl ?_
        exact p_fg (S_X11_thief_99_49 hl (fun h => ih h) h) ⟨Or.inr rfl, Or.inr rfl, Or.inr rfl, Or.inl rfl, Or.inr rfl, trivial⟩
set_option maxRecDepth 100000 in
theorem S_X11_thief_99 {l : Launch} (hl : l.stackTraces = false) {M : PM} {a1 : Int32} {a2 : Int32} {r : PR} (h : F_X11_thief_99 M a1 a2 = some r) : PW l 3 Y_X11_thief k_X11_thief [vR 99, vI a1, vI a2, jk, jk] [] M r := by
  unfold F_X11_thief_99 at h
  refine p_aload_n rfl ?_
  refine p_iconst cn_0 ?_
  refine p_putI fk_X11_107 gt_99 rfl ?_
  refine p_aload_n rfl ?_
  refine p_iload_n rfl ?_
  refine p_iload_n rfl ?_
  refine p_cI (av := [_, _, _]) ⟨mok_X11_badTwo, Or.inl ⟨333, 99, 11, 0, _, rfl, rfl, rfl, gt_99, rfl, ins_X11_badTwo, Or.inl lk_X11_333⟩⟩ (Nat.le_of_ble_eq_true rfl) (Nat.le_of_ble_eq_true rfl) rfl (fun _ h => pc_X11_badTwo_99 hl h) h (fun v1600 M1599 h => ?_)
  refine p_if_eq h 10 rfl rfl (fun _ h => ?_) (fun _ h => ?_)
  · refine p_iconst cn_0 ?_
    refine p_istore_n (Nat.le_of_ble_eq_true rfl) rfl ?_
    refine p_iconst cn_0 ?_
    refine p_istore (Nat.le_of_ble_eq_true rfl) rfl ?_
    exact p_fg (S_X11_thief_99_21 hl FUEL h) ⟨Or.inr rfl, Or.inr rfl, Or.inr rfl, Or.inr rfl, Or.inr rfl, trivial⟩
  · refine p_iconst cn_0 ?_
    exact p_iret rfl h
set_option maxRecDepth 100000 in
theorem pc_X11_thief_99 {l : Launch} (hl : l.stackTraces = false) {M : PM} {a1 : Int32} {a2 : Int32} {r : PR} (h : F_X11_thief_99 M a1 a2 = some r) : PC l 3 Y_X11_thief [vR 99, vI a1, vI a2] M r := pc_of hl (by decide +kernel) cok_X11_thief (Nat.le_of_ble_eq_true rfl) rfl (S_X11_thief_99 hl  h) rfl
def F_X11_guard_99_97 : Nat → PM → Int32 → Int32 → Int32 → Option PR
  | 0, _, _, _, _ => none
  | n + 1, M, x4, x5, x6 => (if x6 ≤ 1 then some (.inl (some (.int (-1))), M) else if x6 = 0 then none else (if x5 - x5 / x6 * x6 = 0 then if x6 = 0 then none else some (.inl (some (.int ((100 * x6) + (x4 - x4 / x6 * x6)))), M) else lt (x6 + (-1)) fun y1601 => F_X11_guard_99_97 n M x4 x5 y1601))
def F_X11_guard_99_79 (k32 : PM → Int32 → Int32 → Int32 → Int32 → Int32 → Int32 → Option PR) (M : PM) (x1 : Int32) (x2 : Int32) (x3 : Int32) (x4 : Int32) (x5 : Int32) (x6 : Int32) : Option PR := lt (x6 + 1) fun y1602 => k32 M x1 x2 x3 x4 x5 y1602
def F_X11_guard_99_65 (k32 : PM → Int32 → Int32 → Int32 → Int32 → Int32 → Int32 → Option PR) (M : PM) (x1 : Int32) (x2 : Int32) (x3 : Int32) (x5 : Int32) (x6 : Int32) (t0 : Int32) : Option PR := cI (F_X11_common M x5 (x6 - t0)) fun v1604 M1603 => F_X11_guard_99_79 k32 M1603 x1 x2 x3 t0 v1604 x6
def F_X11_guard_99_32 : Nat → PM → Int32 → Int32 → Int32 → Int32 → Int32 → Int32 → Option PR
  | 0, _, _, _, _, _, _, _ => none
  | n + 1, M, x1, x2, x3, x4, x5, x6 => (if x3 ≤ x6 then (if x4 = (-1) then some (.inl (some (.int (-1))), M) else F_X11_guard_99_97 FUEL M x4 x5 24) else cI (F_X11_isThiefs_99 M x1 x2 x6) fun v1606 M1605 => (if v1606 = 0 then F_X11_guard_99_79 (F_X11_guard_99_32 n) M1605 x1 x2 x3 x4 x5 x6 else (if x4 = (-1) then F_X11_guard_99_65 (F_X11_guard_99_32 n) M1605 x1 x2 x3 x5 x6 x6 else F_X11_guard_99_65 (F_X11_guard_99_32 n) M1605 x1 x2 x3 x5 x6 x4)))
def F_X11_guard_99 (M : PM) (a1 : Int32) (a2 : Int32) : Option PR := cI (F_X11_badTwo_99 (sI M 99 0 0) a1 a2) fun v1608 M1607 => (if v1608 = 0 then if ixOK 4 6 = true then lt (mA M1607 103 (4 : Int32).toNatClampNeg) fun y1609 => F_X11_guard_99_32 FUEL M1607 a1 a2 y1609 (-1) y1609 0 else none else some (.inl (some (.int 0)), M1607))
set_option maxRecDepth 100000 in
theorem S_X11_guard_99_97 {l : Launch} (hl : l.stackTraces = false) : ∀ (n : Nat) {M : PM} {x4 : Int32} {x5 : Int32} {x6 : Int32} {r : PR}, F_X11_guard_99_97  n M x4 x5 x6 = some r → PW l 3 Y_X11_guard k_X11_guard_97 [jk, jk, jk, jk, vI x4, vI x5, vI x6] [] M r := by
  intro n
  induction n with
  | zero => intro M x4 x5 x6 r h; exact nomatch (show (none : Option PR) = some r from h)
  | succ n ih =>
    intro M x4 x5 x6 r h
    rw [F_X11_guard_99_97] at h
    refine p_iload rfl ?_
    refine p_iconst cn_1 ?_
    refine p_icmp_le h 70 rfl rfl (fun _ h => ?_) (fun _ h => ?_)
    · refine p_iconst cn_m1 ?_
      exact p_iret rfl h
    · refine p_iload rfl ?_
      refine p_iload rfl ?_
      refine p_irem h (fun h => ?_)
      refine p_if_ne h 68 rfl rfl (fun _ h => ?_) (fun _ h => ?_)
      · refine p_bipush cb_100 ?_
        refine p_iload rfl ?_
        refine p_imul ?_
        refine p_iload rfl ?_
        refine p_iload rfl ?_
        refine p_irem h (fun h => ?_)
        refine p_iadd ?_
        exact p_iret rfl h
      · have h := lt_h h
        refine p_iinc (Nat.le_of_ble_eq_true rfl) rfl (ci_m1 _) rfl ?_
        refine p_goto 53 rfl rfl ?_
        exact p_fg (ih h) ⟨Or.inl rfl, Or.inl rfl, Or.inl rfl, Or.inl rfl, Or.inr rfl, Or.inr rfl, Or.inr rfl, trivial⟩
set_option maxRecDepth 100000 in
theorem S_X11_guard_99_79 {l : Launch} (hl : l.stackTraces = false) {k32 : PM → Int32 → Int32 → Int32 → Int32 → Int32 → Int32 → Option PR} (hk32 : ∀ {M : PM} {x1 : Int32} {x2 : Int32} {x3 : Int32} {x4 : Int32} {x5 : Int32} {x6 : Int32} {r : PR}, k32 M x1 x2 x3 x4 x5 x6 = some r → PW l 3 Y_X11_guard k_X11_guard_32 [vR 99, vI x1, vI x2, vI x3, vI x4, vI x5, vI x6] [] M r) {M : PM} {x1 : Int32} {x2 : Int32} {x3 : Int32} {x4 : Int32} {x5 : Int32} {x6 : Int32} {r : PR} (h : F_X11_guard_99_79 k32 M x1 x2 x3 x4 x5 x6 = some r) : PW l 3 Y_X11_guard k_X11_guard_79 [vR 99, vI x1, vI x2, vI x3, vI x4, vI x5, vI x6] [] M r := by
  unfold F_X11_guard_99_79 at h
  have h := lt_h h
  refine p_iinc (Nat.le_of_ble_eq_true rfl) rfl (ci_1 _) rfl ?_
  refine p_goto 21 rfl rfl ?_
  exact p_fg (hk32 h) ⟨Or.inr rfl, Or.inr rfl, Or.inr rfl, Or.inr rfl, Or.inr rfl, Or.inr rfl, Or.inr rfl, trivial⟩
set_option maxRecDepth 100000 in
theorem S_X11_guard_99_65 {l : Launch} (hl : l.stackTraces = false) {k32 : PM → Int32 → Int32 → Int32 → Int32 → Int32 → Int32 → Option PR} (hk32 : ∀ {M : PM} {x1 : Int32} {x2 : Int32} {x3 : Int32} {x4 : Int32} {x5 : Int32} {x6 : Int32} {r : PR}, k32 M x1 x2 x3 x4 x5 x6 = some r → PW l 3 Y_X11_guard k_X11_guard_32 [vR 99, vI x1, vI x2, vI x3, vI x4, vI x5, vI x6] [] M r) {M : PM} {x1 : Int32} {x2 : Int32} {x3 : Int32} {x5 : Int32} {x6 : Int32} {t0 : Int32} {r : PR} (h : F_X11_guard_99_65 k32 M x1 x2 x3 x5 x6 t0 = some r) : PW l 3 Y_X11_guard k_X11_guard_65 [vR 99, vI x1, vI x2, vI x3, jk, vI x5, vI x6] [vI t0] M r := by
  unfold F_X11_guard_99_65 at h
  refine p_istore (Nat.le_of_ble_eq_true rfl) rfl ?_
  refine p_iload rfl ?_
  refine p_iload rfl ?_
  refine p_iload rfl ?_
  refine p_isub ?_
  refine p_cI (av := [_, _]) ⟨mok_X11_common, Or.inr ⟨164, rfl, rfl, sta_X11_common, Or.inl lk_X11_164⟩⟩ (Nat.le_of_ble_eq_true rfl) (Nat.le_of_ble_eq_true rfl) rfl (fun _ h => pc_X11_common hl h) h (fun v1604 M1603 h => ?_)
  refine p_istore (Nat.le_of_ble_eq_true rfl) rfl ?_
  exact p_fg (S_X11_guard_99_79 hl hk32 h) ⟨Or.inr rfl, Or.inr rfl, Or.inr rfl, Or.inr rfl, Or.inr rfl, Or.inr rfl, Or.inr rfl, trivial⟩
set_option maxRecDepth 100000 in
theorem S_X11_guard_99_32 {l : Launch} (hl : l.stackTraces = false) : ∀ (n : Nat) {M : PM} {x1 : Int32} {x2 : Int32} {x3 : Int32} {x4 : Int32} {x5 : Int32} {x6 : Int32} {r : PR}, F_X11_guard_99_32  n M x1 x2 x3 x4 x5 x6 = some r → PW l 3 Y_X11_guard k_X11_guard_32 [vR 99, vI x1, vI x2, vI x3, vI x4, vI x5, vI x6] [] M r := by
  intro n
  induction n with
  | zero => intro M x1 x2 x3 x4 x5 x6 r h; exact nomatch (show (none : Option PR) = some r from h)
  | succ n ih =>
    intro M x1 x2 x3 x4 x5 x6 r h
    rw [F_X11_guard_99_32] at h
    refine p_iload rfl ?_
    refine p_iload_n rfl ?_
    refine p_icmp_ge h 46 rfl rfl (fun _ h => ?_) (fun _ h => ?_)
    · refine p_iload rfl ?_
      refine p_iconst cn_m1 ?_
      refine p_icmp_ne h 51 rfl rfl (fun _ h => ?_) (fun _ h => ?_)
      · refine p_iconst cn_m1 ?_
        exact p_iret rfl h
      · refine p_bipush cb_24 ?_
        refine p_istore (Nat.le_of_ble_eq_true rfl) rfl ?_
        exact p_fg (S_X11_guard_99_97 hl FUEL h) ⟨Or.inl rfl, Or.inl rfl, Or.inl rfl, Or.inl rfl, Or.inr rfl, Or.inr rfl, Or.inr rfl, trivial⟩
    · refine p_aload_n rfl ?_
      refine p_iload_n rfl ?_
      refine p_iload_n rfl ?_
      refine p_iload rfl ?_
      refine p_cI (av := [_, _, _, _]) ⟨mok_X11_isThiefs, Or.inl ⟨336, 99, 11, 0, _, rfl, rfl, rfl, gt_99, rfl, ins_X11_isThiefs, Or.inl lk_X11_336⟩⟩ (Nat.le_of_ble_eq_true rfl) (Nat.le_of_ble_eq_true rfl) rfl (fun _ h => pc_X11_isThiefs_99 hl h) h (fun v1606 M1605 h => ?_)
      refine p_if_ne h 31 rfl rfl (fun _ h => ?_) (fun _ h => ?_)
      · refine p_goto 44 rfl rfl ?_
        exact p_fg (S_X11_guard_99_79 hl (fun h => ih h) h) ⟨Or.inr rfl, Or.inr rfl, Or.inr rfl, Or.inr rfl, Or.inr rfl, Or.inr rfl, Or.inr rfl, trivial⟩
      · refine p_iload rfl ?_
        refine p_iconst cn_m1 ?_
        refine p_icmp_ne h 36 rfl rfl (fun _ h => ?_) (fun _ h => ?_)
        · refine p_iload rfl ?_
          refine p_goto 37 rfl rfl ?_
          exact p_fg (S_X11_guard_99_65 hl (fun h => ih h) h) ⟨Or.inr rfl, Or.inr rfl, Or.inr rfl, Or.inr rfl, Or.inl rfl, Or.inr rfl, Or.inr rfl, trivial⟩
        · refine p_iload rfl ?_
          exact p_fg (S_X11_guard_99_65 hl (fun h => ih h) h) ⟨Or.inr rfl, Or.inr rfl, Or.inr rfl, Or.inr rfl, Or.inl rfl, Or.inr rfl, Or.inr rfl, trivial⟩
set_option maxRecDepth 100000 in
theorem S_X11_guard_99 {l : Launch} (hl : l.stackTraces = false) {M : PM} {a1 : Int32} {a2 : Int32} {r : PR} (h : F_X11_guard_99 M a1 a2 = some r) : PW l 3 Y_X11_guard k_X11_guard [vR 99, vI a1, vI a2, jk, jk, jk, jk] [] M r := by
  unfold F_X11_guard_99 at h
  refine p_aload_n rfl ?_
  refine p_iconst cn_0 ?_
  refine p_putI fk_X11_107 gt_99 rfl ?_
  refine p_aload_n rfl ?_
  refine p_iload_n rfl ?_
  refine p_iload_n rfl ?_
  refine p_cI (av := [_, _, _]) ⟨mok_X11_badTwo, Or.inl ⟨333, 99, 11, 0, _, rfl, rfl, rfl, gt_99, rfl, ins_X11_badTwo, Or.inl lk_X11_333⟩⟩ (Nat.le_of_ble_eq_true rfl) (Nat.le_of_ble_eq_true rfl) rfl (fun _ h => pc_X11_badTwo_99 hl h) h (fun v1608 M1607 h => ?_)
  refine p_if_eq h 10 rfl rfl (fun _ h => ?_) (fun _ h => ?_)
  · refine p_aload_n rfl ?_
    refine p_getR fk_X11_23 gt_99 rfl rfl ?_
    refine p_iconst cn_4 ?_
    refine p_iald gt_103 h (fun h => ?_)
    have h := lt_h h
    refine p_istore_n (Nat.le_of_ble_eq_true rfl) rfl ?_
    refine p_iconst cn_m1 ?_
    refine p_istore (Nat.le_of_ble_eq_true rfl) rfl ?_
    refine p_iload_n rfl ?_
    refine p_istore (Nat.le_of_ble_eq_true rfl) rfl ?_
    refine p_iconst cn_0 ?_
    refine p_istore (Nat.le_of_ble_eq_true rfl) rfl ?_
    exact p_fg (S_X11_guard_99_32 hl FUEL h) ⟨Or.inr rfl, Or.inr rfl, Or.inr rfl, Or.inr rfl, Or.inr rfl, Or.inr rfl, Or.inr rfl, trivial⟩
  · refine p_iconst cn_0 ?_
    exact p_iret rfl h
set_option maxRecDepth 100000 in
theorem pc_X11_guard_99 {l : Launch} (hl : l.stackTraces = false) {M : PM} {a1 : Int32} {a2 : Int32} {r : PR} (h : F_X11_guard_99 M a1 a2 = some r) : PC l 3 Y_X11_guard [vR 99, vI a1, vI a2] M r := pc_of hl (by decide +kernel) cok_X11_guard (Nat.le_of_ble_eq_true rfl) rfl (S_X11_guard_99 hl  h) rfl
def F_X11_isTrade_99_36 (k3 : PM → Int32 → Int32 → Int32 → Int32 → Option PR) (M : PM) (x1 : Int32) (x2 : Int32) (x3 : Int32) (x4 : Int32) : Option PR := lt (x4 + 1) fun y1610 => k3 M x1 x2 x3 y1610
def F_X11_isTrade_99_3 : Nat → PM → Int32 → Int32 → Int32 → Int32 → Option PR
  | 0, _, _, _, _, _ => none
  | n + 1, M, x1, x2, x3, x4 => if ixOK 1 6 = true then (if mA M 103 (1 : Int32).toNatClampNeg ≤ x4 then cI (F_X11_bitsAt_99 M x1) fun v1612 M1611 => (if v1612 &&& x2 = 0 then (if (1 : Int32) &&& 1 = 1 then some (.inl (some (.int 1)), M1611) else none) else (if (0 : Int32) &&& 1 = 0 then some (.inl (some (.int 0)), M1611) else none)) else (if (x3 >>> (x4 &&& 31)) &&& 1 = 1 then cI (F_X11_otherHoldsAt_99 M x4 x1) fun v1614 M1613 => (if v1614 = 0 then F_X11_isTrade_99_36 (F_X11_isTrade_99_3 n) M1613 x1 x2 x3 x4 else (if (0 : Int32) &&& 1 = 0 then some (.inl (some (.int 0)), M1613) else none)) else F_X11_isTrade_99_36 (F_X11_isTrade_99_3 n) M x1 x2 x3 x4)) else none
def F_X11_isTrade_99 (M : PM) (a1 : Int32) (a2 : Int32) (a3 : Int32) : Option PR := F_X11_isTrade_99_3 FUEL M a1 a2 a3 0
set_option maxRecDepth 100000 in
theorem S_X11_isTrade_99_36 {l : Launch} (hl : l.stackTraces = false) {k3 : PM → Int32 → Int32 → Int32 → Int32 → Option PR} (hk3 : ∀ {M : PM} {x1 : Int32} {x2 : Int32} {x3 : Int32} {x4 : Int32} {r : PR}, k3 M x1 x2 x3 x4 = some r → PW l 2 Y_X11_isTrade k_X11_isTrade_3 [vR 99, vI x1, vI x2, vI x3, vI x4] [] M r) {M : PM} {x1 : Int32} {x2 : Int32} {x3 : Int32} {x4 : Int32} {r : PR} (h : F_X11_isTrade_99_36 k3 M x1 x2 x3 x4 = some r) : PW l 2 Y_X11_isTrade k_X11_isTrade_36 [vR 99, vI x1, vI x2, vI x3, vI x4] [] M r := by
  unfold F_X11_isTrade_99_36 at h
  have h := lt_h h
  refine p_iinc (Nat.le_of_ble_eq_true rfl) rfl (ci_1 _) rfl ?_
  refine p_goto 2 rfl rfl ?_
  exact p_fg (hk3 h) ⟨Or.inr rfl, Or.inr rfl, Or.inr rfl, Or.inr rfl, Or.inr rfl, trivial⟩
set_option maxRecDepth 100000 in
theorem S_X11_isTrade_99_3 {l : Launch} (hl : l.stackTraces = false) : ∀ (n : Nat) {M : PM} {x1 : Int32} {x2 : Int32} {x3 : Int32} {x4 : Int32} {r : PR}, F_X11_isTrade_99_3  n M x1 x2 x3 x4 = some r → PW l 2 Y_X11_isTrade k_X11_isTrade_3 [vR 99, vI x1, vI x2, vI x3, vI x4] [] M r := by
  intro n
  induction n with
  | zero => intro M x1 x2 x3 x4 r h; exact nomatch (show (none : Option PR) = some r from h)
  | succ n ih =>
    intro M x1 x2 x3 x4 r h
    rw [F_X11_isTrade_99_3] at h
    refine p_iload rfl ?_
    refine p_aload_n rfl ?_
    refine p_getR fk_X11_23 gt_99 rfl rfl ?_
    refine p_iconst cn_1 ?_
    refine p_iald gt_103 h (fun h => ?_)
    refine p_icmp_ge h 24 rfl rfl (fun _ h => ?_) (fun _ h => ?_)
    · refine p_aload_n rfl ?_
      refine p_iload_n rfl ?_
      refine p_cI (av := [_, _]) ⟨mok_X11_bitsAt, Or.inl ⟨253, 99, 11, 0, _, rfl, rfl, rfl, gt_99, rfl, ins_X11_bitsAt, Or.inl lk_X11_253⟩⟩ (Nat.le_of_ble_eq_true rfl) (Nat.le_of_ble_eq_true rfl) rfl (fun _ h => pc_X11_bitsAt_99 hl h) h (fun v1612 M1611 h => ?_)
      refine p_iload_n rfl ?_
      refine p_iand ?_
      refine p_if_ne h 32 rfl rfl (fun _ h => ?_) (fun _ h => ?_)
      · refine p_iconst cn_1 ?_
        refine p_goto 33 rfl rfl ?_
        exact p_zret rfl h
      · refine p_iconst cn_0 ?_
        exact p_zret rfl h
    · refine p_iload_n rfl ?_
      refine p_iload rfl ?_
      refine p_ishr ?_
      refine p_iconst cn_1 ?_
      refine p_iand ?_
      refine p_iconst cn_1 ?_
      refine p_icmp_ne h 22 rfl rfl (fun _ h => ?_) (fun _ h => ?_)
      · refine p_aload_n rfl ?_
        refine p_iload rfl ?_
        refine p_iload_n rfl ?_
        refine p_cI (av := [_, _, _]) ⟨mok_X11_otherHoldsAt, Or.inl ⟨265, 99, 11, 0, _, rfl, rfl, rfl, gt_99, rfl, ins_X11_otherHoldsAt, Or.inl lk_X11_265⟩⟩ (Nat.le_of_ble_eq_true rfl) (Nat.le_of_ble_eq_true rfl) rfl (fun _ h => pc_X11_otherHoldsAt_99 hl h) h (fun v1614 M1613 h => ?_)
        refine p_if_eq h 22 rfl rfl (fun _ h => ?_) (fun _ h => ?_)
        · exact p_fg (S_X11_isTrade_99_36 hl (fun h => ih h) h) ⟨Or.inr rfl, Or.inr rfl, Or.inr rfl, Or.inr rfl, Or.inr rfl, trivial⟩
        · refine p_iconst cn_0 ?_
          exact p_zret rfl h
      · exact p_fg (S_X11_isTrade_99_36 hl (fun h => ih h) h) ⟨Or.inr rfl, Or.inr rfl, Or.inr rfl, Or.inr rfl, Or.inr rfl, trivial⟩
set_option maxRecDepth 100000 in
theorem S_X11_isTrade_99 {l : Launch} (hl : l.stackTraces = false) {M : PM} {a1 : Int32} {a2 : Int32} {a3 : Int32} {r : PR} (h : F_X11_isTrade_99 M a1 a2 a3 = some r) : PW l 2 Y_X11_isTrade k_X11_isTrade [vR 99, vI a1, vI a2, vI a3, jk] [] M r := by
  unfold F_X11_isTrade_99 at h
  refine p_iconst cn_0 ?_
  refine p_istore (Nat.le_of_ble_eq_true rfl) rfl ?_
  exact p_fg (S_X11_isTrade_99_3 hl FUEL h) ⟨Or.inr rfl, Or.inr rfl, Or.inr rfl, Or.inr rfl, Or.inr rfl, trivial⟩
set_option maxRecDepth 100000 in
theorem pc_X11_isTrade_99 {l : Launch} (hl : l.stackTraces = false) {M : PM} {a1 : Int32} {a2 : Int32} {a3 : Int32} {r : PR} (h : F_X11_isTrade_99 M a1 a2 a3 = some r) : PC l 2 Y_X11_isTrade [vR 99, vI a1, vI a2, vI a3] M r := pc_of hl (by decide +kernel) cok_X11_isTrade (Nat.le_of_ble_eq_true rfl) rfl (S_X11_isTrade_99 hl  h) rfl
