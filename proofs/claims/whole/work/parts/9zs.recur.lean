/-! wish: the grammar -/
def oneT (rc : Nat → PM → Option PR) (M1097 : PM) : Option PR := cI (F_X11_takes_99 M1097 12 1 23 0 0) fun v1100 M1099 => (if v1100 = 0 then cI (F_X11_takes_99 M1099 13 1 14 25 0) fun v1102 M1101 => (if v1102 = 0 then cI (F_X11_takes_99 M1101 4 1 25 0 0) fun v1104 M1103 => (if v1104 = 0 then cI (F_X11_takes_99 M1103 8 15 21 19 5) fun v1106 M1105 => (if v1106 = 0 then cI (F_X11_takes_99 M1105 20 15 23 14 0) fun v1108 M1107 => (if v1108 = 0 then cV (F_X11_wrong_99 M1107 1 (mI M1107 99 4)) fun M1109 => some (.inl none, M1109) else if ixOK 1 6 = true then cI (F_X11_number_99 M1107 0 ((mA M1107 103 (1 : Int32).toNatClampNeg) - 1)) fun v1111 M1110 => cV (F_X11_says_99 M1110 4 v1111 0) fun M1112 => some (.inl none, M1112) else none) else if ixOK 2 6 = true then cI (F_X11_number_99 M1105 0 ((mA M1105 103 (2 : Int32).toNatClampNeg) - 1)) fun v1114 M1113 => if ixOK 0 6 = true then cI (F_X11_number_99 M1113 0 ((mA M1113 103 (0 : Int32).toNatClampNeg) - 1)) fun v1116 M1115 => cV (F_X11_says_99 M1115 3 v1114 v1116) fun M1117 => some (.inl none, M1117) else none else none) else cI (F_X11_number_99 M1103 2 99) fun v1119 M1118 => cI (F_X11_number_99 M1118 0 (v1119 - 1)) fun v1121 M1120 => (if v1119 = 0 then F_X11_one_99_232 rc M1120 v1119 v1121 (mI M1120 99 28) 1 else F_X11_one_99_232 rc M1120 v1119 v1121 (mI M1120 99 28) v1119)) else cI (F_X11_number_99 M1101 0 12) fun v1123 M1122 => cV (F_X11_says_99 M1122 1 v1123 0) fun M1124 => some (.inl none, M1124)) else if ixOK 0 6 = true then cI (F_X11_number_99 M1099 0 ((mA M1099 103 (0 : Int32).toNatClampNeg) - 1)) fun v1126 M1125 => cV (F_X11_says_99 M1125 0 v1126 0) fun M1127 => some (.inl none, M1127) else none)
theorem wd_ex {b : Nat → Nat} {n j k q : Nat} (h : wdB b n j q = true) (hl : wLn j ≠ wLn k) : wdB b n k q = false := by
  have h1 := (wdB_s.mpr h).1
  cases h2 : wdB b n k q
  · rfl
  · have h3 := (wdB_s.mpr h2).1
    omega
/-- a word on the reference's side -/
theorem takW {b : Nat → Nat} {M : PM} {n p k op : Nat} {C : Cal} {W : Wsh} {a1 a2 a3 a4 a5 : Int32} (h : StWM b n M C (wGood p W) op) (cm : CalM M C) (hk : k < 11) (h5 : ∀ M, F_X11_five M a1 a2 a3 a4 a5 = rI (zi (wCd k)) M) : ∃ M', F_X11_takes_99 M a1 a2 a3 a4 a5 = rI (bb (wdB b n k (sb b n p))) M' ∧ SamM M M' ∧ CalM M' C ∧ (wdB b n k (sb b n p) = true → StWM b n M' C (wGood (sb b n p + wLn k) W) op) ∧ (wdB b n k (sb b n p) = false → StWM b n M' C (wGood (sb b n p) W) op) := by
  obtain ⟨h1, h2, h3⟩ := StWM_in h
  obtain ⟨v, M', e1, e2, e3, _⟩ := takes_m h1 hk h5
  obtain ⟨e4, e5, e6⟩ := e3 rfl
  have ev := wd_eq e4
  subst ev
  exact ⟨M', e1, e2.samM, cm.sm e2.sam.1, fun u => Or.inl ⟨rfl, e5 u, h2.kr e2, (e2.1 99 26 (by decide)).trans h3⟩, fun u => Or.inl ⟨rfl, e6 u, h2.kr e2, (e2.1 99 26 (by decide)).trans h3⟩⟩
/-- a word on the class's side -/
theorem takC {b : Nat → Nat} {M : PM} {n p s k : Nat} {W : Wsh} (h : TC b M n p s 0 (-1)) (hd : DWC M W) (hk : k < 11) : ∃ M', F_X4_takesWord_1 M k = rI (bb (wdB b n k (sb b n p))) M' ∧ KT M M' ∧ DWC M' W ∧ (wdB b n k (sb b n p) = true → TC b M' n (sb b n p + wLn k) (sb b n p) 0 (-1)) ∧ (wdB b n k (sb b n p) = false → TC b M' n (sb b n p) s 0 (-1)) := by
  obtain ⟨v, M', e1, e2, e3, e4, e5⟩ := word_c h hk
  have ev : v = wdB b n k (sb b n p) := wd_eq ⟨fun u => (e2.mp u).2, fun u => e2.mpr ⟨rfl, u⟩⟩
  subst ev
  exact ⟨M', e1, e3, hd.kt e3, e4, e5⟩
theorem plain_s {b : Nat → Nat} {M : PM} {n p s : Nat} {C : Cal} {W : Wsh} {rc : Nat → PM → Option PR} (hc : WFC C) (cc : CalC M C) (h : TC b M n p s 0 (-1)) (hd : DWC M W) (hw : WFd C W) (h3 : 3 * hN W ≤ p) (hn : n ≤ 200) : ∃ M' o, F_X8_readPlain_88_82 M = rV M' ∧ KWc M M' ∧ StWC b n M' o ∧ OKo C n p W o ∧ ∀ Mr op, CalM Mr C → StWM b n Mr C (wGood p W) op → ∃ Mr', oneT rc Mr = rV Mr' ∧ SamM Mr Mr' ∧ StWM b n Mr' C o op := by
  have hp := h.2.2.2.2.2.1
  have hge : p ≤ sb b n p := rn_ge b isBl n p
  have hcn := hc.1
  unfold F_X8_readPlain_88_82
  obtain ⟨M0, a1, a2, a3, a4, a5⟩ := takC (k := 0) h hd (by decide)
  rw [a1, cI_s]
  cases v0 : wdB b n 0 (sb b n p) with
  | true =>
    have m44 : mI M0 4 4 = zi (cN C) := (a2.1 4 4 (by decide)).trans cc.1.1
    obtain ⟨M', o, w1, w2, w3, w4, w5⟩ := wone_s (p := p) (s := 0) (hi := (cN C : Int) - 1) hc (a4 v0) a3 hw h3 (by show p + 3 ≤ sb b n p + 3; omega) hn (by decide) (by decide) (by omega) (fun v hv => ⟨by decide, fun _ => by omega, fun u => absurd u (by decide), fun u => absurd u (by decide), fun u => absurd u (by decide), fun u => absurd u (by decide), fun u => absurd u (by decide), fun u => absurd u (by decide)⟩)
    refine ⟨M', o, ?_, a2.kw.tr w2, w3, w4, fun Mr op cm hr => ?_⟩
    · rw [if_neg (by decide), m44, show (1 : Int32) = zi 1 from rfl, zi_sub]
      exact w1
    · obtain ⟨N0, b1, b2, b3, b4, b5⟩ := takW (k := 0) (a1 := 12) (a2 := 1) (a3 := 23) (a4 := 0) (a5 := 0) hr cm (by decide) (fun _ => rfl)
      obtain ⟨N1, x1, x2, x3⟩ := w5 N0 op (b4 v0)
      refine ⟨N1, ?_, b2.tr x2, x3⟩
      unfold oneT
      rw [b1, cI_s, v0, if_neg (by decide), if_pos (by decide), show (0 : Int32).toNatClampNeg = 0 from by decide, b3.1.1, show (1 : Int32) = zi 1 from rfl, zi_sub]
      exact x1
  | false =>
  rw [if_pos (by decide)]
  have t0 := a5 v0
  obtain ⟨M1, c1, c2, c3, c4, c5⟩ := takC (k := 6) t0 a3 (by decide)
  rw [sb_sb hp] at c1 c4 c5
  rw [c1, cI_s]
  have ref0 : ∀ Mr op, CalM Mr C → StWM b n Mr C (wGood p W) op → ∃ N1, oneT rc Mr = (cI (F_X11_takes_99 N1 13 1 14 25 0) fun v1102 M1101 => (if v1102 = 0 then cI (F_X11_takes_99 M1101 4 1 25 0 0) fun v1104 M1103 => (if v1104 = 0 then cI (F_X11_takes_99 M1103 8 15 21 19 5) fun v1106 M1105 => (if v1106 = 0 then cI (F_X11_takes_99 M1105 20 15 23 14 0) fun v1108 M1107 => (if v1108 = 0 then cV (F_X11_wrong_99 M1107 1 (mI M1107 99 4)) fun M1109 => some (.inl none, M1109) else if ixOK 1 6 = true then cI (F_X11_number_99 M1107 0 ((mA M1107 103 (1 : Int32).toNatClampNeg) - 1)) fun v1111 M1110 => cV (F_X11_says_99 M1110 4 v1111 0) fun M1112 => some (.inl none, M1112) else none) else if ixOK 2 6 = true then cI (F_X11_number_99 M1105 0 ((mA M1105 103 (2 : Int32).toNatClampNeg) - 1)) fun v1114 M1113 => if ixOK 0 6 = true then cI (F_X11_number_99 M1113 0 ((mA M1113 103 (0 : Int32).toNatClampNeg) - 1)) fun v1116 M1115 => cV (F_X11_says_99 M1115 3 v1114 v1116) fun M1117 => some (.inl none, M1117) else none else none) else cI (F_X11_number_99 M1103 2 99) fun v1119 M1118 => cI (F_X11_number_99 M1118 0 (v1119 - 1)) fun v1121 M1120 => (if v1119 = 0 then F_X11_one_99_232 rc M1120 v1119 v1121 (mI M1120 99 28) 1 else F_X11_one_99_232 rc M1120 v1119 v1121 (mI M1120 99 28) v1119)) else cI (F_X11_number_99 M1101 0 12) fun v1123 M1122 => cV (F_X11_says_99 M1122 1 v1123 0) fun M1124 => some (.inl none, M1124))) ∧ SamM Mr N1 ∧ CalM N1 C ∧ StWM b n N1 C (wGood (sb b n p) W) op := fun Mr op cm hr => by
    obtain ⟨N0, b1, b2, b3, b4, b5⟩ := takW (k := 0) (a1 := 12) (a2 := 1) (a3 := 23) (a4 := 0) (a5 := 0) hr cm (by decide) (fun _ => rfl)
    refine ⟨N0, ?_, b2, b3, b5 v0⟩
    unfold oneT
    rw [b1, cI_s, v0, if_pos (by decide)]
  cases v6 : wdB b n 6 (sb b n p) with
  | true =>
    obtain ⟨M', o, w1, w2, w3, w4, w5⟩ := wone_s (p := p) (s := 1) (hi := 12) hc (c4 v6) c3 hw h3 (by show p + 3 ≤ sb b n p + 4; omega) hn (by decide) (by decide) (by decide) (fun v hv => ⟨by decide, fun u => absurd u (by decide), fun _ => by omega, fun u => absurd u (by decide), fun u => absurd u (by decide), fun u => absurd u (by decide), fun u => absurd u (by decide), fun u => absurd u (by decide)⟩)
    refine ⟨M', o, ?_, (a2.tr c2).kw.tr w2, w3, w4, fun Mr op cm hr => ?_⟩
    · rw [if_neg (by decide)]
      exact w1
    · obtain ⟨N1, y1, y2, y3, y4⟩ := ref0 Mr op cm hr
      obtain ⟨N2, b1, b2, b3, b4, b5⟩ := takW (k := 6) (a1 := 13) (a2 := 1) (a3 := 14) (a4 := 25) (a5 := 0) y4 y3 (by decide) (fun _ => rfl)
      rw [sb_sb hp] at b1 b4 b5
      obtain ⟨N3, x1, x2, x3⟩ := w5 N2 op (b4 v6)
      refine ⟨N3, ?_, (y2.tr b2).tr x2, x3⟩
      rw [y1, b1, cI_s, v6, if_neg (by decide)]
      exact x1
  | false =>
  rw [if_pos (by decide)]
  have t1 := c5 v6
  have ref1 : ∀ Mr op, CalM Mr C → StWM b n Mr C (wGood p W) op → ∃ N1, oneT rc Mr = (cI (F_X11_takes_99 N1 4 1 25 0 0) fun v1104 M1103 => (if v1104 = 0 then cI (F_X11_takes_99 M1103 8 15 21 19 5) fun v1106 M1105 => (if v1106 = 0 then cI (F_X11_takes_99 M1105 20 15 23 14 0) fun v1108 M1107 => (if v1108 = 0 then cV (F_X11_wrong_99 M1107 1 (mI M1107 99 4)) fun M1109 => some (.inl none, M1109) else if ixOK 1 6 = true then cI (F_X11_number_99 M1107 0 ((mA M1107 103 (1 : Int32).toNatClampNeg) - 1)) fun v1111 M1110 => cV (F_X11_says_99 M1110 4 v1111 0) fun M1112 => some (.inl none, M1112) else none) else if ixOK 2 6 = true then cI (F_X11_number_99 M1105 0 ((mA M1105 103 (2 : Int32).toNatClampNeg) - 1)) fun v1114 M1113 => if ixOK 0 6 = true then cI (F_X11_number_99 M1113 0 ((mA M1113 103 (0 : Int32).toNatClampNeg) - 1)) fun v1116 M1115 => cV (F_X11_says_99 M1115 3 v1114 v1116) fun M1117 => some (.inl none, M1117) else none else none) else cI (F_X11_number_99 M1103 2 99) fun v1119 M1118 => cI (F_X11_number_99 M1118 0 (v1119 - 1)) fun v1121 M1120 => (if v1119 = 0 then F_X11_one_99_232 rc M1120 v1119 v1121 (mI M1120 99 28) 1 else F_X11_one_99_232 rc M1120 v1119 v1121 (mI M1120 99 28) v1119))) ∧ SamM Mr N1 ∧ CalM N1 C ∧ StWM b n N1 C (wGood (sb b n p) W) op := fun Mr op cm hr => by
    obtain ⟨N1, y1, y2, y3, y4⟩ := ref0 Mr op cm hr
    obtain ⟨N2, b1, b2, b3, b4, b5⟩ := takW (k := 6) (a1 := 13) (a2 := 1) (a3 := 14) (a4 := 25) (a5 := 0) y4 y3 (by decide) (fun _ => rfl)
    rw [sb_sb hp] at b1 b4 b5
    refine ⟨N2, ?_, y2.tr b2, b3, b5 v6⟩
    rw [y1, b1, cI_s, v6, if_pos (by decide)]
  obtain ⟨M2, d1, d2, d3, d4, d5⟩ := takC (k := 7) t1 c3 (by decide)
  rw [sb_sb hp] at d1 d4 d5
  rw [d1, cI_s]
  cases v7 : wdB b n 7 (sb b n p) with
  | true =>
    have v8 : wdB b n 8 (sb b n p) = false := wd_ex v7 (by decide)
    have v2 : wdB b n 2 (sb b n p) = false := wd_ex v7 (by decide)
    have m94 : mI M2 9 4 = zi (oN C) := (d2.1 9 4 (by decide)).trans ((c2.1 9 4 (by decide)).trans ((a2.1 9 4 (by decide)).trans cc.2.1.1))
    obtain ⟨M', o, w1, w2, w3, w4, w5⟩ := wone_s (p := p) (s := 4) (hi := (oN C : Int) - 1) hc (d4 v7) d3 hw h3 (by show p + 3 ≤ sb b n p + 4; omega) hn (by decide) (by decide) (by omega) (fun v hv => ⟨by decide, fun u => absurd u (by decide), fun u => absurd u (by decide), fun u => absurd u (by decide), fun u => absurd u (by decide), fun _ => by omega, fun u => absurd u (by decide), fun u => absurd u (by decide)⟩)
    refine ⟨M', o, ?_, ((a2.tr c2).tr d2).kw.tr w2, w3, w4, fun Mr op cm hr => ?_⟩
    · rw [if_neg (by decide), m94, show (1 : Int32) = zi 1 from rfl, zi_sub]
      exact w1
    · obtain ⟨N1, y1, y2, y3, y4⟩ := ref1 Mr op cm hr
      obtain ⟨N2, b1, b2, b3, b4, b5⟩ := takW (k := 8) (a1 := 4) (a2 := 1) (a3 := 25) (a4 := 0) (a5 := 0) y4 y3 (by decide) (fun _ => rfl)
      rw [sb_sb hp] at b1 b4 b5
      obtain ⟨N3, e1, e2, e3, e4, e5⟩ := takW (k := 2) (a1 := 8) (a2 := 15) (a3 := 21) (a4 := 19) (a5 := 5) (b5 v8) b3 (by decide) (fun _ => rfl)
      rw [sb_sb hp] at e1 e4 e5
      obtain ⟨N4, f1, f2, f3, f4, f5⟩ := takW (k := 7) (a1 := 20) (a2 := 15) (a3 := 23) (a4 := 14) (a5 := 0) (e5 v2) e3 (by decide) (fun _ => rfl)
      rw [sb_sb hp] at f1 f4 f5
      obtain ⟨N5, x1, x2, x3⟩ := w5 N4 op (f4 v7)
      refine ⟨N5, ?_, (((y2.tr b2).tr e2).tr f2).tr x2, x3⟩
      rw [y1, b1, cI_s, v8, if_pos (by decide), e1, cI_s, v2, if_pos (by decide), f1, cI_s, v7, if_neg (by decide), if_pos (by decide), show (1 : Int32).toNatClampNeg = 1 from by decide, f3.1.2.1, show (1 : Int32) = zi 1 from rfl, zi_sub]
      exact x1
  | false =>
  rw [if_pos (by decide)]
  have t2 := d5 v7
  obtain ⟨M3, g1, g2, g3, g4, g5⟩ := takC (k := 8) t2 d3 (by decide)
  rw [sb_sb hp] at g1 g4 g5
  rw [g1, cI_s]
  cases v8 : wdB b n 8 (sb b n p) with
  | true =>
    obtain ⟨M', o, w1, w2, w3, w4, w5⟩ := wday_s (p := p) (rc := rc) hc (g4 v8) g3 hw h3 (by show p + 3 ≤ sb b n p + 3; omega) hn
    refine ⟨M', o, ?_, (((a2.tr c2).tr d2).tr g2).kw.tr w2, w3, w4, fun Mr op cm hr => ?_⟩
    · rw [if_neg (by decide)]
      exact w1
    · obtain ⟨N1, y1, y2, y3, y4⟩ := ref1 Mr op cm hr
      obtain ⟨N2, b1, b2, b3, b4, b5⟩ := takW (k := 8) (a1 := 4) (a2 := 1) (a3 := 25) (a4 := 0) (a5 := 0) y4 y3 (by decide) (fun _ => rfl)
      rw [sb_sb hp] at b1 b4 b5
      obtain ⟨N3, x1, x2, x3⟩ := w5 N2 op (b4 v8)
      refine ⟨N3, ?_, (y2.tr b2).tr x2, x3⟩
      rw [y1, b1, cI_s, v8, if_neg (by decide)]
      exact x1
  | false =>
  rw [if_pos (by decide)]
  have t3 := g5 v8
  obtain ⟨M4, i1, i2, i3, i4, i5⟩ := takC (k := 2) t3 g3 (by decide)
  rw [sb_sb hp] at i1 i4 i5
  rw [i1, cI_s]
  have kk := (((a2.tr c2).tr d2).tr g2).tr i2
  cases v2 : wdB b n 2 (sb b n p) with
  | true =>
    have m34 : mI M4 3 4 = zi (cH C) := (kk.1 3 4 (by decide)).trans cc.2.2.2.1.1
    have m44 : mI M4 4 4 = zi (cN C) := (kk.1 4 4 (by decide)).trans cc.1.1
    obtain ⟨M', o, w1, w2, w3, w4, w5⟩ := whouse_s (p := p) hc (i4 v2) i3 hw h3 (by show p + 3 ≤ sb b n p + 5; omega) hn m44
    refine ⟨M', o, ?_, kk.kw.tr w2, w3, w4, fun Mr op cm hr => ?_⟩
    · rw [if_neg (by decide), m34, show zi (cH C : Int) - 1 = zi ((cH C : Int) - 1) from by rw [show (1 : Int32) = zi 1 from rfl, zi_sub]]
      exact w1
    · obtain ⟨N1, y1, y2, y3, y4⟩ := ref1 Mr op cm hr
      obtain ⟨N2, b1, b2, b3, b4, b5⟩ := takW (k := 8) (a1 := 4) (a2 := 1) (a3 := 25) (a4 := 0) (a5 := 0) y4 y3 (by decide) (fun _ => rfl)
      rw [sb_sb hp] at b1 b4 b5
      obtain ⟨N3, e1, e2, e3, e4, e5⟩ := takW (k := 2) (a1 := 8) (a2 := 15) (a3 := 21) (a4 := 19) (a5 := 5) (b5 v8) b3 (by decide) (fun _ => rfl)
      rw [sb_sb hp] at e1 e4 e5
      obtain ⟨N4, x1, x2, x3⟩ := w5 N3 op e3 (e4 v2)
      refine ⟨N4, ?_, ((y2.tr b2).tr e2).tr x2, x3⟩
      rw [y1, b1, cI_s, v8, if_pos (by decide), e1, cI_s, v2, if_neg (by decide), if_pos (by decide), show (2 : Int32).toNatClampNeg = 2 from by decide, e3.1.2.2.1, show zi (cH C : Int) - 1 = zi ((cH C : Int) - 1) from by rw [show (1 : Int32) = zi 1 from rfl, zi_sub]]
      exact x1
  | false =>
    rw [if_pos (by decide)]
    obtain ⟨M5, k1, k2, k3⟩ := blameNext_c (i5 v2)
    rw [if_pos rfl, if_pos rfl, sb_sb hp] at k2
    rw [k1, cV_s]
    refine ⟨M5, wBad W 1 (sb b n p), rfl, (kk.tr k3).kw, StWC_bad (by decide) k2 ((hd.wk hw).kt (kk.tr k3)), OKo_bad (by decide), fun Mr op cm hr => ?_⟩
    obtain ⟨N1, y1, y2, y3, y4⟩ := ref1 Mr op cm hr
    obtain ⟨N2, b1, b2, b3, b4, b5⟩ := takW (k := 8) (a1 := 4) (a2 := 1) (a3 := 25) (a4 := 0) (a5 := 0) y4 y3 (by decide) (fun _ => rfl)
    rw [sb_sb hp] at b1 b4 b5
    obtain ⟨N3, e1, e2, e3, e4, e5⟩ := takW (k := 2) (a1 := 8) (a2 := 15) (a3 := 21) (a4 := 19) (a5 := 5) (b5 v8) b3 (by decide) (fun _ => rfl)
    rw [sb_sb hp] at e1 e4 e5
    obtain ⟨N4, f1, f2, f3, f4, f5⟩ := takW (k := 7) (a1 := 20) (a2 := 15) (a3 := 23) (a4 := 14) (a5 := 0) (e5 v2) e3 (by decide) (fun _ => rfl)
    rw [sb_sb hp] at f1 f4 f5
    obtain ⟨r1, r2, r3⟩ := StWM_in (f5 v7)
    obtain ⟨N5, w1, w2, w3⟩ := wrong_m (x := 1) (y := ((sb b n p : Nat) : Int)) r1 (by decide)
    rw [if_pos rfl, if_pos rfl] at w2
    have w1' : F_X11_wrong_99 N4 1 (zi (sb b n p)) = rV N5 := w1
    refine ⟨N5, ?_, (((y2.tr b2).tr e2).tr f2).tr w3.samM, StWM_bad (by decide) w2⟩
    rw [y1, b1, cI_s, v8, if_pos (by decide), e1, cI_s, v2, if_pos (by decide), f1, cI_s, v7, if_pos (by decide), r1.2.1, w1', cV_s]
