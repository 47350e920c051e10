/-! wish: a single part -/
theorem mayT {M : PM} {op : Nat} (h : op < 6) : F_X8_mayOpen_88 M (zi op) = rI (zi 1) M := by
  unfold F_X8_mayOpen_88 F_X8_mayOpen_88_14
  rw [if_pos (by rw [show (6 : Int32) = zi 6 from rfl, zi_lt (by omega) (by omega)]; omega), if_neg (by rw [show (6 : Int32) = zi 6 from rfl, zi_le (by omega) (by omega)]; omega), if_pos (by decide)]
  rfl
theorem mayF {b : Nat → Nat} {M : PM} {n p s : Nat} (h : TC b M n p s 0 (-1)) : ∃ M', F_X8_mayOpen_88 M (zi ((6 : Nat) : Int)) = rI (zi 0) M' ∧ KT M M' ∧ TC b M' n p s 3 ((s : Nat) : Int) := by
  obtain ⟨M1, m1, m2, m3⟩ := blameTaken_c h
  rw [if_pos rfl, if_pos rfl] at m2
  refine ⟨M1, ?_, m3, m2⟩
  unfold F_X8_mayOpen_88 F_X8_mayOpen_88_14
  rw [if_neg (by decide), m1, cV_s, if_pos (by decide), if_pos (by decide)]
  rfl
theorem opT {M : PM} {op : Nat} (h : mI M 99 26 = zi op) (ho : op < 6) : F_X11_opens_99 M = rV (sI M 99 26 (zi ((op + 1 : Nat)))) := by
  unfold F_X11_opens_99
  rw [h, if_neg (by rw [show (6 : Int32) = zi 6 from rfl, zi_eq (by omega) (by omega)]; omega), show (1 : Int32) = zi 1 from rfl, zi_add, zc (show (op : Int) + 1 = ((op + 1 : Nat) : Int) by omega)]
theorem opF {b : Nat → Nat} {M : PM} {n p : Nat} (h : mI M 99 26 = zi 6) (t : TM b M n p 0 (-1)) : ∃ M', F_X11_opens_99 M = rV M' ∧ KR M M' ∧ TM b M' n p 3 ((p : Nat) : Int) := by
  obtain ⟨M1, w1, w2, w3⟩ := wrong_m (x := 3) (y := ((p : Nat) : Int)) t (by decide)
  rw [if_pos rfl, if_pos rfl] at w2
  refine ⟨M1, ?_, w3, w2⟩
  unfold F_X11_opens_99
  have w1' : F_X11_wrong_99 M 3 (zi p) = rV M1 := w1
  rw [h, if_pos (by decide), t.2.1, w1', cV_s]
theorem i26 {M : PM} {x : Int32} : SamM M (sI M 99 26 x) := ⟨Sam.i 99 26 x (by decide) Sam.rf, rI_nk (by decide)⟩
theorem TM.i26 {b : Nat → Nat} {M : PM} {n p : Nat} {f g : Int} {x : Int32} (h : TM b M n p f g) : TM b (sI M 99 26 x) n p f g := h.kp (fun k _ _ => rI_nk (by omega)) rfl
theorem DWM.i26 {M : PM} {C : Cal} {W : Wsh} {x : Int32} (h : DWM M C W) : DWM (sI M 99 26 x) C W := ⟨(rI_nk (by decide)).trans h.1, (rI_nk (by decide)).trans h.2.1, h.2.2⟩
theorem StWM.dec {b : Nat → Nat} {M : PM} {n op : Nat} {C : Cal} {o : WOut} (h : StWM b n M C o (op + 1)) (ho : op ≤ 6) : StWM b n (sI M 99 26 ((mI M 99 26) - 1)) C o op := by
  rcases h with ⟨h0, h1, h2, h3⟩ | ⟨h0, p, h1⟩
  · refine Or.inl ⟨h0, h1.i26, h2.i26, ?_⟩
    rw [h3, show (1 : Int32) = zi 1 from rfl, zi_sub, zc (show ((op + 1 : Nat) : Int) - 1 = (op : Int) by omega)]
    exact rI_at
  · exact Or.inr ⟨h0, p, h1.i26⟩
theorem OKo_not {C : Cal} {n p p1 p' : Nat} {W W' : Wsh} (hn : n ≤ 200) (h3 : 3 * hN W ≤ p) (h : OKo C n p1 W (wGood p' W')) (hp : p + 3 ≤ p1) : OKo C n p W (wGood p' (addW W' 5 0 0)) ∧ hN W' < 100 := by
  obtain ⟨a1, a2, a3, a4, a5, a6⟩ := h rfl
  have a1' : 3 * hN W' + 1 + p1 ≤ p' + 3 * hN W := a1
  have a2' : hN W ≤ hN W' := a2
  have a4' : hDep W' (hN W') = hDep W (hN W) + 1 := a4
  have a6' : p' ≤ n := a6
  have hlt : hN W' < 100 := by omega
  refine ⟨fun _ => ⟨by show 3 * (hN W' + 1) + 1 + p ≤ p' + 3 * hN W; omega, by show hN W ≤ hN W' + 1; omega, fun i hi => ?_, ?_, WFd_add a5 hlt ⟨by decide, fun u => absurd u (by decide), fun u => absurd u (by decide), fun u => absurd u (by decide), fun u => absurd u (by decide), fun u => absurd u (by decide), fun _ => by omega, fun u => absurd u (by decide)⟩, a6⟩, hlt⟩
  · show (if i = hN W' then 5 else hS W' i) = hS W i
    rw [if_neg (by omega)]
    exact a3 i hi
  · show hDep (addW W' 5 0 0) (hN W' + 1) = _
    rw [addW_dep1, if_neg (by decide), if_pos rfl]
    exact a4
theorem OKo_br {C : Cal} {n p p1 p' p2 : Nat} {W W' : Wsh} (h : OKo C n p1 W (wGood p' W')) (hp : p ≤ p1) (hp2 : p' ≤ p2) (hpn : p2 ≤ n) : OKo C n p W (wGood p2 W') := fun _ => by
  obtain ⟨a1, a2, a3, a4, a5, a6⟩ := h rfl
  have a1' : 3 * hN W' + 1 + p1 ≤ p' + 3 * hN W := a1
  exact ⟨by show 3 * hN W' + 1 + p ≤ p2 + 3 * hN W; omega, a2, a3, a4, a5, hpn⟩
theorem ptS {b : Nat → Nat} {n g : Nat} {C : Cal} (hc : WFC C) (hn : n ≤ 200) (ih0 : PT b n C g 0) (ih2 : PT b n C g 2) : PT b n C (g + 1) 2 := fun op hop hfu M p s W cc h hd hw h3 => by
  show ∃ M' o, F_X8_readSingle_88_82 (G_read g) M (zi op) = rV M' ∧ KWc M M' ∧ StWC b n M' o ∧ OKo C n p W o ∧ ∀ Mr, CalM Mr C → StWM b n Mr C (wGood p W) op → ∃ Mr', F_X11_one_99 (G_orow g) Mr = rV Mr' ∧ SamM Mr Mr' ∧ StWM b n Mr' C o op
  have hp := h.2.2.2.2.2.1
  have hle : sb b n p ≤ n := rn_le b isBl hp
  have hge : p ≤ sb b n p := rn_ge b isBl n p
  have hl : wLn 5 = 3 := rfl
  -- the reference up to the first word
  have ref : ∀ Mr, CalM Mr C → StWM b n Mr C (wGood p W) op → ∃ N, F_X11_one_99 (G_orow g) Mr = (if bb (wdB b n 5 (sb b n p)) = 0 then cI (F_X11_byteAt_99 N (mI N 99 4)) fun v1098 M1097 => (if v1098 = 91 then cV (F_X11_opens_99 M1097) fun M1128 => (if mI M1128 99 5 = 0 then cV (G_orow g 0 (sI M1128 99 4 ((mI M1128 99 4) + 1))) fun M1129 => cV (F_X11_sign_99 M1129 93) fun M1130 => some (.inl none, sI M1130 99 26 ((mI M1130 99 26) - 1)) else some (.inl none, M1128)) else oneT (G_orow g) M1097) else cV (F_X11_opens_99 N) fun M1131 => (if mI M1131 99 5 = 0 then cV (F_X11_skipWord_99 M1131) fun M1132 => cV (G_orow g 2 M1132) fun M1133 => cV (F_X11_says_99 M1133 5 0 0) fun M1134 => some (.inl none, sI M1134 99 26 ((mI M1134 99 26) - 1)) else some (.inl none, M1131))) ∧ SamM Mr N ∧ CalM N C ∧ TM b N n (sb b n p) 0 (-1) ∧ DWM N C W ∧ mI N 99 26 = zi op := fun Mr cm hr => by
    obtain ⟨r1, r2, r3⟩ := StWM_in hr
    obtain ⟨N0, m1, m2, m3⟩ := blanks_m r1
    obtain ⟨v, N1, w1, w2, w3, _⟩ := isWord_m (k := 5) (a1 := 14) (a2 := 15) (a3 := 20) (a4 := 0) (a5 := 0) m2 (by decide) (fun _ => rfl)
    obtain ⟨w4, w5⟩ := w3 rfl
    rw [sb_sb hp] at w4 w5
    have ev := wd_eq w4
    subst ev
    refine ⟨N1, ?_, (m3.tr w2).samM, cm.sm (m3.tr w2).sam.1, w5, r2.kr (m3.tr w2), ((m3.tr w2).1 99 26 (by decide)).trans r3⟩
    unfold F_X11_one_99
    rw [r1.2.2.1, if_pos (show zi 0 = 0 from rfl), m1, cV_s, w1, cI_s]
    rfl
  unfold F_X8_readSingle_88_82
  obtain ⟨M0, a1, a2, a3, a4, a5⟩ := takC (k := 5) h hd (by decide)
  rw [a1, cI_s]
  cases v5 : wdB b n 5 (sb b n p) with
  | true =>
    have t0 := a4 v5
    rw [hl] at t0
    have hp1 := t0.2.2.2.2.2.1
    rw [if_neg (by decide)]
    by_cases q6 : op = 6
    · subst q6
      obtain ⟨M1, m1, m2, m3⟩ := mayF t0
      rw [m1, cI_s, if_pos (show zi 0 = 0 from rfl)]
      refine ⟨M1, wBad W 3 (sb b n p), rfl, (a2.tr m2).kw, StWC_bad (by decide) m3 ((hd.wk hw).kt (a2.tr m2)), OKo_bad (by decide), fun Mr cm hr => ?_⟩
      obtain ⟨N, e1, e2, e3, e4, e5, e6⟩ := ref Mr cm hr
      obtain ⟨N1, f1, f2, f3⟩ := opF e6 e4
      refine ⟨N1, ?_, e2.tr f2.samM, StWM_bad (by decide) f3⟩
      rw [e1, v5, if_neg (by decide), f1, cV_s, f3.2.2.1, if_neg (by decide)]
    · have ho : op < 6 := by omega
      obtain ⟨M2, q1, c1, c2, c3, c4, c5⟩ := ih2 (op + 1) (by omega) (by omega) M0 (sb b n p + 3) (sb b n p) W (cc.sm a2.sam) t0 a3 hw (by omega)
      have c1' : G_read g 2 M0 (zi op + 1) = rV M2 := by
        rw [show zi (op : Int) + 1 = zi ((op + 1 : Nat)) from by rw [show (1 : Int32) = zi 1 from rfl, zi_add]; rfl]
        exact c1
      rw [mayT ho, cI_s, if_neg (by decide), c1', cV_s]
      -- the reference up to the inner part
      have ref2 : ∀ Mr, CalM Mr C → StWM b n Mr C (wGood p W) op → ∃ N, F_X11_one_99 (G_orow g) Mr = (cV (F_X11_says_99 N 5 0 0) fun M1134 => some (.inl none, sI M1134 99 26 ((mI M1134 99 26) - 1))) ∧ SamM Mr N ∧ StWM b n N C q1 (op + 1) := fun Mr cm hr => by
        obtain ⟨N, e1, e2, e3, e4, e5, e6⟩ := ref Mr cm hr
        have t1 : TM b (sI N 99 26 (zi ((op + 1 : Nat)))) n (sb b n p) 0 (-1) := e4.i26
        obtain ⟨N1, s1, s2, s3⟩ := skipWord_m t1
        rw [(wdB_s.mpr v5).1, hl] at s2
        have sm1 : SamM N N1 := i26.tr s3.samM
        obtain ⟨N2, y1, y2, y3⟩ := c5 N1 (e3.sm sm1.1.1) (Or.inl ⟨rfl, s2, (e5.i26).kr s3, (s3.1 99 26 (by decide)).trans rI_at⟩)
        refine ⟨N2, ?_, (e2.tr sm1).tr y2, y3⟩
        rw [e1, v5, if_neg (by decide), opT e6 ho, cV_s, t1.2.2.1, if_pos (show zi 0 = 0 from rfl), s1, cV_s, y1, cV_s]
      rcases c3 with ⟨u1, ⟨s2, u2⟩, u3⟩ | ⟨u1, ⟨pp, s2, u2⟩, u3⟩
      · obtain ⟨e0, p2, W2, rfl⟩ : ∃ e0 p2 W2, q1 = (0, e0, p2, W2) := ⟨q1.2.1, q1.2.2.1, q1.2.2.2, Prod.ext u1 rfl⟩
        have c4' : OKo C n (sb b n p + 3) W (wGood p2 W2) := c4
        obtain ⟨d1, d2⟩ := OKo_not hn h3 c4' (by omega)
        have u3' : DWC M2 W2 := u3
        have ad : F_X7_add_82 M2 5 0 0 = rV (adM M2 (hN W2) (zi 5) (zi 0) (zi 0)) := adM_s u3'.1 d2
        rw [ad, cV_s]
        refine ⟨_, wGood p2 (addW W2 5 0 0), rfl, (a2.kw.tr c2).tr adM_kw, Or.inl ⟨rfl, ⟨s2, adM_tc u2⟩, adM_dwc (s := 5) (a := 0) (c := 0) u3'⟩, d1, fun Mr cm hr => ?_⟩
        obtain ⟨N, e1, e2, e3⟩ := ref2 Mr cm hr
        have e3' : StWM b n N C (wGood p2 W2) (op + 1) := by
          rcases e3 with ⟨w1, w2, w3, w4⟩ | ⟨w1, _⟩
          · exact Or.inl ⟨rfl, w2, w3, w4⟩
          · exact absurd rfl w1
        obtain ⟨r1, r2, r3⟩ := StWM_in e3'
        obtain ⟨N3, z1, z2, z3, z4, z5⟩ := says_m (s := 5) (a := 0) (c := 0) (C := C) (W := W2) r1 r2.1 (by rw [rtW_add, if_neg (by decide)]; exact r2.2.1) r2.2.2 d2
        have z1' : F_X11_says_99 N 5 0 0 = rV N3 := z1
        have st3 : StWM b n N3 C (wGood p2 (addW W2 5 0 0)) (op + 1) := Or.inl ⟨rfl, z3, z4, z5.trans r3⟩
        exact ⟨_, by rw [e1, z1', cV_s], (e2.tr z2).tr i26, st3.dec (by omega)⟩
      · obtain ⟨M3, a6, a7, a8, a9⟩ := addF (x := 5) (y := 0) (z := 0) u2 u3 (fun e => absurd e (by decide))
        rw [a6, cV_s]
        refine ⟨M3, q1, rfl, (a2.kw.tr c2).tr a7, Or.inr ⟨u1, ⟨_, _, a8⟩, a9⟩, fun u => absurd u u1, fun Mr cm hr => ?_⟩
        obtain ⟨N, e1, e2, e3⟩ := ref2 Mr cm hr
        rcases e3 with ⟨z1, _⟩ | ⟨z1, pz, z2⟩
        · exact absurd z1 u1
        · exact ⟨_, by rw [e1, saysF z2 z1, cV_s], e2.tr i26, Or.inr ⟨z1, pz, z2.i26⟩⟩
  | false =>
  have t0 := a5 v5
  rw [if_pos (by decide)]
  obtain ⟨v, M1, m1, m2, m3, m4, m5⟩ := sign_c (c := 91) t0 (by decide)
  rw [sb_sb hp] at m2 m4 m5
  have m1' : F_X4_takesSign_1 M0 91 = rI (bb v) M1 := m1
  rw [m1', cI_s]
  have d1 := a3.kt m3
  -- the reference's sign
  have refS : ∀ Mr, CalM Mr C → StWM b n Mr C (wGood p W) op → ∃ N, F_X11_one_99 (G_orow g) Mr = (if zi (bAt b n (sb b n p)) = 91 then cV (F_X11_opens_99 N) fun M1128 => (if mI M1128 99 5 = 0 then cV (G_orow g 0 (sI M1128 99 4 ((mI M1128 99 4) + 1))) fun M1129 => cV (F_X11_sign_99 M1129 93) fun M1130 => some (.inl none, sI M1130 99 26 ((mI M1130 99 26) - 1)) else some (.inl none, M1128)) else oneT (G_orow g) N) ∧ SamM Mr N ∧ CalM N C ∧ TM b N n (sb b n p) 0 (-1) ∧ DWM N C W ∧ mI N 99 26 = zi op ∧ (-1 ≤ bAt b n (sb b n p) ∧ bAt b n (sb b n p) < 256) := fun Mr cm hr => by
    obtain ⟨N, e1, e2, e3, e4, e5, e6⟩ := ref Mr cm hr
    refine ⟨N, ?_, e2, e3, e4, e5, e6, bAt_in e4⟩
    have := e4.2.2.2.2.2.1
    rw [e1, v5, if_pos (by decide), e4.2.1, byteAt_m e4 (by omega), cI_s]
  cases v with
  | true =>
    obtain ⟨_, hlt, hb91⟩ := m2.mp rfl
    have t1 := m4 rfl
    have eb : bAt b n (sb b n p) = 91 := by unfold bAt; rw [if_pos hlt, hb91]; rfl
    rw [if_neg (by decide)]
    by_cases q6 : op = 6
    · subst q6
      obtain ⟨M2, x1, x2, x3⟩ := mayF t1
      rw [x1, cI_s, if_pos (show zi 0 = 0 from rfl)]
      refine ⟨M2, wBad W 3 (sb b n p), rfl, ((a2.tr m3).tr x2).kw, StWC_bad (by decide) x3 ((hd.wk hw).kt ((a2.tr m3).tr x2)), OKo_bad (by decide), fun Mr cm hr => ?_⟩
      obtain ⟨N, e1, e2, e3, e4, e5, e6, _⟩ := refS Mr cm hr
      obtain ⟨N1, f1, f2, f3⟩ := opF e6 e4
      refine ⟨N1, ?_, e2.tr f2.samM, StWM_bad (by decide) f3⟩
      rw [e1, eb, if_pos (by decide), f1, cV_s, f3.2.2.1, if_neg (by decide)]
    · have ho : op < 6 := by omega
      obtain ⟨M2, q1, c1, c2, c3, c4, c5⟩ := ih0 (op + 1) (by omega) (by omega) M1 (sb b n p + 1) (sb b n p) W (cc.sm (a2.tr m3).sam) t1 d1 hw (by omega)
      have c1' : G_read g 0 M1 (zi op + 1) = rV M2 := by
        rw [show zi (op : Int) + 1 = zi ((op + 1 : Nat)) from by rw [show (1 : Int32) = zi 1 from rfl, zi_add]; rfl]
        exact c1
      rw [mayT ho, cI_s, if_neg (by decide), c1', cV_s]
      have ref2 : ∀ Mr, CalM Mr C → StWM b n Mr C (wGood p W) op → ∃ N, F_X11_one_99 (G_orow g) Mr = (cV (F_X11_sign_99 N 93) fun M1130 => some (.inl none, sI M1130 99 26 ((mI M1130 99 26) - 1))) ∧ SamM Mr N ∧ StWM b n N C q1 (op + 1) := fun Mr cm hr => by
        obtain ⟨N, e1, e2, e3, e4, e5, e6, _⟩ := refS Mr cm hr
        have t2 : TM b (sI N 99 26 (zi ((op + 1 : Nat)))) n (sb b n p) 0 (-1) := e4.i26
        have k4 : KR (sI N 99 26 (zi ((op + 1 : Nat)))) (sI (sI N 99 26 (zi ((op + 1 : Nat)))) 99 4 (zi ((sb b n p + 1 : Nat)))) := KR.i (by decide)
        have sm1 : SamM N (sI (sI N 99 26 (zi ((op + 1 : Nat)))) 99 4 (zi ((sb b n p + 1 : Nat)))) := i26.tr k4.samM
        obtain ⟨N2, y1, y2, y3⟩ := c5 (sI (sI N 99 26 (zi ((op + 1 : Nat)))) 99 4 (zi ((sb b n p + 1 : Nat)))) (e3.sm sm1.1.1) (Or.inl ⟨rfl, t2.at' (by omega), (e5.i26).kr k4, (rI_nk (by decide)).trans rI_at⟩)
        refine ⟨N2, ?_, (e2.tr sm1).tr y2, y3⟩
        rw [e1, eb, if_pos (by decide), opT e6 ho, cV_s, t2.2.2.1, if_pos (show zi 0 = 0 from rfl), t2.2.1, show (1 : Int32) = zi 1 from rfl, zi_add, zc (show ((sb b n p : Nat) : Int) + 1 = ((sb b n p + 1 : Nat) : Int) by omega), y1, cV_s]
      rcases c3 with ⟨u1, ⟨s2, u2⟩, u3⟩ | ⟨u1, ⟨pp, s2, u2⟩, u3⟩
      · obtain ⟨e0, p2, W2, rfl⟩ : ∃ e0 p2 W2, q1 = (0, e0, p2, W2) := ⟨q1.2.1, q1.2.2.1, q1.2.2.2, Prod.ext u1 rfl⟩
        have c4' : OKo C n (sb b n p + 1) W (wGood p2 W2) := c4
        have u2' : TC b M2 n p2 s2 0 (-1) := u2
        have hp2 := u2'.2.2.2.2.2.1
        have hge2 : p2 ≤ sb b n p2 := rn_ge b isBl n p2
        have u3' : DWC M2 W2 := u3
        have w5' := (c4' rfl).2.2.2.2.1
        obtain ⟨v, M3, x1, x2, x3, x4, x5⟩ := sign_c (c := 93) u2' (by decide)
        have x1' : F_X4_takesSign_1 M2 93 = rI (bb v) M3 := x1
        rw [x1', cI_s]
        cases v with
        | true =>
          obtain ⟨_, y2, y3⟩ := x2.mp rfl
          rw [if_neg (by decide)]
          refine ⟨M3, wGood (sb b n p2 + 1) W2, rfl, ((a2.tr m3).kw.tr c2).tr x3.kw, Or.inl ⟨rfl, ⟨_, x4 rfl⟩, u3'.kt x3⟩, OKo_br c4' (by omega) (by omega) (by omega), fun Mr cm hr => ?_⟩
          obtain ⟨N, e1, e2, e3⟩ := ref2 Mr cm hr
          have e3' : StWM b n N C (wGood p2 W2) (op + 1) := by
            rcases e3 with ⟨w1, w2, w3, w4⟩ | ⟨w1, _⟩
            · exact Or.inl ⟨rfl, w2, w3, w4⟩
            · exact absurd rfl w1
          obtain ⟨r1, r2, r3⟩ := StWM_in e3'
          obtain ⟨N3, z1, z2, z3, _, _⟩ := sign_m (c := 93) r1 (by decide)
          have z1' : F_X11_sign_99 N 93 = rV N3 := z1
          have st3 : StWM b n N3 C (wGood (sb b n p2 + 1) W2) (op + 1) := Or.inl ⟨rfl, z3 rfl ⟨y2, y3⟩, r2.kr z2, (z2.1 99 26 (by decide)).trans r3⟩
          exact ⟨_, by rw [e1, z1', cV_s], (e2.tr z2.samM).tr i26, st3.dec (by omega)⟩
        | false =>
          obtain ⟨M4, k1, k2, k3⟩ := blameNext_c (x5 rfl)
          rw [if_pos rfl, if_pos rfl, sb_sb hp2] at k2
          rw [if_pos (by decide), k1, cV_s]
          refine ⟨M4, wBad W 1 (sb b n p2), rfl, (((a2.tr m3).kw.tr c2).tr x3.kw).tr k3.kw, StWC_bad (by decide) k2 (((u3'.wk w5').kt x3).kt k3), OKo_bad (by decide), fun Mr cm hr => ?_⟩
          obtain ⟨N, e1, e2, e3⟩ := ref2 Mr cm hr
          have e3' : StWM b n N C (wGood p2 W2) (op + 1) := by
            rcases e3 with ⟨w1, w2, w3, w4⟩ | ⟨w1, _⟩
            · exact Or.inl ⟨rfl, w2, w3, w4⟩
            · exact absurd rfl w1
          obtain ⟨r1, r2, r3⟩ := StWM_in e3'
          obtain ⟨N3, z1, z2, _, z4, _⟩ := sign_m (c := 93) r1 (by decide)
          have z1' : F_X11_sign_99 N 93 = rV N3 := z1
          have z4' := z4 rfl (fun u => absurd (x2.mpr ⟨rfl, u⟩) (by decide))
          exact ⟨_, by rw [e1, z1', cV_s], (e2.tr z2.samM).tr i26, StWM_bad (by decide) z4'.i26⟩
      · obtain ⟨v, M3, x1, x2, x3, x4, x5⟩ := sign_c (c := 93) u2 (by decide)
        have hv : v = false := by
          cases v
          · rfl
          · exact absurd (x2.mp rfl).1 u1
        subst hv
        obtain ⟨M4, k1, k2, k3⟩ := blameNext_c (x5 rfl)
        rw [if_neg u1, if_neg u1] at k2
        have x1' : F_X4_takesSign_1 M2 93 = rI (bb false) M3 := x1
        rw [x1', cI_s, if_pos (by decide), k1, cV_s]
        refine ⟨M4, q1, rfl, (((a2.tr m3).kw.tr c2).tr x3.kw).tr k3.kw, Or.inr ⟨u1, ⟨_, _, k2⟩, (u3.kt x3).kt k3⟩, fun u => absurd u u1, fun Mr cm hr => ?_⟩
        obtain ⟨N, e1, e2, e3⟩ := ref2 Mr cm hr
        rcases e3 with ⟨z1, _⟩ | ⟨z1, pz, z2⟩
        · exact absurd z1 u1
        · exact ⟨_, by rw [e1, signbad_m z2 z1, cV_s], e2.tr i26, Or.inr ⟨z1, pz, z2.i26⟩⟩
  | false =>
    have t1 := m5 rfl
    rw [if_pos (by decide)]
    obtain ⟨M2, o, w1, w2, w3, w4, w5⟩ := plain_s (rc := G_orow g) hc (cc.sm (a2.tr m3).sam) t1 d1 hw (by omega) hn
    rw [w1, cV_s]
    refine ⟨M2, o, rfl, (a2.tr m3).kw.tr w2, w3, fun u => ?_, fun Mr cm hr => ?_⟩
    · obtain ⟨g1, g2, g3, g4, g5, g6⟩ := w4 u
      exact ⟨by omega, g2, g3, g4, g5, g6⟩
    · obtain ⟨N, e1, e2, e3, e4, e5, e6, e7⟩ := refS Mr cm hr
      have hne : ¬ zi (bAt b n (sb b n p)) = 91 := by
        rw [show (91 : Int32) = zi 91 from rfl, zi_eq (by omega) (by omega)]
        intro u
        unfold bAt at u
        by_cases q : sb b n p < n
        · rw [if_pos q] at u
          exact absurd (m2.mpr ⟨rfl, q, by omega⟩) (by decide)
        · rw [if_neg q] at u
          exact absurd u (by decide)
      obtain ⟨N2, y1, y2, y3⟩ := w5 N op e3 (Or.inl ⟨rfl, e4, e5, e6⟩)
      exact ⟨N2, by rw [e1, if_neg hne, y1], e2.tr y2, y3⟩
theorem PT_all {b : Nat → Nat} {n : Nat} {C : Cal} (hc : WFC C) (hn : n ≤ 200) : ∀ g, PT b n C g 0 ∧ PT b n C g 1 ∧ PT b n C g 2
  | 0 => ⟨fun op ho hf => by omega, fun op ho hf => by omega, fun op ho hf => by omega⟩
  | g + 1 => by
    obtain ⟨h0, h1, h2⟩ := PT_all hc hn g
    exact ⟨ptO hn h1, ptJ hn h2, ptS hc hn h0 h2⟩
