/-! wish: plain parts -/
def WOut : Type := Int × Int × Nat × Wsh
def wGood (p : Nat) (W : Wsh) : WOut := (0, -1, p, W)
def wBad (W : Wsh) (f : Int) (g : Nat) : WOut := (f, (g : Int), 0, W)
def StWC (b : Nat → Nat) (n : Nat) (M : PM) (o : WOut) : Prop := (o.1 = 0 ∧ (∃ s, TC b M n o.2.2.1 s 0 (-1)) ∧ DWC M o.2.2.2) ∨ (o.1 ≠ 0 ∧ (∃ p s, TC b M n p s o.1 o.2.1) ∧ WKc M)
def StWM (b : Nat → Nat) (n : Nat) (M : PM) (C : Cal) (o : WOut) (op : Nat) : Prop := (o.1 = 0 ∧ TM b M n o.2.2.1 0 (-1) ∧ DWM M C o.2.2.2 ∧ mI M 99 26 = zi op) ∨ (o.1 ≠ 0 ∧ ∃ p, TM b M n p o.1 o.2.1)
def OKo (C : Cal) (n p : Nat) (W : Wsh) (o : WOut) : Prop := o.1 = 0 → 3 * hN o.2.2.2 + 1 + p ≤ o.2.2.1 + 3 * hN W ∧ hN W ≤ hN o.2.2.2 ∧ (∀ i, i < hN W → hS o.2.2.2 i = hS W i) ∧ hDep o.2.2.2 (hN o.2.2.2) = hDep W (hN W) + 1 ∧ WFd C o.2.2.2 ∧ o.2.2.1 ≤ n
theorem StWC_bad {b : Nat → Nat} {M : PM} {n p s : Nat} {W : Wsh} {f : Int} {g : Nat} (hf : f ≠ 0) (t : TC b M n p s f (g : Int)) (h : WKc M) : StWC b n M (wBad W f g) := Or.inr ⟨hf, ⟨p, s, t⟩, h⟩
theorem StWM_bad {b : Nat → Nat} {M : PM} {n p op : Nat} {C : Cal} {W : Wsh} {f : Int} {g : Nat} (hf : f ≠ 0) (t : TM b M n p f (g : Int)) : StWM b n M C (wBad W f g) op := Or.inr ⟨hf, p, t⟩
theorem OKo_bad {C : Cal} {n p : Nat} {W W' : Wsh} {f : Int} {g : Nat} (hf : f ≠ 0) : OKo C n p W (wBad W' f g) := fun u => absurd u hf
theorem StWM_in {b : Nat → Nat} {M : PM} {n p op : Nat} {C : Cal} {W : Wsh} (h : StWM b n M C (wGood p W) op) : TM b M n p 0 (-1) ∧ DWM M C W ∧ mI M 99 26 = zi op := by
  rcases h with ⟨_, h1, h2, h3⟩ | ⟨h1, _⟩
  · exact ⟨h1, h2, h3⟩
  · exact absurd rfl h1
theorem numW {b : Nat → Nat} {M : PM} {n p s : Nat} {lo hi : Int} (h : TC b M n p s 0 (-1)) (hlo : -2147483648 ≤ lo ∧ lo < 2147483648) (hhi : -2147483648 ≤ hi ∧ hi < 2147483648) : ∃ M', KT M M' ∧ ((nFl b n p lo hi = 0 ∧ F_X4_takeNumber_1 M (zi lo) (zi hi) = rI (zi (nV b n p)) M' ∧ TC b M' n (nE b n p) (sb b n p) 0 (-1)) ∨ (nFl b n p lo hi ≠ 0 ∧ F_X4_takeNumber_1 M (zi lo) (zi hi) = rI (zi (-1)) M' ∧ TC b M' n (nE b n p) (sb b n p) (nFl b n p lo hi) ((sb b n p : Nat) : Int))) := by
  obtain ⟨M1, k, c1 | c1 | c1⟩ := number_c h hlo hhi
  · exact ⟨M1, k, Or.inl ⟨c1.2.1, c1.2.2.1, c1.2.2.2⟩⟩
  · exact ⟨M1, k, Or.inr ⟨c1.2.1, c1.2.2.1, c1.2.2.2⟩⟩
  · exact absurd rfl c1.1
theorem nE_gt {b : Nat → Nat} {n p : Nat} {lo hi : Int} (h : nFl b n p lo hi = 0) : p + 1 ≤ nE b n p := by
  have h1 : p ≤ sb b n p := rn_ge b isBl n p
  have h2 : sb b n p ≤ nE b n p := rn_ge b isDg n (sb b n p)
  have h3 : nE b n p ≠ sb b n p := fun e => by
    unfold nFl at h
    rw [if_pos e] at h
    exact absurd h (by decide)
  omega
theorem OKo_add {C : Cal} {n p p' : Nat} {W : Wsh} {s a c : Nat} (hw : WFd C W) (hs : s < 5) (h3 : 3 * hN W ≤ p) (hn : n ≤ 200) (hp : p + 4 ≤ p') (hpn : p' ≤ n) (hc : cOK C s a c (hDep W (hN W))) : OKo C n p W (wGood p' (addW W s a c)) := fun _ => by
  refine ⟨by show 3 * (hN W + 1) + 1 + p ≤ p' + 3 * hN W; omega, by show hN W ≤ hN W + 1; omega, fun i hi => ?_, ?_, WFd_add hw (by omega) hc, hpn⟩
  · show (if i = hN W then s else hS W i) = hS W i
    rw [if_neg (by omega)]
  · show hDep (addW W s a c) (hN W + 1) = _
    rw [addW_dep1, if_pos hs]
theorem wone_s {b : Nat → Nat} {M : PM} {n p p1 st s : Nat} {hi : Int} {C : Cal} {W : Wsh} (hc : WFC C) (h : TC b M n p1 st 0 (-1)) (hd : DWC M W) (hw : WFd C W) (h3 : 3 * hN W ≤ p) (hp : p + 3 ≤ p1) (hn : n ≤ 200) (hs : s < 5) (hs2 : s ≠ 2) (hhi : -1 ≤ hi ∧ hi ≤ 1000) (hok : ∀ v : Nat, (v : Int) ≤ hi → cOK C s v 0 (hDep W (hN W))) : ∃ M' o, (cI (F_X4_takeNumber_1 M 0 (zi hi)) fun v M1 => cV (F_X7_add_82 M1 (zi s) v 0) fun M2 => some (.inl none, M2)) = rV M' ∧ KWc M M' ∧ StWC b n M' o ∧ OKo C n p W o ∧ ∀ Mr op, StWM b n Mr C (wGood p1 W) op → ∃ Mr', (cI (F_X11_number_99 Mr 0 (zi hi)) fun v M1 => cV (F_X11_says_99 M1 (zi s) v 0) fun M2 => some (.inl none, M2)) = rV Mr' ∧ SamM Mr Mr' ∧ StWM b n Mr' C o op := by
  have hp1 := h.2.2.2.2.2.1
  obtain ⟨M1, k1, ⟨f1, e1, t1⟩ | ⟨f1, e1, t1⟩⟩ := numW (lo := 0) (hi := hi) h (by decide) (by omega)
  · have v1 := nFl_in f1
    have hg := nE_gt f1
    have hEn := t1.2.2.2.2.2.1
    have d1 := hd.kt k1
    have e1' : F_X4_takeNumber_1 M 0 (zi hi) = rI (zi (nV b n p1)) M1 := e1
    refine ⟨adM M1 (hN W) (zi s) (zi (nV b n p1)) (zi 0), wGood (nE b n p1) (addW W s (nV b n p1) 0), ?_, k1.kw.tr adM_kw, Or.inl ⟨rfl, ⟨_, adM_tc t1⟩, adM_dwc (c := 0) d1⟩, OKo_add hw hs h3 hn (by omega) hEn (hok _ v1.2), fun Mr op hr => ?_⟩
    · rw [e1', cI_s, show (0 : Int32) = zi 0 from rfl, adM_s d1.1 (by omega), cV_s]
    · obtain ⟨r1, r2, r3⟩ := StWM_in hr
      obtain ⟨N1, n1, ⟨x1, x2, x3⟩ | ⟨x1, _⟩⟩ := num_m (lo := 0) (hi := hi) r1 (by decide) (by omega)
      · have dm := r2.kr n1
        obtain ⟨N2, y1, y2, y3, y4, y5⟩ := says_m (s := s) (a := nV b n p1) (c := 0) (C := C) (W := W) x3 dm.1 (by rw [rtW_add, if_neg hs2]; exact dm.2.1) dm.2.2 (by omega)
        have x2' : F_X11_number_99 Mr 0 (zi hi) = _ := x2
        have y1' : F_X11_says_99 N1 (zi s) (zi (nV b n p1)) 0 = rV N2 := y1
        rw [x2', cI_s, y1', cV_s]
        exact ⟨N2, rfl, n1.samM.tr y2, Or.inl ⟨rfl, y3, y4, y5.trans ((n1.1 99 26 (by decide)).trans r3)⟩⟩
      · exact absurd f1 x1
  · obtain ⟨M2, a1, a2, a3, a4⟩ := addF (x := zi s) (y := zi (-1)) (z := 0) t1 ((hd.wk hw).kt k1) (fun e => by
      rw [zi_eq (by omega) (by omega)] at e
      omega)
    have e1' : F_X4_takeNumber_1 M 0 (zi hi) = rI (zi (-1)) M1 := e1
    refine ⟨M2, wBad W (nFl b n p1 0 hi) (sb b n p1), ?_, k1.kw.tr a2, StWC_bad f1 a3 a4, OKo_bad f1, fun Mr op hr => ?_⟩
    · rw [e1', cI_s, a1, cV_s]
    · obtain ⟨r1, r2, r3⟩ := StWM_in hr
      obtain ⟨N1, n1, ⟨x1, _⟩ | ⟨x1, x2, x3⟩⟩ := num_m (lo := 0) (hi := hi) r1 (by decide) (by omega)
      · exact absurd x1 f1
      · have x2' : F_X11_number_99 Mr 0 (zi hi) = _ := x2
        rw [x2', cI_s, saysF x3 f1, cV_s]
        exact ⟨N1, rfl, n1.samM, StWM_bad f1 x3⟩
theorem whouse_s {b : Nat → Nat} {M : PM} {n p p1 st : Nat} {C : Cal} {W : Wsh} (hc : WFC C) (h : TC b M n p1 st 0 (-1)) (hd : DWC M W) (hw : WFd C W) (h3 : 3 * hN W ≤ p) (hp : p + 3 ≤ p1) (hn : n ≤ 200) (h44 : mI M 4 4 = zi (cN C)) : ∃ M' o, (cI (F_X4_takeNumber_1 M 0 (zi ((cH C : Int) - 1))) fun v190 M189 => (if v190 = (-1) then some (.inl none, M189) else cI (F_X4_takeNumber_1 M189 0 ((mI M189 4 4) - 1)) fun v192 M191 => cV (F_X7_add_82 M191 3 v190 v192) fun M193 => some (.inl none, M193))) = rV M' ∧ KWc M M' ∧ StWC b n M' o ∧ OKo C n p W o ∧ ∀ Mr op, CalM Mr C → StWM b n Mr C (wGood p1 W) op → ∃ Mr', (cI (F_X11_number_99 Mr 0 (zi ((cH C : Int) - 1))) fun v1114 M1113 => if ixOK 0 6 = true then cI (F_X11_number_99 M1113 0 ((mA M1113 103 (0 : Int32).toNatClampNeg) - 1)) fun v1116 M1115 => cV (F_X11_says_99 M1115 3 v1114 v1116) fun M1117 => some (.inl none, M1117) else none) = rV Mr' ∧ SamM Mr Mr' ∧ StWM b n Mr' C o op := by
  have hcn := hc.1
  have N1e : (-1 : Int32) = zi (-1) := rfl
  obtain ⟨M1, k1, ⟨f1, e1, t1⟩ | ⟨f1, e1, t1⟩⟩ := numW (lo := 0) (hi := (cH C : Int) - 1) h (by decide) (by omega)
  · have v1 := nFl_in f1
    have hg := nE_gt f1
    have d1 := hd.kt k1
    have m44 : mI M1 4 4 = zi (cN C) := (k1.1 4 4 (by decide)).trans h44
    have e1' : F_X4_takeNumber_1 M 0 (zi ((cH C : Int) - 1)) = _ := e1
    rw [e1', cI_s, N1e, if_neg (by rw [zi_eq (by omega) (by omega)]; omega), m44, show (1 : Int32) = zi 1 from rfl, zi_sub]
    obtain ⟨M2, k2, ⟨f2, e2, t2⟩ | ⟨f2, e2, t2⟩⟩ := numW (lo := 0) (hi := (cN C : Int) - 1) t1 (by decide) (by omega)
    · have v2 := nFl_in f2
      have hg2 := nE_gt f2
      have hEn := t2.2.2.2.2.2.1
      have d2 := d1.kt k2
      have e2' : F_X4_takeNumber_1 M1 0 (zi ((cN C : Int) - 1)) = _ := e2
      refine ⟨adM M2 (hN W) (zi 3) (zi (nV b n p1)) (zi (nV b n (nE b n p1))), wGood (nE b n (nE b n p1)) (addW W 3 (nV b n p1) (nV b n (nE b n p1))), ?_, (k1.tr k2).kw.tr adM_kw, Or.inl ⟨rfl, ⟨_, adM_tc t2⟩, adM_dwc (s := 3) d2⟩, OKo_add hw (by decide) h3 hn (by omega) hEn ⟨by decide, fun u => absurd u (by decide), fun u => absurd u (by decide), fun u => absurd u (by decide), fun _ => ⟨by omega, by omega⟩, fun u => absurd u (by decide), fun u => absurd u (by decide), fun u => absurd u (by decide)⟩, fun Mr op cm hr => ?_⟩
      · rw [e2', cI_s, show (3 : Int32) = zi 3 from rfl, adM_s d2.1 (by omega), cV_s]
      · obtain ⟨r1, r2, r3⟩ := StWM_in hr
        obtain ⟨Q1, n1, ⟨x1, x2, x3⟩ | ⟨x1, _⟩⟩ := num_m (lo := 0) (hi := (cH C : Int) - 1) r1 (by decide) (by omega)
        · have c103 : mA Q1 103 0 = zi (cN C) := (show mA Q1 103 0 = mA Mr 103 0 by rw [mA, mA, n1.2]).trans cm.1.1
          obtain ⟨Q2, n2, ⟨y1, y2, y3⟩ | ⟨y1, _⟩⟩ := num_m (lo := 0) (hi := (cN C : Int) - 1) x3 (by decide) (by omega)
          · have dm := (r2.kr n1).kr n2
            obtain ⟨Q3, w1, w2, w3, w4, w5⟩ := says_m (s := 3) (a := nV b n p1) (c := nV b n (nE b n p1)) (C := C) (W := W) y3 dm.1 (by rw [rtW_add, if_neg (by decide)]; exact dm.2.1) dm.2.2 (by omega)
            have x2' : F_X11_number_99 Mr 0 (zi ((cH C : Int) - 1)) = _ := x2
            have y2' : F_X11_number_99 Q1 0 (zi ((cN C : Int) - 1)) = _ := y2
            have w1' : F_X11_says_99 Q2 3 (zi (nV b n p1)) (zi (nV b n (nE b n p1))) = rV Q3 := w1
            rw [x2', cI_s, if_pos (by decide), show (0 : Int32).toNatClampNeg = 0 from by decide, c103, zi_sub, y2', cI_s, w1', cV_s]
            exact ⟨Q3, rfl, (n1.tr n2).samM.tr w2, Or.inl ⟨rfl, w3, w4, w5.trans ((n2.1 99 26 (by decide)).trans ((n1.1 99 26 (by decide)).trans r3))⟩⟩
          · exact absurd f2 y1
        · exact absurd f1 x1
    · have e2' : F_X4_takeNumber_1 M1 0 (zi ((cN C : Int) - 1)) = _ := e2
      obtain ⟨M3, a1, a2, a3, a4⟩ := addF (x := 3) (y := zi (nV b n p1)) (z := zi (-1)) t2 (((hd.wk hw).kt k1).kt k2) (fun e => absurd e (by decide))
      refine ⟨M3, wBad W (nFl b n (nE b n p1) 0 ((cN C : Int) - 1)) (sb b n (nE b n p1)), ?_, (k1.tr k2).kw.tr a2, StWC_bad f2 a3 a4, OKo_bad f2, fun Mr op cm hr => ?_⟩
      · rw [e2', cI_s, a1, cV_s]
      · obtain ⟨r1, r2, r3⟩ := StWM_in hr
        obtain ⟨Q1, n1, ⟨x1, x2, x3⟩ | ⟨x1, _⟩⟩ := num_m (lo := 0) (hi := (cH C : Int) - 1) r1 (by decide) (by omega)
        · have c103 : mA Q1 103 0 = zi (cN C) := (show mA Q1 103 0 = mA Mr 103 0 by rw [mA, mA, n1.2]).trans cm.1.1
          obtain ⟨Q2, n2, ⟨y1, _⟩ | ⟨y1, y2, y3⟩⟩ := num_m (lo := 0) (hi := (cN C : Int) - 1) x3 (by decide) (by omega)
          · exact absurd y1 f2
          · have x2' : F_X11_number_99 Mr 0 (zi ((cH C : Int) - 1)) = _ := x2
            have y2' : F_X11_number_99 Q1 0 (zi ((cN C : Int) - 1)) = _ := y2
            rw [x2', cI_s, if_pos (by decide), show (0 : Int32).toNatClampNeg = 0 from by decide, c103, zi_sub, y2', cI_s, saysF y3 f2, cV_s]
            exact ⟨Q2, rfl, (n1.tr n2).samM, StWM_bad f2 y3⟩
        · exact absurd f1 x1
  · have e1' : F_X4_takeNumber_1 M 0 (zi ((cH C : Int) - 1)) = _ := e1
    refine ⟨M1, wBad W (nFl b n p1 0 ((cH C : Int) - 1)) (sb b n p1), ?_, k1.kw, StWC_bad f1 t1 ((hd.wk hw).kt k1), OKo_bad f1, fun Mr op cm hr => ?_⟩
    · rw [e1', cI_s, if_pos (show zi (-1) = -1 from rfl)]
    · obtain ⟨r1, r2, r3⟩ := StWM_in hr
      obtain ⟨Q1, n1, ⟨x1, _⟩ | ⟨x1, x2, x3⟩⟩ := num_m (lo := 0) (hi := (cH C : Int) - 1) r1 (by decide) (by omega)
      · exact absurd x1 f1
      · have x2' : F_X11_number_99 Mr 0 (zi ((cH C : Int) - 1)) = _ := x2
        rw [x2', cI_s, if_pos (by decide), numbad_m x3 f1, cI_s, saysF x3 f1, cV_s]
        exact ⟨Q1, rfl, n1.samM, StWM_bad f1 x3⟩
theorem TM.i28 {b : Nat → Nat} {M : PM} {n p : Nat} {f g : Int} {x : Int32} (h : TM b M n p f g) : TM b (sI M 99 28 x) n p f g := h.kp (fun k _ _ => rI_nk (by omega)) rfl
theorem wday_s {b : Nat → Nat} {M : PM} {n p p1 st : Nat} {C : Cal} {W : Wsh} {rc : Nat → PM → Option PR} (hc : WFC C) (h : TC b M n p1 st 0 (-1)) (hd : DWC M W) (hw : WFd C W) (h3 : 3 * hN W ≤ p) (hp : p + 3 ≤ p1) (hn : n ≤ 200) : ∃ M' o, (cI (F_X4_takeNumber_1 M 2 99) fun v195 M194 => (if v195 = (-1) then some (.inl none, M194) else cI (F_X4_takeNumber_1 M194 0 (v195 - 1)) fun v197 M196 => cV (F_X7_add_82 M196 2 v195 v197) fun M198 => some (.inl none, M198))) = rV M' ∧ KWc M M' ∧ StWC b n M' o ∧ OKo C n p W o ∧ ∀ Mr op, StWM b n Mr C (wGood p1 W) op → ∃ Mr', (cI (F_X11_number_99 Mr 2 99) fun v1119 M1118 => cI (F_X11_number_99 M1118 0 (v1119 - 1)) fun v1121 M1120 => (if v1119 = 0 then F_X11_one_99_232 rc M1120 v1119 v1121 (mI M1120 99 28) 1 else F_X11_one_99_232 rc M1120 v1119 v1121 (mI M1120 99 28) v1119)) = rV Mr' ∧ SamM Mr Mr' ∧ StWM b n Mr' C o op := by
  have N1e : (-1 : Int32) = zi (-1) := rfl
  have rr := rtW_rng (W := W) hc (hN W) (WFd_day hw)
  have s28 : ∀ (M : PM) (x : Int32), SamM M (sI M 99 28 x) := fun M x => ⟨Sam.i 99 28 x (by decide) Sam.rf, rI_nk (by decide)⟩
  obtain ⟨M1, k1, ⟨f1, e1, t1⟩ | ⟨f1, e1, t1⟩⟩ := numW (lo := 2) (hi := 99) h (by decide) (by decide)
  · have v1 := nFl_in f1
    have hg := nE_gt f1
    have d1 := hd.kt k1
    have e1' : F_X4_takeNumber_1 M 2 99 = _ := e1
    rw [e1', cI_s, N1e, if_neg (by rw [zi_eq (by omega) (by omega)]; omega), show (1 : Int32) = zi 1 from rfl, zi_sub]
    obtain ⟨M2, k2, ⟨f2, e2, t2⟩ | ⟨f2, e2, t2⟩⟩ := numW (lo := 0) (hi := (nV b n p1 : Int) - 1) t1 (by decide) (by omega)
    · have v2 := nFl_in f2
      have hg2 := nE_gt f2
      have hEn := t2.2.2.2.2.2.1
      have d2 := d1.kt k2
      have e2' : F_X4_takeNumber_1 M1 0 (zi ((nV b n p1 : Int) - 1)) = _ := e2
      refine ⟨adM M2 (hN W) (zi 2) (zi (nV b n p1)) (zi (nV b n (nE b n p1))), wGood (nE b n (nE b n p1)) (addW W 2 (nV b n p1) (nV b n (nE b n p1))), ?_, (k1.tr k2).kw.tr adM_kw, Or.inl ⟨rfl, ⟨_, adM_tc t2⟩, adM_dwc (s := 2) d2⟩, OKo_add hw (by decide) h3 hn (by omega) hEn ⟨by decide, fun u => absurd u (by decide), fun u => absurd u (by decide), fun _ => ⟨by omega, by omega⟩, fun u => absurd u (by decide), fun u => absurd u (by decide), fun u => absurd u (by decide), fun u => absurd u (by decide)⟩, fun Mr op hr => ?_⟩
      · rw [e2', cI_s, show (2 : Int32) = zi 2 from rfl, adM_s d2.1 (by omega), cV_s]
      · obtain ⟨r1, r2, r3⟩ := StWM_in hr
        obtain ⟨Q1, n1, ⟨x1, x2, x3⟩ | ⟨x1, _⟩⟩ := num_m (lo := 2) (hi := 99) r1 (by decide) (by decide)
        · obtain ⟨Q2, n2, ⟨y1, y2, y3⟩ | ⟨y1, _⟩⟩ := num_m (lo := 0) (hi := (nV b n p1 : Int) - 1) x3 (by decide) (by omega)
          · have dm := (r2.kr n1).kr n2
            have eb := both_m (M := Q2) (a := rtW C W (hN W)) (w := nV b n p1) rr (by omega)
            obtain ⟨Q3, w1, w2, w3, w4, w5⟩ := says_m (M := sI Q2 99 28 (zi (if 100000 < rtW C W (hN W) then rtW C W (hN W) else if 100000 < Nat.lcm (rtW C W (hN W)) (nV b n p1) then 100001 else Nat.lcm (rtW C W (hN W)) (nV b n p1) : Nat))) (s := 2) (a := nV b n p1) (c := nV b n (nE b n p1)) (C := C) (W := W) y3.i28 ((rI_nk (by decide)).trans dm.1) (by rw [rtW_add, if_pos rfl]; exact rI_at) dm.2.2 (by omega)
            have x2' : F_X11_number_99 Mr 2 99 = _ := x2
            have y2' : F_X11_number_99 Q1 0 (zi ((nV b n p1 : Int) - 1)) = _ := y2
            have w1' : F_X11_says_99 (sI Q2 99 28 (zi (if 100000 < rtW C W (hN W) then rtW C W (hN W) else if 100000 < Nat.lcm (rtW C W (hN W)) (nV b n p1) then 100001 else Nat.lcm (rtW C W (hN W)) (nV b n p1) : Nat))) 2 (zi (nV b n p1)) (zi (nV b n (nE b n p1))) = rV Q3 := w1
            rw [x2', cI_s, zi_sub, y2', cI_s, if_neg (by rw [show (0 : Int32) = zi 0 from rfl, zi_eq (by omega) (by omega)]; omega)]
            unfold F_X11_one_99_232
            rw [dm.2.1, eb, cI_s, w1', cV_s]
            exact ⟨Q3, rfl, ((n1.tr n2).samM.tr (s28 _ _)).tr w2, Or.inl ⟨rfl, w3, w4, w5.trans ((rI_nk (by decide)).trans ((n2.1 99 26 (by decide)).trans ((n1.1 99 26 (by decide)).trans r3)))⟩⟩
          · exact absurd f2 y1
        · exact absurd f1 x1
    · have e2' : F_X4_takeNumber_1 M1 0 (zi ((nV b n p1 : Int) - 1)) = _ := e2
      obtain ⟨M3, a1, a2, a3, a4⟩ := addF (x := 2) (y := zi (nV b n p1)) (z := zi (-1)) t2 (((hd.wk hw).kt k1).kt k2) (fun _ => ⟨nV b n p1, by omega, by omega, rfl⟩)
      refine ⟨M3, wBad W (nFl b n (nE b n p1) 0 ((nV b n p1 : Int) - 1)) (sb b n (nE b n p1)), ?_, (k1.tr k2).kw.tr a2, StWC_bad f2 a3 a4, OKo_bad f2, fun Mr op hr => ?_⟩
      · rw [e2', cI_s, a1, cV_s]
      · obtain ⟨r1, r2, r3⟩ := StWM_in hr
        obtain ⟨Q1, n1, ⟨x1, x2, x3⟩ | ⟨x1, _⟩⟩ := num_m (lo := 2) (hi := 99) r1 (by decide) (by decide)
        · obtain ⟨Q2, n2, ⟨y1, _⟩ | ⟨y1, y2, y3⟩⟩ := num_m (lo := 0) (hi := (nV b n p1 : Int) - 1) x3 (by decide) (by omega)
          · exact absurd y1 f2
          · have dm : mI Q2 99 28 = zi (rtW C W (hN W)) := (n2.1 99 28 (by decide)).trans ((n1.1 99 28 (by decide)).trans r2.2.1)
            have eb := both_m (M := Q2) (a := rtW C W (hN W)) (w := nV b n p1) rr (by omega)
            have x2' : F_X11_number_99 Mr 2 99 = _ := x2
            have y2' : F_X11_number_99 Q1 0 (zi ((nV b n p1 : Int) - 1)) = _ := y2
            rw [x2', cI_s, zi_sub, y2', cI_s, if_neg (by rw [show (0 : Int32) = zi 0 from rfl, zi_eq (by omega) (by omega)]; omega)]
            unfold F_X11_one_99_232
            rw [dm, eb, cI_s, saysF y3.i28 f2, cV_s]
            exact ⟨_, rfl, (n1.tr n2).samM.tr (s28 _ _), StWM_bad f2 y3.i28⟩
        · exact absurd f1 x1
  · have e1' : F_X4_takeNumber_1 M 2 99 = _ := e1
    refine ⟨M1, wBad W (nFl b n p1 2 99) (sb b n p1), ?_, k1.kw, StWC_bad f1 t1 ((hd.wk hw).kt k1), OKo_bad f1, fun Mr op hr => ?_⟩
    · rw [e1', cI_s, if_pos (show zi (-1) = -1 from rfl)]
    · obtain ⟨r1, r2, r3⟩ := StWM_in hr
      obtain ⟨Q1, n1, ⟨x1, _⟩ | ⟨x1, x2, x3⟩⟩ := num_m (lo := 2) (hi := 99) r1 (by decide) (by decide)
      · exact absurd x1 f1
      · have dm : mI Q1 99 28 = zi (rtW C W (hN W)) := (n1.1 99 28 (by decide)).trans r2.2.1
        have eb := both_m (M := Q1) (a := rtW C W (hN W)) (w := 1) rr (by decide)
        have eb' : F_X11_both Q1 (zi (rtW C W (hN W))) 1 = _ := eb
        have x2' : F_X11_number_99 Mr 2 99 = _ := x2
        rw [x2', cI_s, numbad_m x3 f1, cI_s, if_pos (show zi 0 = 0 from rfl)]
        unfold F_X11_one_99_232
        rw [dm, eb', cI_s, saysF x3.i28 f1, cV_s]
        exact ⟨_, rfl, n1.samM.tr (s28 _ _), StWM_bad f1 x3.i28⟩
