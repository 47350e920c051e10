/-! calendar: what the class and the reference hold at the end -/
def S00 (A : Nat → Nat → Nat) : Sta := (A, (0, fun _ => 0, fun _ => 0, fun _ => false), (0, fun _ => 0, fun _ => 0, fun _ => 0, fun _ => false), (0, fun _ => 0, fun _ => 0))
def W00 : Wsh := (0, fun _ => 0, fun _ => 0, fun _ => 0)
theorem cpy_in {M : PM} {q1 q2 n k : Nat} (h : k < n) : mA (cA M q1 q2 0 0 n) q2 k = mA M q1 k := by
  show (u1 M.2.2.1 q2 (va_cpy (M.2.2.1 q1) (M.2.2.1 q2) 0 0 n)) q2 k = _
  rw [u1, if_pos rfl, va_cpy, if_pos (by omega), Nat.zero_add]
  rfl
theorem cpy_ne {M : PM} {q1 q2 p1 p2 n q : Nat} (h : q ≠ q2) : (cA M q1 q2 p1 p2 n).2.2.1 q = M.2.2.1 q := u1_ne h
/-- what both leave of the rest when the class has taken a calendar over -/
def KpZ (M M' : PM) : Prop := (∀ k, 6 ≤ k → M'.1 0 k = M.1 0 k) ∧ (∀ k, M'.1 1 k = M.1 1 k) ∧ (∀ k, M'.1 99 k = M.1 99 k) ∧ ∀ q, 99 ≤ q → M'.2.2.1 q = M.2.2.1 q
theorem calC_s {M : PM} {C : Cal} {A : Nat → Nat → Nat} (hd : DC M C A) (hw : WFD C A) (h4 : mI M 29 6 = zi (t4 C)) (h5 : mI M 29 7 = zi (t5 C)) (ht : t5 C ≤ 100000) : ∃ M', (cV (F_X0_copy_3_29 M) fun M174 => cV (F_X7_clear_76 M174) fun M175 => cV (F_X3_begin_16_3 M175) fun M176 => some (.inl (some (.int (mI (sI M176 0 5 0) 4 4))), sI M176 0 5 0)) = rI (zi (cN C)) M' ∧ CalC M' C ∧ StaC M' C (S00 A) 16 ∧ WisC M' C W00 ∧ mI M' 0 5 = zi 0 ∧ KpZ M M' := by
  have hc := WFD_C hw ht
  have hK := hw.1.2.2.2
  have hH := hw.1.2.2.1
  obtain ⟨M1, a1, a2, a3⟩ := copy4a hd hw
  obtain ⟨M2, b1, b2, b3, b4⟩ := copy4b hc a3
  have k2 := a2.tr b2
  have d2 : DC M2 C A := by
    obtain ⟨h1, h2, h3, h4, h5⟩ := hd
    have ea : ∀ q i, q ≠ 5 → q ≠ 6 → q ≠ 8 → mA M2 q i = mA M q i := fun q i x y z => congrFun (k2.2.1 q x y z) i
    exact ⟨⟨(k2.1 30 4 (by decide)).trans h1.1, (k2.1 35 4 (by decide)).trans h1.2.1, (k2.1 29 4 (by decide)).trans h1.2.2.1, (k2.1 29 5 (by decide)).trans h1.2.2.2⟩, fun l hl => ⟨(ea 31 l (by decide) (by decide) (by decide)).trans (h2 l hl).1, (ea 32 l (by decide) (by decide) (by decide)).trans (h2 l hl).2⟩, fun l hl => ⟨(ea 36 l (by decide) (by decide) (by decide)).trans (h3 l hl).1, (ea 37 l (by decide) (by decide) (by decide)).trans (h3 l hl).2⟩, fun i hi => (ea 41 i (by decide) (by decide) (by decide)).trans (h4 i hi), fun h' l x y => (ea 40 _ (by decide) (by decide) (by decide)).trans (h5 h' l x y)⟩
  obtain ⟨M3, c1, c2, c3⟩ := copy9a d2 hw
  obtain ⟨M4, e1, e2, e3⟩ := copy9b hc c3
  have k4 := c2.tr e2
  have i2 : ∀ q k, q ≠ 4 → q ≠ 9 → mI M4 q k = mI M q k := fun q k x y => (k4.1 q k y).trans (k2.1 q k x)
  have ar : ∀ q i, q ≠ 5 → q ≠ 6 → q ≠ 8 → q ≠ 10 → q ≠ 11 → q ≠ 13 → mA M4 q i = mA M q i := fun q i x1 x2 x3 x4 x5 x6 => (congrFun (k4.2.1 q x4 x5 x6) i).trans (congrFun (k2.2.1 q x1 x2 x3) i)
  have z0 : (0 : Int32).toNatClampNeg = 0 := by decide
  have z120 : (120 : Int32).toNatClampNeg = 120 := by decide
  have z3 : (3 : Int32).toNatClampNeg = 3 := by decide
  unfold F_X0_copy_3_29
  rw [a1, b1, cV_s, c1, e1, cV_s, if_pos (by decide), if_pos (by decide), z0, z120, z3, lt_z, lt_z, cV_s]
  unfold F_X7_clear_76
  rw [if_pos (by decide), cV_s]
  unfold F_X3_begin_16_3
  rw [if_pos (by decide), cV_s, z0, z120]
  have g4 : mI M4 4 4 = zi (cN C) := (k4.1 4 4 (by decide)).trans b3.1
  have g9 : mI M4 9 4 = zi (oN C) := e3.1
  have g3 : mI M4 29 4 = zi (cH C) := (i2 29 4 (by decide) (by decide)).trans hd.1.2.2.1
  have g5 : mI M4 29 5 = zi (cK C) := (i2 29 5 (by decide) (by decide)).trans hd.1.2.2.2
  have g6 : mI M4 29 6 = zi (t4 C) := (i2 29 6 (by decide) (by decide)).trans h4
  have g7 : mI M4 29 7 = zi (t5 C) := (i2 29 7 (by decide) (by decide)).trans h5
  generalize hX : cA (cA M4 40 14 0 0 120) 41 15 0 0 3 = X
  have x1 : X.1 = M4.1 := by rw [← hX]; rfl
  have xB : X.2.2.2.1 = M4.2.2.2.1 := by rw [← hX]; rfl
  have x14 : ∀ i, i < 120 → mA X 14 i = mA M4 40 i := fun i hi => by
    rw [← hX]
    exact (congrFun (cpy_ne (by decide) : (cA (cA M4 40 14 0 0 120) 41 15 0 0 3).2.2.1 14 = (cA M4 40 14 0 0 120).2.2.1 14) i).trans (cpy_in hi)
  have x15 : ∀ i, i < 3 → mA X 15 i = mA M4 41 i := fun i hi => by
    rw [← hX]
    exact (cpy_in hi).trans (congrFun (cpy_ne (by decide) : (cA M4 40 14 0 0 120).2.2.1 41 = M4.2.2.1 41) i)
  have xr : ∀ q, q ≠ 14 → q ≠ 15 → X.2.2.1 q = M4.2.2.1 q := fun q h1 h2 => by
    rw [← hX]
    exact (cpy_ne h2).trans (cpy_ne h1)
  have X29 : ∀ k, X.1 29 k = M4.1 29 k := fun k => by rw [x1]
  generalize hY : sI (sI (sI (sI X 3 4 (mI X 29 4)) 3 5 (mI (sI X 3 4 (mI X 29 4)) 29 5)) 3 6 (mI (sI (sI X 3 4 (mI X 29 4)) 3 5 (mI (sI X 3 4 (mI X 29 4)) 29 5)) 29 6)) 3 7 (mI (sI (sI (sI X 3 4 (mI X 29 4)) 3 5 (mI (sI X 3 4 (mI X 29 4)) 29 5)) 3 6 (mI (sI (sI X 3 4 (mI X 29 4)) 3 5 (mI (sI X 3 4 (mI X 29 4)) 29 5)) 29 6)) 29 7) = Y
  have y34 : mI Y 3 4 = zi (cH C) := by rw [← hY]; exact (X29 4).trans g3
  have y35 : mI Y 3 5 = zi (cK C) := by rw [← hY]; exact (X29 5).trans g5
  have y36 : mI Y 3 6 = zi (t4 C) := by rw [← hY]; exact (X29 6).trans g6
  have y37 : mI Y 3 7 = zi (t5 C) := by rw [← hY]; exact (X29 7).trans g7
  have yr : ∀ q k, q ≠ 3 → mI Y q k = mI M4 q k := fun q k hq => by
    rw [← hY]
    exact ((rI_ne hq).trans ((rI_ne hq).trans ((rI_ne hq).trans (rI_ne hq)))).trans (by rw [x1])
  have y2 : Y.2 = X.2 := by rw [← hY]; rfl
  generalize hZ : sI (sI (sI Y 76 7 0) 76 8 0) 76 9 (mI (sI (sI Y 76 7 0) 76 8 0) 3 7) = Z
  have z767 : mI Z 76 7 = zi 0 := by rw [← hZ]; rfl
  have z768 : mI Z 76 8 = zi 0 := by rw [← hZ]; rfl
  have z769 : mI Z 76 9 = zi (t5 C) := by rw [← hZ]; exact y37
  have zr : ∀ q k, q ≠ 76 → mI Z q k = mI Y q k := fun q k hq => by
    rw [← hZ]
    exact (rI_ne hq).trans ((rI_ne hq).trans (rI_ne hq))
  have zz2 : Z.2 = X.2 := by rw [← hZ]; exact y2
  have f1 : ∀ q k, q ≠ 0 → q ≠ 16 → mI (sI (sI (sI (sI (cA Z 14 17 0 0 120) 16 4 0) 16 9 0) 16 12 0) 0 5 0) q k = mI Z q k := fun q k h0 h16 => (rI_ne h0).trans ((rI_ne h16).trans ((rI_ne h16).trans (rI_ne h16)))
  have f0 : ∀ k, k ≠ 5 → mI (sI (sI (sI (sI (cA Z 14 17 0 0 120) 16 4 0) 16 9 0) 16 12 0) 0 5 0) 0 k = mI Z 0 k := fun k hk => (rI_nk hk).trans ((rI_ne (by decide)).trans ((rI_ne (by decide)).trans (rI_ne (by decide))))
  have fa : ∀ q, q ≠ 17 → (sI (sI (sI (sI (cA Z 14 17 0 0 120) 16 4 0) 16 9 0) 16 12 0) 0 5 0).2.2.1 q = X.2.2.1 q := fun q hq => (cpy_ne hq : (cA Z 14 17 0 0 120).2.2.1 q = Z.2.2.1 q).trans (by rw [zz2])
  have fB : (sI (sI (sI (sI (cA Z 14 17 0 0 120) 16 4 0) 16 9 0) 16 12 0) 0 5 0).2.2.2.1 = M4.2.2.2.1 := by
    show Z.2.2.2.1 = _
    rw [zz2, xB]
  have f17 : ∀ i, i < 120 → mA (sI (sI (sI (sI (cA Z 14 17 0 0 120) 16 4 0) 16 9 0) 16 12 0) 0 5 0) 17 i = mA M4 40 i := fun i hi => (cpy_in hi : mA (cA Z 14 17 0 0 120) 17 i = mA Z 14 i).trans ((show mA Z 14 i = mA X 14 i by rw [mA, mA, zz2]).trans (x14 i hi))
  have f164 : mI (sI (sI (sI (sI (cA Z 14 17 0 0 120) 16 4 0) 16 9 0) 16 12 0) 0 5 0) 16 4 = zi 0 := rfl
  have f169 : mI (sI (sI (sI (sI (cA Z 14 17 0 0 120) 16 4 0) 16 9 0) 16 12 0) 0 5 0) 16 9 = zi 0 := rfl
  have f1612 : mI (sI (sI (sI (sI (cA Z 14 17 0 0 120) 16 4 0) 16 9 0) 16 12 0) 0 5 0) 16 12 = zi 0 := rfl
  have f05 : mI (sI (sI (sI (sI (cA Z 14 17 0 0 120) 16 4 0) 16 9 0) 16 12 0) 0 5 0) 0 5 = zi 0 := rfl
  generalize sI (sI (sI (sI (cA Z 14 17 0 0 120) 16 4 0) 16 9 0) 16 12 0) 0 5 0 = R at *
  have R44 : mI R 4 4 = zi (cN C) := (f1 4 4 (by decide) (by decide)).trans ((zr 4 4 (by decide)).trans ((yr 4 4 (by decide)).trans g4))
  have lawA : ∀ q, q ≠ 17 → q ≠ 14 → q ≠ 15 → R.2.2.1 q = M4.2.2.1 q := fun q h1 h2 h3 => (fa q h1).trans (xr q h2 h3)
  refine ⟨R, by rw [R44], ?_, ?_, ?_, f05, ?_, ?_, ?_, ?_⟩
  · refine ⟨⟨R44, fun l hl => (congrFun (lawA 5 (by decide) (by decide) (by decide)) l).trans ((congrFun (k4.2.1 5 (by decide) (by decide) (by decide)) l).trans (b3.2.1 l hl)), fun l hl => (congrFun (lawA 6 (by decide) (by decide) (by decide)) l).trans ((congrFun (k4.2.1 6 (by decide) (by decide) (by decide)) l).trans (b3.2.2.1 l hl)), fun l hl => ?_⟩, ⟨(f1 9 4 (by decide) (by decide)).trans ((zr 9 4 (by decide)).trans ((yr 9 4 (by decide)).trans g9)), fun l hl => (congrFun (lawA 10 (by decide) (by decide) (by decide)) l).trans (e3.2.1 l hl), fun l hl => (congrFun (lawA 11 (by decide) (by decide) (by decide)) l).trans (e3.2.2.1 l hl), fun l hl => ?_⟩, fun l hl => (congrFun (lawA 8 (by decide) (by decide) (by decide)) l).trans ((congrFun (k4.2.1 8 (by decide) (by decide) (by decide)) l).trans (b4 l hl)), ⟨(f1 3 4 (by decide) (by decide)).trans ((zr 3 4 (by decide)).trans y34), (f1 3 5 (by decide) (by decide)).trans ((zr 3 5 (by decide)).trans y35), (f1 3 6 (by decide) (by decide)).trans ((zr 3 6 (by decide)).trans y36), (f1 3 7 (by decide) (by decide)).trans ((zr 3 7 (by decide)).trans y37)⟩, fun i hi => (congrFun (fa 15 (by decide)) i).trans ((x15 i (by omega)).trans ((ar 41 i (by decide) (by decide) (by decide) (by decide) (by decide) (by decide)).trans (hd.2.2.2.1 i hi)))⟩
    · show EvB (R.2.2.2.1 7 l) _
      rw [fB, k4.2.2.1 7 (by decide)]
      exact b3.2.2.2 l hl
    · show EvB (R.2.2.2.1 12 l) _
      rw [fB]
      exact e3.2.2.2 l hl
  · refine ⟨fun h l h1 h2 => ?_, ⟨f164, f169, f1612⟩, fun i hi => absurd hi (Nat.not_lt_zero i), fun i hi => absurd hi (Nat.not_lt_zero i), fun i hi => absurd hi (Nat.not_lt_zero i)⟩
    show mA R 17 (h * 12 + l) = zi (A h l)
    exact (f17 _ (by omega)).trans ((ar 40 _ (by decide) (by decide) (by decide) (by decide) (by decide) (by decide)).trans (hd.2.2.2.2 h l (by omega) h2))
  · refine ⟨(f1 76 7 (by decide) (by decide)).trans z767, (f1 76 8 (by decide) (by decide)).trans z768, (f1 76 9 (by decide) (by decide)).trans z769, fun i hi => absurd hi (Nat.not_lt_zero i)⟩
  · exact fun k hk => (f0 k (by omega)).trans ((zr 0 k (by decide)).trans ((yr 0 k (by decide)).trans (i2 0 k (by decide) (by decide))))
  · exact fun k => (f1 1 k (by decide) (by decide)).trans ((zr 1 k (by decide)).trans ((yr 1 k (by decide)).trans (i2 1 k (by decide) (by decide))))
  · exact fun k => (f1 99 k (by decide) (by decide)).trans ((zr 99 k (by decide)).trans ((yr 99 k (by decide)).trans (i2 99 k (by decide) (by decide))))
  · exact fun q hq => (lawA q (by omega) (by omega) (by omega)).trans ((k4.2.1 q (by omega) (by omega) (by omega)).trans (k2.2.1 q (by omega) (by omega) (by omega)))
/-! the reference -/
def KY (M M' : PM) : Prop := (∀ q k, q < 99 → M'.1 q k = M.1 q k) ∧ (∀ q, q < 99 → M'.2.2.1 q = M.2.2.1 q) ∧ M'.2.2.2.1 = M.2.2.2.1 ∧ (∀ k, k ≤ 3 → M'.1 99 k = M.1 99 k) ∧ M'.2.2.1 101 = M.2.2.1 101
theorem KY.tr {M M1 M2 : PM} (h : KY M M1) (g : KY M1 M2) : KY M M2 := ⟨fun q k hq => (g.1 q k hq).trans (h.1 q k hq), fun q hq => (g.2.1 q hq).trans (h.2.1 q hq), g.2.2.1.trans h.2.2.1, fun k hk => (g.2.2.2.1 k hk).trans (h.2.2.2.1 k hk), g.2.2.2.2.trans h.2.2.2.2⟩
theorem KY.rf {M : PM} : KY M M := ⟨fun _ _ _ => rfl, fun _ _ => rfl, rfl, fun _ _ => rfl, rfl⟩
theorem KY.a {M : PM} {q k : Nat} {x : Int32} (h : 102 ≤ q) : KY M (sA M q k x) := ⟨fun _ _ _ => rfl, fun p hp => rA_ne (by omega), rfl, fun _ _ => rfl, rA_ne (by omega)⟩
theorem KY.g {M : PM} {q i k : Nat} {x : Int32} : KY M (sG M q i k x) := ⟨fun _ _ _ => rfl, fun _ _ => rfl, rfl, fun _ _ => rfl, rfl⟩
theorem KY.i {M : PM} {k : Nat} {x : Int32} (h : 4 ≤ k) : KY M (sI M 99 k x) := ⟨fun q j hq => rI_ne (by omega), fun _ _ => rfl, rfl, fun j hj => rI_nk (by omega), rfl⟩
theorem CalC.ky {M M' : PM} {C : Cal} (k : KY M M') (c : CalC M C) : CalC M' C := by
  have ea : ∀ q i, q < 99 → mA M' q i = mA M q i := fun q i hq => congrFun (k.2.1 q hq) i
  have eb : ∀ q i, mB M' q i = mB M q i := fun q i => by rw [mB, mB, k.2.2.1]
  have ei : ∀ q j, q < 99 → mI M' q j = mI M q j := fun q j hq => k.1 q j hq
  obtain ⟨h1, h2, h3, h4, h5⟩ := c
  refine ⟨⟨(ei 4 4 (by decide)).trans h1.1, fun l hl => (ea 5 l (by decide)).trans (h1.2.1 l hl), fun l hl => (ea 6 l (by decide)).trans (h1.2.2.1 l hl), fun l hl => ?_⟩, ⟨(ei 9 4 (by decide)).trans h2.1, fun l hl => (ea 10 l (by decide)).trans (h2.2.1 l hl), fun l hl => (ea 11 l (by decide)).trans (h2.2.2.1 l hl), fun l hl => ?_⟩, fun l hl => (ea 8 l (by decide)).trans (h3 l hl), ⟨(ei 3 4 (by decide)).trans h4.1, (ei 3 5 (by decide)).trans h4.2.1, (ei 3 6 (by decide)).trans h4.2.2.1, (ei 3 7 (by decide)).trans h4.2.2.2⟩, fun i hi => (ea 15 i (by decide)).trans (h5 i hi)⟩
  · rw [eb]; exact h1.2.2.2 l hl
  · rw [eb]; exact h2.2.2.2 l hl
