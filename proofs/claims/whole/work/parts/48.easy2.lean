/-! law, slip, status, sums -/
theorem isLawC_t {M : PM} {n : Nat} {l : Int} (hn : mI M 4 4 = zi n) (hb : n ≤ 12) (h : 0 ≤ l ∧ l < n) : F_X2_isLaw_4 M (zi l) = rI (zi 1) M := by
  unfold F_X2_isLaw_4
  simp (disch := omega) only [lt_z, cI_s, cJ_s, cV_s, bI_s, bI_e, bV_s, bV_e, zl, zi_neg, zi_add, zi_sub, zi_mul, ↓reduceIte, zb0, zb1, bb_and, bb_t, bb_f, zi_ltT, zi_ltF, zi_leT, zi_leF, zi_eqT, zi_eqF, hn]
theorem weekOf_t {M : PM} {n : Nat} {w : Nat → Nat} {l : Nat} (hn : mI M 4 4 = zi n) (hb : n ≤ 12) (hw : ∀ l, l < n → mA M 5 l = zi (w l)) (h : l < n) : F_X2_weekOf_4 M (zi l) = rI (zi (w l)) M := by
  unfold F_X2_weekOf_4
  simp (disch := omega) only [lt_z, cI_s, cJ_s, cV_s, bI_s, bI_e, bV_s, bV_e, zl, zi_neg, zi_add, zi_sub, zi_mul, ↓reduceIte, zb0, zb1, bb_and, bb_t, bb_f, zi_ltT, zi_ltF, zi_leT, zi_leF, zi_eqT, zi_eqF, zi_ixT, zi_nat, Int.toNat_natCast, Int.reduceToNat, ltNT, and_self, isLawC_t hn hb, hw]
theorem dayOf_t {M : PM} {n : Nat} {w : Nat → Nat} {l : Nat} (hn : mI M 4 4 = zi n) (hb : n ≤ 12) (hw : ∀ l, l < n → mA M 6 l = zi (w l)) (h : l < n) : F_X2_dayOf_4 M (zi l) = rI (zi (w l)) M := by
  unfold F_X2_dayOf_4
  simp (disch := omega) only [lt_z, cI_s, cJ_s, cV_s, bI_s, bI_e, bV_s, bV_e, zl, zi_neg, zi_add, zi_sub, zi_mul, ↓reduceIte, zb0, zb1, bb_and, bb_t, bb_f, zi_ltT, zi_ltF, zi_leT, zi_leF, zi_eqT, zi_eqF, zi_ixT, zi_nat, Int.toNat_natCast, Int.reduceToNat, ltNT, and_self, isLawC_t hn hb, hw]
theorem natOf {z : Int} {n : Nat} (h : 0 ≤ z ∧ z < n) : ∃ k : Nat, z = k ∧ k < n := ⟨z.toNat, by omega, by omega⟩
theorem lawC {M : PM} {C : Cal} {l : Nat} {z : Int} (hc : WFC C) (c : CalC M C) (hl : l < cN C) (h : z = 0 ∨ z = 1) : F_X10_law_0 M (zi l) (zi z) = rI (zi (if z = 0 then cW C l else cD C l : Nat)) M := by
  have hb := hc.1.1
  obtain ⟨⟨a1, a2, a3, a4⟩, -⟩ := c
  unfold F_X10_law_0
  rcases h with rfl | rfl <;> simp (disch := omega) only [lt_z, cI_s, cJ_s, cV_s, bI_s, bI_e, bV_s, bV_e, zl, zi_neg, zi_add, zi_sub, zi_mul, ↓reduceIte, zb0, zb1, bb_and, bb_t, bb_f, zi_ltT, zi_ltF, zi_leT, zi_leF, zi_eqT, zi_eqF, zi_ixT, zi_nat, Int.toNat_natCast, Int.reduceToNat, ltNT, and_self, needLaw_t a1 hb, needEither_t, weekOf_t a1 hb a2, dayOf_t a1 hb a3, Int.reduceEq]
theorem lawM {M N : PM} {C : Cal} {l : Nat} {z : Int} (hc : WFC C) (hN : N = sI M 99 0 (zi 0)) (c : CalM M C) (hl : l < cN C) (h : z = 0 ∨ z = 1) : F_X11_law_99 M (zi l) (zi z) = rI (zi (if z = 0 then cW C l else cD C l : Nat)) N := by
  have hb := hc.1.1
  have h0 : mI N 99 0 = zi 0 := hN ▸ th0
  have c2 : CalM N C := hN ▸ c.sm Sam.th.1
  obtain ⟨⟨a1, -⟩, a2, a3, -⟩ := c2
  unfold F_X11_law_99 F_X11_law_99_19 F_X11_law_99_42
  rw [show (0 : Int32) = zi 0 from rfl, ← hN]
  rcases h with rfl | rfl <;> simp (disch := omega) only [lt_z, cI_s, cJ_s, cV_s, bI_s, bI_e, bV_s, bV_e, zl, zi_neg, zi_add, zi_sub, zi_mul, ↓reduceIte, zb0, zb1, bb_and, bb_t, bb_f, zi_ltT, zi_ltF, zi_leT, zi_leF, zi_eqT, zi_eqF, zi_ixT, zi_nat, Int.toNat_natCast, Int.reduceToNat, ltNT, and_self, isLawM_t a1 hb, in_t, bad_f h0, a2, a3, Int.reduceEq]
theorem ok5 : OK_5 Rel := fun M a1 a2 hR => by
  obtain ⟨x, rfl, hx⟩ := zi_rng a1
  obtain ⟨z, rfl, hz⟩ := zi_rng a2
  have hR2 := hR
  obtain ⟨C, S, W, h1, h2, h3, h4, h5, h6, h7, h8, h9, h10, h11, h12⟩ := hR2
  have hb := h1.1.1
  unfold c_5 w_law
  by_cases hl : 0 ≤ x ∧ x < cN C
  · obtain ⟨l, rfl, hl2⟩ := natOf hl
    by_cases h : z = 0 ∨ z = 1
    · refine okq2 hR (lawC h1 h2 hl2 h) Sam0.rf (fun M' hs => ⟨_, lawM h1 rfl (h3.sm hs) hl2 h, th0, Sam.th⟩)
    · refine okr3 (y := zi 0) 2 hR (by decide) (by decide) ?_ ?_
      · unfold F_X10_law_0
        simp (disch := omega) only [lt_z, cI_s, cJ_s, cV_s, bI_s, bI_e, bV_s, bV_e, zl, zi_neg, zi_add, zi_sub, zi_mul, ↓reduceIte, zb0, zb1, bb_and, bb_t, bb_f, needLaw_t h2.1.1 hb, needEither_f]
      · have a1 : mA (sI (rf M 2) 99 0 (zi 0)) 103 0 = zi (cN C) := h3.1.1
        unfold F_X11_law_99 F_X11_law_99_19 F_X11_law_99_42
        simp (disch := omega) only [lt_z, cI_s, cJ_s, cV_s, bI_s, bI_e, bV_s, bV_e, zl, zi_neg, zi_add, zi_sub, zi_mul, ↓reduceIte, zb0, zb1, bb_and, bb_t, bb_f, zi_ltT, zi_ltF, zi_leT, zi_leF, zi_eqT, zi_eqF, zi_ixT, zi_nat, Int.toNat_natCast, Int.reduceToNat, ltNT, and_self, isLawM_t a1 hb, in_f, bad_f th0, bad_t th0]
        rfl
  · refine okr2 (y := zi 0) 1 hR (by decide) ?_ ?_
    · unfold F_X10_law_0
      simp (disch := omega) only [lt_z, cI_s, cJ_s, cV_s, bI_s, bI_e, bV_s, bV_e, zl, zi_neg, zi_add, zi_sub, zi_mul, ↓reduceIte, zb0, zb1, bb_and, bb_t, bb_f, needLaw_f h2.1.1 hb]
    · have a1 : mA (sI (rf M 1) 99 0 (zi 0)) 103 0 = zi (cN C) := h3.1.1
      unfold F_X11_law_99 F_X11_law_99_19
      simp (disch := omega) only [lt_z, cI_s, cJ_s, cV_s, bI_s, bI_e, bV_s, bV_e, zl, zi_neg, zi_add, zi_sub, zi_mul, ↓reduceIte, zb0, zb1, bb_and, bb_t, bb_f, zi_ltT, zi_ltF, zi_leT, zi_leF, zi_eqT, zi_eqF, zi_ixT, zi_nat, Int.toNat_natCast, Int.reduceToNat, ltNT, and_self, isLawM_f a1 hb, bad_t th0]
      rfl
theorem aheadOf_t {M : PM} {a : Nat → Nat → Nat} {H h l : Nat} (ha : ∀ h l, h < H → l < 12 → mA M 17 (h * 12 + l) = zi (a h l)) (hH : H ≤ 10) (hh : h < H) (hl : l < 12) : F_X3_aheadOf_16 M (zi h) (zi l) = rI (zi (a h l)) M := by
  unfold F_X3_aheadOf_16 F_X3_isWheel_16
  have e : ((h : Int) * 12 + (l : Int)).toNat = h * 12 + l := by omega
  simp (disch := omega) only [lt_z, cI_s, cJ_s, cV_s, bI_s, bI_e, bV_s, bV_e, zl, zi_neg, zi_add, zi_sub, zi_mul, ↓reduceIte, zb0, zb1, bb_and, bb_t, bb_f, zi_ltT, zi_ltF, zi_leT, zi_leF, zi_eqT, zi_eqF, zi_ixT, zi_nat, Int.toNat_natCast, Int.reduceToNat, ltNT, and_self, e, ha]
theorem slipC {M : PM} {C : Cal} {S : Sta} {h l : Nat} (hc : WFC C) (c : CalC M C) (s : StaC M C S 16) (hh : h < cH C) (hl : l < cN C) : F_X10_slip_0 M (zi h) (zi l) = rI (zi (aS S h l)) M := by
  obtain ⟨⟨b1, b2, b3, b4⟩, -⟩ := hc
  unfold F_X10_slip_0
  simp (disch := omega) only [lt_z, cI_s, cJ_s, cV_s, bI_s, bI_e, bV_s, bV_e, zl, zi_neg, zi_add, zi_sub, zi_mul, ↓reduceIte, zb0, zb1, bb_and, bb_t, bb_f, needHouse_t c.2.2.2.1.1, needLaw_t c.1.1 b1, aheadOf_t s.1 b3]
theorem slipM {M N : PM} {C : Cal} {S : Sta} {h l : Nat} (hc : WFC C) (hN : N = sI M 99 0 (zi 0)) (c : CalM M C) (s : StaM M C S) (hh : h < cH C) (hl : l < cN C) : F_X11_slip_99 M (zi h) (zi l) = rI (zi (aS S h l)) N := by
  obtain ⟨⟨b1, b2, b3, b4⟩, -⟩ := hc
  have h0 : mI N 99 0 = zi 0 := hN ▸ th0
  have c2 : CalM N C := hN ▸ c.sm Sam.th.1
  have s2 : StaM N C S := hN ▸ s.sm Sam.th.1
  unfold F_X11_slip_99 F_X11_slip_99_27
  rw [show (0 : Int32) = zi 0 from rfl, ← hN]
  simp (disch := omega) only [lt_z, cI_s, cJ_s, cV_s, bI_s, bI_e, bV_s, bV_e, zl, zi_neg, zi_add, zi_sub, zi_mul, ↓reduceIte, zb0, zb1, bb_and, bb_t, bb_f, zi_ltT, zi_ltF, zi_leT, zi_leF, zi_eqT, zi_eqF, zi_ixT, zi_nat, Int.toNat_natCast, Int.reduceToNat, ltNT, and_self, isHouseM_t c2.1.2.2.1, isLawM_t c2.1.1 b1, bad_f h0, s2.1]
theorem ok6 : OK_6 Rel := fun M a1 a2 hR => by
  obtain ⟨x, rfl, hx⟩ := zi_rng a1
  obtain ⟨z, rfl, hz⟩ := zi_rng a2
  have hR2 := hR
  obtain ⟨C, S, W, h1, h2, h3, h4, h5, h6, h7, h8, h9, h10, h11, h12⟩ := hR2
  have hb := h1.1.1
  have hH := h1.1.2.2.1
  unfold c_6 w_slip
  have a0 : mA (sI (rf M 1) 99 0 (zi 0)) 103 0 = zi (cN C) := h3.1.1
  have a2 : mA (sI (rf M 1) 99 0 (zi 0)) 103 2 = zi (cH C) := h3.1.2.2.1
  by_cases hh : 0 ≤ x ∧ x < cH C
  · obtain ⟨h, rfl, hh2⟩ := natOf hh
    by_cases hl : 0 ≤ z ∧ z < cN C
    · obtain ⟨l, rfl, hl2⟩ := natOf hl
      exact okq1 hR (slipC h1 h2 h5 hh2 hl2) Sam0.rf (fun M' hs => ⟨_, slipM h1 rfl (h3.sm hs) (h6.sm hs) hh2 hl2, th0, Sam.th⟩)
    · refine okr1 (y := zi 0) 1 hR (by decide) ?_ ?_
      · unfold F_X10_slip_0
        simp (disch := omega) only [lt_z, cI_s, cJ_s, cV_s, bI_s, bI_e, bV_s, bV_e, zl, zi_neg, zi_add, zi_sub, zi_mul, ↓reduceIte, zb0, zb1, bb_and, bb_t, bb_f, needHouse_t h2.2.2.2.1.1, needLaw_f h2.1.1 hb]
      · unfold F_X11_slip_99 F_X11_slip_99_22 F_X11_slip_99_27
        simp (disch := omega) only [lt_z, cI_s, cJ_s, cV_s, bI_s, bI_e, bV_s, bV_e, zl, zi_neg, zi_add, zi_sub, zi_mul, ↓reduceIte, zb0, zb1, bb_and, bb_t, bb_f, zi_ltT, zi_ltF, zi_leT, zi_leF, zi_eqT, zi_eqF, zi_ixT, zi_nat, Int.toNat_natCast, Int.reduceToNat, ltNT, and_self, isHouseM_t a2, isLawM_f a0 hb, bad_t th0]
        rfl
  · refine okr1 (y := zi 0) 1 hR (by decide) ?_ ?_
    · unfold F_X10_slip_0
      simp (disch := omega) only [lt_z, cI_s, cJ_s, cV_s, bI_s, bI_e, bV_s, bV_e, zl, zi_neg, zi_add, zi_sub, zi_mul, ↓reduceIte, zb0, zb1, bb_and, bb_t, bb_f, needHouse_f h2.2.2.2.1.1]
    · unfold F_X11_slip_99 F_X11_slip_99_22 F_X11_slip_99_27
      simp (disch := omega) only [lt_z, cI_s, cJ_s, cV_s, bI_s, bI_e, bV_s, bV_e, zl, zi_neg, zi_add, zi_sub, zi_mul, ↓reduceIte, zb0, zb1, bb_and, bb_t, bb_f, zi_ltT, zi_ltF, zi_leT, zi_leF, zi_eqT, zi_eqF, zi_ixT, zi_nat, Int.toNat_natCast, Int.reduceToNat, ltNT, and_self, isHouseM_f a2, bad_t th0]
      rfl
theorem dirI_ok {f : Option PR} {g : PM → Option PR} {M1 M2 : PM} {x : Int32} (hf : f = rI x M1) (hg : g M1 = rI x M2) : dirI f g = some M2 := by
  subst hf
  unfold dirI
  simp only [hg, if_true]
theorem ok40 : OK_40 Rel := fun M a1 hR => by
  obtain ⟨z, rfl, hz⟩ := zi_rng a1
  have hR2 := hR
  obtain ⟨C, S, W, h1, h2, h3, h4, h5, h6, h7, h8, h9, h10, h11, h12⟩ := hR2
  obtain ⟨k0, k1, k2, k3⟩ := h12
  refine ⟨sI M 99 0 (zi 0), ?_, hR.sm Sam.th.1⟩
  unfold c_40
  have e : ∀ j, mA (sI M 99 0 (zi 0)) 101 j = mA M 101 j := fun j => rfl
  by_cases h : 0 ≤ z ∧ z ≤ 2
  · refine dirI_ok (x := mA M 101 z.toNat) (M1 := M) ?_ ?_
    · have hz3 : z = 0 ∨ z = 1 ∨ z = 2 := by omega
      unfold F_X10_status_0
      rcases hz3 with rfl | rfl | rfl <;> simp (disch := omega) only [lt_z, cI_s, cJ_s, cV_s, bI_s, bI_e, bV_s, bV_e, zl, zi_neg, zi_add, zi_sub, zi_mul, ↓reduceIte, zb0, zb1, bb_and, bb_t, bb_f, zi_ltT, zi_ltF, zi_leT, zi_leF, zi_eqT, zi_eqF, zi_ixT, zi_nat, Int.toNat_natCast, Int.reduceToNat, ltNT, and_self, k1, k2, k3]
    · unfold F_X11_status_99
      simp (disch := omega) only [lt_z, cI_s, cJ_s, cV_s, bI_s, bI_e, bV_s, bV_e, zl, zi_neg, zi_add, zi_sub, zi_mul, ↓reduceIte, zb0, zb1, bb_and, bb_t, bb_f, zi_ltT, zi_ltF, zi_leT, zi_leF, zi_eqT, zi_eqF, zi_ixT, zi_nat, Int.toNat_natCast, Int.reduceToNat, ltNT, and_self, in_t, e]
  · refine dirI_ok (x := zi (-1)) (M1 := M) ?_ ?_
    · unfold F_X10_status_0
      simp (disch := omega) only [lt_z, cI_s, cJ_s, cV_s, bI_s, bI_e, bV_s, bV_e, zl, zi_neg, zi_add, zi_sub, zi_mul, ↓reduceIte, zb0, zb1, bb_and, bb_t, bb_f, zi_ltT, zi_ltF, zi_leT, zi_leF, zi_eqT, zi_eqF, zi_ixT, zi_nat, Int.toNat_natCast, Int.reduceToNat, ltNT, and_self]
    · unfold F_X11_status_99
      simp (disch := omega) only [lt_z, cI_s, cJ_s, cV_s, bI_s, bI_e, bV_s, bV_e, zl, zi_neg, zi_add, zi_sub, zi_mul, ↓reduceIte, zb0, zb1, bb_and, bb_t, bb_f, zi_ltT, zi_ltF, zi_leT, zi_leF, zi_eqT, zi_eqF, zi_ixT, zi_nat, Int.toNat_natCast, Int.reduceToNat, ltNT, and_self, in_f]
theorem ok41 : OK_41 Rel := fun M a1 hR => by
  obtain ⟨z, rfl, hz⟩ := zi_rng a1
  have hR2 := hR
  obtain ⟨C, S, W, h1, h2, h3, h4, h5, h6, h7, h8, h9, h10, h11, h12⟩ := hR2
  have h6n := h6.sm Sam.th.1
  obtain ⟨n, -, i1, i2, -⟩ := h10
  obtain ⟨t, b, -, t1, t2, -⟩ := h11
  refine ⟨sI M 99 0 (zi 0), ?_, hR.sm Sam.th.1⟩
  have e1 : mI (sI M 99 0 (zi 0)) 99 35 = zi n := i2
  have e2 : mI (sI M 99 0 (zi 0)) 99 1 = zi t := t2
  unfold c_41
  by_cases h : 0 ≤ z ∧ z ≤ 4
  · refine dirI_ok (x := if z = 0 then zi (gN S) else if z = 1 then zi (dN S) else if z = 2 then zi (kN S) else if z = 3 then zi n else zi t) (M1 := M) ?_ ?_
    · have hz3 : z = 0 ∨ z = 1 ∨ z = 2 ∨ z = 3 ∨ z = 4 := by omega
      unfold F_X10_sums_0
      rcases hz3 with rfl | rfl | rfl | rfl | rfl <;> simp (disch := omega) only [lt_z, cI_s, cJ_s, cV_s, bI_s, bI_e, bV_s, bV_e, zl, zi_neg, zi_add, zi_sub, zi_mul, ↓reduceIte, zb0, zb1, bb_and, bb_t, bb_f, zi_ltT, zi_ltF, zi_leT, zi_leF, zi_eqT, zi_eqF, zi_ixT, zi_nat, Int.toNat_natCast, Int.reduceToNat, ltNT, and_self, h5.2.1.1, h5.2.1.2.1, h5.2.1.2.2, i1, t1, Int.reduceEq]
    · have hz3 : z = 0 ∨ z = 1 ∨ z = 2 ∨ z = 3 ∨ z = 4 := by omega
      unfold F_X11_sums_99
      rcases hz3 with rfl | rfl | rfl | rfl | rfl <;> simp (disch := omega) only [lt_z, cI_s, cJ_s, cV_s, bI_s, bI_e, bV_s, bV_e, zl, zi_neg, zi_add, zi_sub, zi_mul, ↓reduceIte, zb0, zb1, bb_and, bb_t, bb_f, zi_ltT, zi_ltF, zi_leT, zi_leF, zi_eqT, zi_eqF, zi_ixT, zi_nat, Int.toNat_natCast, Int.reduceToNat, ltNT, and_self, h6n.2.1.1, h6n.2.1.2.1, h6n.2.1.2.2, e1, e2, Int.reduceEq]
  · refine dirI_ok (x := zi (-1)) (M1 := M) ?_ ?_
    · unfold F_X10_sums_0
      simp (disch := omega) only [lt_z, cI_s, cJ_s, cV_s, bI_s, bI_e, bV_s, bV_e, zl, zi_neg, zi_add, zi_sub, zi_mul, ↓reduceIte, zb0, zb1, bb_and, bb_t, bb_f, zi_ltT, zi_ltF, zi_leT, zi_leF, zi_eqT, zi_eqF, zi_ixT, zi_nat, Int.toNat_natCast, Int.reduceToNat, ltNT, and_self]
    · unfold F_X11_sums_99
      simp (disch := omega) only [lt_z, cI_s, cJ_s, cV_s, bI_s, bI_e, bV_s, bV_e, zl, zi_neg, zi_add, zi_sub, zi_mul, ↓reduceIte, zb0, zb1, bb_and, bb_t, bb_f, zi_ltT, zi_ltF, zi_leT, zi_leF, zi_eqT, zi_eqF, zi_ixT, zi_nat, Int.toNat_natCast, Int.reduceToNat, ltNT, and_self]
