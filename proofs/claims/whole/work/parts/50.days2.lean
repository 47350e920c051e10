/-! the cases turned, holds, inHouse, clashes -/
theorem ok8 : OK_8 Rel := fun M a1 hR => by
  obtain ⟨z, rfl, hz⟩ := zi_rng a1
  have hR2 := hR
  obtain ⟨C, S, W, h1, h2, h3, h4, h5, h6, h7, h8, h9, h10, h11, h12⟩ := hR2
  unfold c_8 w_turned
  by_cases h : 0 ≤ z ∧ z ≤ 999999999
  · refine okq1 (x := zi (tO C z)) (M1 := M) hR ?_ Sam0.rf (fun M' hs => ⟨sI M' 99 0 (zi 0), ?_, th0, Sam.th⟩)
    · unfold F_X10_turned_0
      simp (disch := omega) only [lt_z, cI_s, cJ_s, cV_s, bI_s, bI_e, bV_s, bV_e, zl, zi_neg, zi_add, zi_sub, zi_mul, ↓reduceIte, zb0, zb1, bb_and, bb_t, bb_f, zi_ltT, zi_ltF, zi_leT, zi_leF, zi_eqT, zi_eqF, zi_ixT, zi_nat, Int.toNat_natCast, Int.reduceToNat, ltNT, and_self, needDay_t, turnsOn_s h1 h2.2.2.2.1.2.1 h2.2.2.2.2]
    · have c : CalM (sI M' 99 0 (zi 0)) C := h3.sm (hs.tr Sam.th.1)
      unfold F_X11_turned_99 F_X11_turned_99_18
      simp (disch := omega) only [lt_z, cI_s, cJ_s, cV_s, bI_s, bI_e, bV_s, bV_e, zl, zi_neg, zi_add, zi_sub, zi_mul, ↓reduceIte, zb0, zb1, bb_and, bb_t, bb_f, zi_ltT, zi_ltF, zi_leT, zi_leF, zi_eqT, zi_eqF, zi_ixT, zi_nat, Int.toNat_natCast, Int.reduceToNat, ltNT, and_self, isDay_t, bad_f th0, turnedOn_s h1 c.1.2.2.2.1 c.2.2.2.2.2]
  · refine okr1 (y := zi 0) 0 hR (by decide) ?_ ?_
    · unfold F_X10_turned_0
      simp (disch := omega) only [lt_z, cI_s, cJ_s, cV_s, bI_s, bI_e, bV_s, bV_e, zl, zi_neg, zi_add, zi_sub, zi_mul, ↓reduceIte, zb0, zb1, bb_and, bb_t, bb_f, zi_ltT, zi_ltF, zi_leT, zi_leF, zi_eqT, zi_eqF, zi_ixT, zi_nat, Int.toNat_natCast, Int.reduceToNat, ltNT, and_self, needDay_f]
    · unfold F_X11_turned_99 F_X11_turned_99_18
      simp (disch := omega) only [lt_z, cI_s, cJ_s, cV_s, bI_s, bI_e, bV_s, bV_e, zl, zi_neg, zi_add, zi_sub, zi_mul, ↓reduceIte, zb0, zb1, bb_and, bb_t, bb_f, zi_ltT, zi_ltF, zi_leT, zi_leF, zi_eqT, zi_eqF, zi_ixT, zi_nat, Int.toNat_natCast, Int.reduceToNat, ltNT, and_self, isDay_f, bad_t th0]
      rfl
theorem ok9 : OK_9 Rel := fun M a1 hR => by
  obtain ⟨z, rfl, hz⟩ := zi_rng a1
  have hR2 := hR
  obtain ⟨C, S, W, h1, h2, h3, h4, h5, h6, h7, h8, h9, h10, h11, h12⟩ := hR2
  unfold c_9 w_holds
  by_cases h : 0 ≤ z ∧ z ≤ 999999999
  · have h0 := tO_nn h1 h.1
    refine okq1 (x := ob (fun l => hb (cW C l) (cD C l) (tO C z)) (cN C)) (M1 := M) hR ?_ Sam0.rf (fun M' hs => ⟨sI M' 99 0 (zi 0), ?_, th0, Sam.th⟩)
    · unfold F_X10_holds_0
      simp (disch := omega) only [lt_z, cI_s, cJ_s, cV_s, bI_s, bI_e, bV_s, bV_e, zl, zi_neg, zi_add, zi_sub, zi_mul, ↓reduceIte, zb0, zb1, bb_and, bb_t, bb_f, zi_ltT, zi_ltF, zi_leT, zi_leF, zi_eqT, zi_eqF, zi_ixT, zi_nat, Int.toNat_natCast, Int.reduceToNat, ltNT, and_self, needDay_t, lawsOfTown_s h1 h2]
    · have c : CalM (sI M' 99 0 (zi 0)) C := h3.sm (hs.tr Sam.th.1)
      unfold F_X11_holds_99 F_X11_holds_99_18
      simp (disch := omega) only [lt_z, cI_s, cJ_s, cV_s, bI_s, bI_e, bV_s, bV_e, zl, zi_neg, zi_add, zi_sub, zi_mul, ↓reduceIte, zb0, zb1, bb_and, bb_t, bb_f, zi_ltT, zi_ltF, zi_leT, zi_leF, zi_eqT, zi_eqF, zi_ixT, zi_nat, Int.toNat_natCast, Int.reduceToNat, ltNT, and_self, isDay_t, bad_f th0, turnedOn_s h1 c.1.2.2.2.1 c.2.2.2.2.2, bitsAt_s h1 c]
  · refine okr1 (y := zi 0) 0 hR (by decide) ?_ ?_
    · unfold F_X10_holds_0
      simp (disch := omega) only [lt_z, cI_s, cJ_s, cV_s, bI_s, bI_e, bV_s, bV_e, zl, zi_neg, zi_add, zi_sub, zi_mul, ↓reduceIte, zb0, zb1, bb_and, bb_t, bb_f, zi_ltT, zi_ltF, zi_leT, zi_leF, zi_eqT, zi_eqF, zi_ixT, zi_nat, Int.toNat_natCast, Int.reduceToNat, ltNT, and_self, needDay_f]
    · unfold F_X11_holds_99 F_X11_holds_99_18
      simp (disch := omega) only [lt_z, cI_s, cJ_s, cV_s, bI_s, bI_e, bV_s, bV_e, zl, zi_neg, zi_add, zi_sub, zi_mul, ↓reduceIte, zb0, zb1, bb_and, bb_t, bb_f, zi_ltT, zi_ltF, zi_leT, zi_leF, zi_eqT, zi_eqF, zi_ixT, zi_nat, Int.toNat_natCast, Int.reduceToNat, ltNT, and_self, isDay_f, bad_t th0]
      rfl
theorem ok10 : OK_10 Rel := fun M a1 a2 hR => by
  obtain ⟨z, rfl, hz⟩ := zi_rng a1
  obtain ⟨x, rfl, hx⟩ := zi_rng a2
  have hR2 := hR
  obtain ⟨C, S, W, h1, h2, h3, h4, h5, h6, h7, h8, h9, h10, h11, h12⟩ := hR2
  have hH := h1.1.2.2.1
  unfold c_10 w_inHouse
  by_cases h : 0 ≤ z ∧ z ≤ 999999999
  · have h0 := tO_nn h1 h.1
    by_cases hh : 0 ≤ x ∧ x < cH C
    · obtain ⟨k, rfl, hk⟩ := natOf hh
      refine okq2 (x := ob (fun l => hb (cW C l) (cD C l) (tO C z + aS S k l)) (cN C)) (M1 := M) hR ?_ Sam0.rf (fun M' hs => ⟨sI M' 99 0 (zi 0), ?_, th0, Sam.th⟩)
      · unfold F_X10_inHouse_0
        simp (disch := omega) only [lt_z, cI_s, cJ_s, cV_s, bI_s, bI_e, bV_s, bV_e, zl, zi_neg, zi_add, zi_sub, zi_mul, ↓reduceIte, zb0, zb1, bb_and, bb_t, bb_f, zi_ltT, zi_ltF, zi_leT, zi_leF, zi_eqT, zi_eqF, zi_ixT, zi_nat, Int.toNat_natCast, Int.reduceToNat, ltNT, and_self, needDay_t, needHouse_t h2.2.2.2.1.1, lawsOfHouse_s h1 h4 h2 h5]
      · have c : CalM (sI M' 99 0 (zi 0)) C := h3.sm (hs.tr Sam.th.1)
        have s : StaM (sI M' 99 0 (zi 0)) C S := h6.sm (hs.tr Sam.th.1)
        unfold F_X11_inHouse_99 F_X11_inHouse_99_18 F_X11_inHouse_99_40
        simp (disch := omega) only [lt_z, cI_s, cJ_s, cV_s, bI_s, bI_e, bV_s, bV_e, zl, zi_neg, zi_add, zi_sub, zi_mul, ↓reduceIte, zb0, zb1, bb_and, bb_t, bb_f, zi_ltT, zi_ltF, zi_leT, zi_leF, zi_eqT, zi_eqF, zi_ixT, zi_nat, Int.toNat_natCast, Int.reduceToNat, ltNT, and_self, isDay_t, isHouseM_t c.1.2.2.1, bad_f th0, turnedOn_s h1 c.1.2.2.2.1 c.2.2.2.2.2, inHouseBits_s h1 h4 c s hk]
    · refine okr3 (y := zi 0) 1 hR (by decide) (by decide) ?_ ?_
      · unfold F_X10_inHouse_0
        simp (disch := omega) only [lt_z, cI_s, cJ_s, cV_s, bI_s, bI_e, bV_s, bV_e, zl, zi_neg, zi_add, zi_sub, zi_mul, ↓reduceIte, zb0, zb1, bb_and, bb_t, bb_f, zi_ltT, zi_ltF, zi_leT, zi_leF, zi_eqT, zi_eqF, zi_ixT, zi_nat, Int.toNat_natCast, Int.reduceToNat, ltNT, and_self, needDay_t, needHouse_f h2.2.2.2.1.1]
      · have a2 : mA (sI (rf M 1) 99 0 (zi 0)) 103 2 = zi (cH C) := h3.1.2.2.1
        unfold F_X11_inHouse_99 F_X11_inHouse_99_18 F_X11_inHouse_99_40
        simp (disch := omega) only [lt_z, cI_s, cJ_s, cV_s, bI_s, bI_e, bV_s, bV_e, zl, zi_neg, zi_add, zi_sub, zi_mul, ↓reduceIte, zb0, zb1, bb_and, bb_t, bb_f, zi_ltT, zi_ltF, zi_leT, zi_leF, zi_eqT, zi_eqF, zi_ixT, zi_nat, Int.toNat_natCast, Int.reduceToNat, ltNT, and_self, isDay_t, isHouseM_f a2, bad_f th0, bad_t th0]
        rfl
  · refine okr2 (y := zi 0) 0 hR (by decide) ?_ ?_
    · unfold F_X10_inHouse_0
      simp (disch := omega) only [lt_z, cI_s, cJ_s, cV_s, bI_s, bI_e, bV_s, bV_e, zl, zi_neg, zi_add, zi_sub, zi_mul, ↓reduceIte, zb0, zb1, bb_and, bb_t, bb_f, zi_ltT, zi_ltF, zi_leT, zi_leF, zi_eqT, zi_eqF, zi_ixT, zi_nat, Int.toNat_natCast, Int.reduceToNat, ltNT, and_self, needDay_f]
    · unfold F_X11_inHouse_99 F_X11_inHouse_99_18
      simp (disch := omega) only [lt_z, cI_s, cJ_s, cV_s, bI_s, bI_e, bV_s, bV_e, zl, zi_neg, zi_add, zi_sub, zi_mul, ↓reduceIte, zb0, zb1, bb_and, bb_t, bb_f, zi_ltT, zi_ltF, zi_leT, zi_leF, zi_eqT, zi_eqF, zi_ixT, zi_nat, Int.toNat_natCast, Int.reduceToNat, ltNT, and_self, isDay_f, bad_t th0]
      rfl
/-- in a house otherwise than in the town -/
def cla (C : Cal) (S : Sta) (t : Int) (h : Nat) : Bool := !(decide (ob (fun l => hb (cW C l) (cD C l) (t + aS S h l)) (cN C) = ob (fun l => hb (cW C l) (cD C l) t) (cN C)))
theorem clashC {M : PM} {C : Cal} {S : Sta} {d : Int} (hc : WFC C) (hw : WFS C S) (c : CalC M C) (s : StaC M C S 16) (hd : 0 ≤ d ∧ d < 1000000000) : F_X10_clashes_0_9 FUEL M (zi d) (zi 0) (zi 0) = rI (zi (fb_ct (cla C S (tO C d)) (cH C) : Nat)) M := by
  have hH := hc.1.2.2.1
  have a1 := c.2.2.2.1.1
  exact loopU (cH C) (fun f i => F_X10_clashes_0_9 f M (zi d) (zi (fb_ct (cla C S (tO C d)) i : Nat)) (zi (i : Nat))) _ (fun f => by
      rw [F_X10_clashes_0_9]
      simp (disch := omega) only [lt_z, cI_s, cJ_s, cV_s, bI_s, bI_e, bV_s, bV_e, zl, zi_neg, zi_add, zi_sub, zi_mul, ↓reduceIte, zb0, zb1, bb_and, bb_t, bb_f, zi_ltT, zi_ltF, zi_leT, zi_leF, zi_eqT, zi_eqF, zi_ixT, zi_nat, Int.toNat_natCast, Int.reduceToNat, ltNT, and_self, a1]) (fun f i hi => by
      rw [F_X10_clashes_0_9, zc (show ((i + 1 : Nat) : Int) = i + 1 by omega)]
      unfold F_X10_clashes_0_37
      by_cases hp : ob (fun l => hb (cW C l) (cD C l) (tO C d + aS S i l)) (cN C) = ob (fun l => hb (cW C l) (cD C l) (tO C d)) (cN C)
      · rw [ctF (p := cla C S (tO C d)) (by unfold cla; rw [decide_eq_true hp]; rfl)]
        simp (disch := omega) only [lt_z, cI_s, cJ_s, cV_s, bI_s, bI_e, bV_s, bV_e, zl, zi_neg, zi_add, zi_sub, zi_mul, ↓reduceIte, zb0, zb1, bb_and, bb_t, bb_f, zi_ltT, zi_ltF, zi_leT, zi_leF, zi_eqT, zi_eqF, zi_ixT, zi_nat, Int.toNat_natCast, Int.reduceToNat, ltNT, and_self, a1, lawsOfHouse_s hc hw c s, lawsOfTown_s hc c, hp]
      · rw [ctT (p := cla C S (tO C d)) (by unfold cla; rw [decide_eq_false hp]; rfl), zc (show ((fb_ct (cla C S (tO C d)) i + 1 : Nat) : Int) = (fb_ct (cla C S (tO C d)) i : Nat) + 1 by omega)]
        simp (disch := omega) only [lt_z, cI_s, cJ_s, cV_s, bI_s, bI_e, bV_s, bV_e, zl, zi_neg, zi_add, zi_sub, zi_mul, ↓reduceIte, zb0, zb1, bb_and, bb_t, bb_f, zi_ltT, zi_ltF, zi_leT, zi_leF, zi_eqT, zi_eqF, zi_ixT, zi_nat, Int.toNat_natCast, Int.reduceToNat, ltNT, and_self, a1, lawsOfHouse_s hc hw c s, lawsOfTown_s hc c, hp]) 0 FUEL (by omega) (FUEL_gt (by omega))
theorem clashM {M : PM} {C : Cal} {S : Sta} {t : Int} (hc : WFC C) (hw : WFS C S) (c : CalM M C) (s : StaM M C S) (ht : 0 ≤ t ∧ t < 1000000000) : F_X11_clashes_99_39 FUEL M (zi 0) (zi t) (zi 0) = rI (zi (fb_ct (cla C S t) (cH C) : Nat)) M := by
  have hH := hc.1.2.2.1
  have a1 := c.1.2.2.1
  exact loopU (cH C) (fun f i => F_X11_clashes_99_39 f M (zi (fb_ct (cla C S t) i : Nat)) (zi t) (zi (i : Nat))) _ (fun f => by
      rw [F_X11_clashes_99_39]
      simp (disch := omega) only [lt_z, cI_s, cJ_s, cV_s, bI_s, bI_e, bV_s, bV_e, zl, zi_neg, zi_add, zi_sub, zi_mul, ↓reduceIte, zb0, zb1, bb_and, bb_t, bb_f, zi_ltT, zi_ltF, zi_leT, zi_leF, zi_eqT, zi_eqF, zi_ixT, zi_nat, Int.toNat_natCast, Int.reduceToNat, ltNT, and_self, a1]) (fun f i hi => by
      rw [F_X11_clashes_99_39, zc (show ((i + 1 : Nat) : Int) = i + 1 by omega)]
      unfold F_X11_clashes_99_71
      by_cases hp : ob (fun l => hb (cW C l) (cD C l) (t + aS S i l)) (cN C) = ob (fun l => hb (cW C l) (cD C l) t) (cN C)
      · rw [ctF (p := cla C S t) (by unfold cla; rw [decide_eq_true hp]; rfl)]
        simp (disch := omega) only [lt_z, cI_s, cJ_s, cV_s, bI_s, bI_e, bV_s, bV_e, zl, zi_neg, zi_add, zi_sub, zi_mul, ↓reduceIte, zb0, zb1, bb_and, bb_t, bb_f, zi_ltT, zi_ltF, zi_leT, zi_leF, zi_eqT, zi_eqF, zi_ixT, zi_nat, Int.toNat_natCast, Int.reduceToNat, ltNT, and_self, a1, inHouseBits_s hc hw c s hi, bitsAt_s hc c, hp, Int.add_zero]
      · rw [ctT (p := cla C S t) (by unfold cla; rw [decide_eq_false hp]; rfl), zc (show ((fb_ct (cla C S t) i + 1 : Nat) : Int) = (fb_ct (cla C S t) i : Nat) + 1 by omega)]
        simp (disch := omega) only [lt_z, cI_s, cJ_s, cV_s, bI_s, bI_e, bV_s, bV_e, zl, zi_neg, zi_add, zi_sub, zi_mul, ↓reduceIte, zb0, zb1, bb_and, bb_t, bb_f, zi_ltT, zi_ltF, zi_leT, zi_leF, zi_eqT, zi_eqF, zi_ixT, zi_nat, Int.toNat_natCast, Int.reduceToNat, ltNT, and_self, a1, inHouseBits_s hc hw c s hi, bitsAt_s hc c, hp]) 0 FUEL (by omega) (FUEL_gt (by omega))
theorem ok11 : OK_11 Rel := fun M a1 hR => by
  obtain ⟨z, rfl, hz⟩ := zi_rng a1
  have hR2 := hR
  obtain ⟨C, S, W, h1, h2, h3, h4, h5, h6, h7, h8, h9, h10, h11, h12⟩ := hR2
  unfold c_11 w_clashes
  by_cases h : 0 ≤ z ∧ z ≤ 999999999
  · have h0 := tO_nn h1 h.1
    refine okq1 (x := zi (fb_ct (cla C S (tO C z)) (cH C) : Nat)) (M1 := M) hR ?_ Sam0.rf (fun M' hs => ⟨sI M' 99 0 (zi 0), ?_, th0, Sam.th⟩)
    · unfold F_X10_clashes_0
      simp (disch := omega) only [lt_z, cI_s, cJ_s, cV_s, bI_s, bI_e, bV_s, bV_e, zl, zi_neg, zi_add, zi_sub, zi_mul, ↓reduceIte, zb0, zb1, bb_and, bb_t, bb_f, zi_ltT, zi_ltF, zi_leT, zi_leF, zi_eqT, zi_eqF, zi_ixT, zi_nat, Int.toNat_natCast, Int.reduceToNat, ltNT, and_self, needDay_t, clashC h1 h4 h2 h5]
    · have c : CalM (sI M' 99 0 (zi 0)) C := h3.sm (hs.tr Sam.th.1)
      have s : StaM (sI M' 99 0 (zi 0)) C S := h6.sm (hs.tr Sam.th.1)
      unfold F_X11_clashes_99 F_X11_clashes_99_18
      simp (disch := omega) only [lt_z, cI_s, cJ_s, cV_s, bI_s, bI_e, bV_s, bV_e, zl, zi_neg, zi_add, zi_sub, zi_mul, ↓reduceIte, zb0, zb1, bb_and, bb_t, bb_f, zi_ltT, zi_ltF, zi_leT, zi_leF, zi_eqT, zi_eqF, zi_ixT, zi_nat, Int.toNat_natCast, Int.reduceToNat, ltNT, and_self, isDay_t, bad_f th0, turnedOn_s h1 c.1.2.2.2.1 c.2.2.2.2.2, clashM h1 h4 c s]
  · refine okr1 (y := zi 0) 0 hR (by decide) ?_ ?_
    · unfold F_X10_clashes_0
      simp (disch := omega) only [lt_z, cI_s, cJ_s, cV_s, bI_s, bI_e, bV_s, bV_e, zl, zi_neg, zi_add, zi_sub, zi_mul, ↓reduceIte, zb0, zb1, bb_and, bb_t, bb_f, zi_ltT, zi_ltF, zi_leT, zi_leF, zi_eqT, zi_eqF, zi_ixT, zi_nat, Int.toNat_natCast, Int.reduceToNat, ltNT, and_self, needDay_f]
    · unfold F_X11_clashes_99 F_X11_clashes_99_18
      simp (disch := omega) only [lt_z, cI_s, cJ_s, cV_s, bI_s, bI_e, bV_s, bV_e, zl, zi_neg, zi_add, zi_sub, zi_mul, ↓reduceIte, zb0, zb1, bb_and, bb_t, bb_f, zi_ltT, zi_ltF, zi_leT, zi_leF, zi_eqT, zi_eqF, zi_ixT, zi_nat, Int.toNat_natCast, Int.reduceToNat, ltNT, and_self, isDay_f, bad_t th0]
      rfl
