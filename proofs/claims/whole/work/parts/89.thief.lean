/-! thief -/
theorem needTwo_t {M : PM} {n : Nat} {a b : Int} (hn : mI M 4 4 = zi n) (hb : n ≤ 12) (ha : 0 ≤ a ∧ a < n) (hb2 : 0 ≤ b ∧ b < n) (h : a ≠ b) : F_X10_needTwoLaws_0 M (zi a) (zi b) = rV M := by
  unfold F_X10_needTwoLaws_0
  simp (disch := omega) only [lt_z, cI_s, cJ_s, cV_s, bI_s, bI_e, bV_s, bV_e, zl, zi_neg, zi_add, zi_sub, zi_mul, ↓reduceIte, zb0, zb1, bb_and, bb_t, bb_f, zi_ltT, zi_ltF, zi_leT, zi_leF, zi_eqT, zi_eqF, zi_ixT, zi_nat, Int.toNat_natCast, Int.reduceToNat, ltNT, and_self, needLaw_t hn hb, need_t]
theorem needTwo_same {M : PM} {n : Nat} {a b : Int} (hn : mI M 4 4 = zi n) (hb : n ≤ 12) (ha : 0 ≤ a ∧ a < n) (hb2 : 0 ≤ b ∧ b < n) (h : a = b) : F_X10_needTwoLaws_0 M (zi a) (zi b) = rE nIAE (rf M 2) := by
  unfold F_X10_needTwoLaws_0
  simp (disch := omega) only [lt_z, cI_s, cJ_s, cV_s, bI_s, bI_e, bV_s, bV_e, zl, zi_neg, zi_add, zi_sub, zi_mul, ↓reduceIte, zb0, zb1, bb_and, bb_t, bb_f, zi_ltT, zi_ltF, zi_leT, zi_leF, zi_eqT, zi_eqF, zi_ixT, zi_nat, Int.toNat_natCast, Int.reduceToNat, ltNT, and_self, needLaw_t hn hb, need_f]
theorem needTwo_f {M : PM} {n : Nat} {a b : Int} (hn : mI M 4 4 = zi n) (hb : n ≤ 12) (ha : -2147483648 ≤ a ∧ a < 2147483648) (hb2 : -2147483648 ≤ b ∧ b < 2147483648) (h : ¬ ((0 ≤ a ∧ a < n) ∧ 0 ≤ b ∧ b < n)) : F_X10_needTwoLaws_0 M (zi a) (zi b) = rE nNSE (rf M 1) := by
  unfold F_X10_needTwoLaws_0
  by_cases q : 0 ≤ a ∧ a < n
  · simp (disch := omega) only [lt_z, cI_s, cJ_s, cV_s, bI_s, bI_e, bV_s, bV_e, zl, zi_neg, zi_add, zi_sub, zi_mul, ↓reduceIte, zb0, zb1, bb_and, bb_t, bb_f, zi_ltT, zi_ltF, zi_leT, zi_leF, zi_eqT, zi_eqF, zi_ixT, zi_nat, Int.toNat_natCast, Int.reduceToNat, ltNT, and_self, needLaw_t hn hb, needLaw_f hn hb]
  · simp (disch := omega) only [lt_z, cI_s, cJ_s, cV_s, bI_s, bI_e, bV_s, bV_e, zl, zi_neg, zi_add, zi_sub, zi_mul, ↓reduceIte, zb0, zb1, bb_and, bb_t, bb_f, zi_ltT, zi_ltF, zi_leT, zi_leF, zi_eqT, zi_eqF, zi_ixT, zi_nat, Int.toNat_natCast, Int.reduceToNat, ltNT, and_self, needLaw_f hn hb]
theorem badTwo_t {M N : PM} {n : Nat} {a b : Int} (hN : N = sI M 99 0 (zi 0)) (hn : mA N 103 0 = zi n) (hb : n ≤ 12) (ha : 0 ≤ a ∧ a < n) (hb2 : 0 ≤ b ∧ b < n) (h : a ≠ b) : F_X11_badTwo_99 N (zi a) (zi b) = rI (zi 0) N := by
  have h0 : mI N 99 0 = zi 0 := hN ▸ th0
  unfold F_X11_badTwo_99 F_X11_badTwo_99_22 F_X11_badTwo_99_41
  simp (disch := omega) only [lt_z, cI_s, cJ_s, cV_s, bI_s, bI_e, bV_s, bV_e, zl, zi_neg, zi_add, zi_sub, zi_mul, ↓reduceIte, zb0, zb1, bb_and, bb_t, bb_f, zi_ltT, zi_ltF, zi_leT, zi_leF, zi_eqT, zi_eqF, zi_ixT, zi_nat, Int.toNat_natCast, Int.reduceToNat, ltNT, and_self, isLawM_t hn hb, bad_f h0]
theorem badTwo_same {M : PM} {n : Nat} {a b : Int} (hn : mA (sI M 99 0 (zi 0)) 103 0 = zi n) (hb : n ≤ 12) (ha : 0 ≤ a ∧ a < n) (hb2 : 0 ≤ b ∧ b < n) (h : a = b) : F_X11_badTwo_99 (sI M 99 0 (zi 0)) (zi a) (zi b) = rI (zi 1) (rm M (zi 2) 2) := by
  unfold F_X11_badTwo_99 F_X11_badTwo_99_22 F_X11_badTwo_99_41
  simp (disch := omega) only [lt_z, cI_s, cJ_s, cV_s, bI_s, bI_e, bV_s, bV_e, zl, zi_neg, zi_add, zi_sub, zi_mul, ↓reduceIte, zb0, zb1, bb_and, bb_t, bb_f, zi_ltT, zi_ltF, zi_leT, zi_leF, zi_eqT, zi_eqF, zi_ixT, zi_nat, Int.toNat_natCast, Int.reduceToNat, ltNT, and_self, isLawM_t hn hb, bad_f th0, bad_t th0]
  rfl
theorem badTwo_f {M : PM} {n : Nat} {a b : Int} (hn : mA (sI M 99 0 (zi 0)) 103 0 = zi n) (hb : n ≤ 12) (ha : -2147483648 ≤ a ∧ a < 2147483648) (hb2 : -2147483648 ≤ b ∧ b < 2147483648) (h : ¬ ((0 ≤ a ∧ a < n) ∧ 0 ≤ b ∧ b < n)) : F_X11_badTwo_99 (sI M 99 0 (zi 0)) (zi a) (zi b) = rI (zi 1) (rm M (zi 1) 1) := by
  unfold F_X11_badTwo_99 F_X11_badTwo_99_17 F_X11_badTwo_99_22
  by_cases q : 0 ≤ a ∧ a < n
  · simp (disch := omega) only [lt_z, cI_s, cJ_s, cV_s, bI_s, bI_e, bV_s, bV_e, zl, zi_neg, zi_add, zi_sub, zi_mul, ↓reduceIte, zb0, zb1, bb_and, bb_t, bb_f, zi_ltT, zi_ltF, zi_leT, zi_leF, zi_eqT, zi_eqF, zi_ixT, zi_nat, Int.toNat_natCast, Int.reduceToNat, ltNT, and_self, isLawM_t hn hb, isLawM_f hn hb, bad_t th0]
    rfl
  · simp (disch := omega) only [lt_z, cI_s, cJ_s, cV_s, bI_s, bI_e, bV_s, bV_e, zl, zi_neg, zi_add, zi_sub, zi_mul, ↓reduceIte, zb0, zb1, bb_and, bb_t, bb_f, zi_ltT, zi_ltF, zi_leT, zi_leF, zi_eqT, zi_eqF, zi_ixT, zi_nat, Int.toNat_natCast, Int.reduceToNat, ltNT, and_self, isLawM_f hn hb, bad_t th0]
    rfl
theorem isThief_s {M : PM} {C : Cal} {a b : Nat} {t : Int} (hc : WFC C) (c : CalM M C) (ha : a < cN C) (hb2 : b < cN C) (ht : 0 ≤ t ∧ t < 2147483648) : F_X11_isThiefs_99 M (zi a) (zi b) (zi t) = rI (bb (hb (cW C a) (cD C a) t && !hb (cW C b) (cD C b) t)) M := by
  have h1 := holdsAt_s hc c ha ht
  have h2 := holdsAt_s hc c hb2 ht
  unfold F_X11_isThiefs_99
  rw [h1, cI_s, h2, cI_s]
  cases hb (cW C a) (cD C a) t <;> cases hb (cW C b) (cD C b) t <;> rfl
theorem lcm24 {a b : Nat} (ha : a ≤ 24) (hb : 0 < b ∧ b ≤ 24) : Nat.lcm a b ≤ 576 := by
  rw [← lcm_eq hb.1]
  have h1 : a / Nat.gcd a b ≤ a := Nat.div_le_self _ _
  have : a / Nat.gcd a b * b ≤ 24 * 24 := Nat.mul_le_mul (by omega) hb.2
  omega
theorem daysWithout_s {M : PM} {C : Cal} {a b : Nat} (hc : WFC C) (c : CalC M C) (ha : a < cN C) (hb2 : b < cN C) : F_X2_daysWithout_4 M (zi a) (zi b) (zi (t4 C)) = rI (zi (thN C a b)) M := by
  have hn := hc.1.1
  have w1 := hc.2.1 a ha
  have w2 := hc.2.1 b hb2
  have hT := t4_le hc
  have e := thN_eq hc ha hb2
  have hl := lcm24 (a := cW C a) (b := cW C b) (by omega) (by omega)
  have hlp : 0 < Nat.lcm (cW C a) (cW C b) := Nat.lcm_pos (by omega) (by omega)
  have b1 := weekOf_t c.1.1 hn c.1.2.1 ha
  have b2 := weekOf_t c.1.1 hn c.1.2.1 hb2
  have b3 := commonTurn_s (M := M) (a := cW C a) (b := cW C b) (by omega) (by omega)
  have b4 := meetingWith_s hc c ha
  rw [ob_zi _ _ (by omega)] at b4
  have hp2 := p2 hn
  have hlt := obN_lt (fun k => mee (cW C k) (cD C k) (cW C a) (cD C a)) (cN C)
  have b5 := isIn_s (M := M) (k := b) (L := obN (fun k => mee (cW C k) (cD C k) (cW C a) (cD C a)) (cN C)) (by omega) (by omega)
  rw [obN_bit, decide_eq_true hb2, Bool.true_and, mee_comm] at b5
  unfold F_X2_daysWithout_4
  rw [b1, cI_s, b2, cI_s, b3, cI_s, if_neg (by rw [show (1 : Int32) = zi 1 from rfl, zi_lt (by omega) (by omega)]; omega), b1, cI_s, if_pos (by rw [show (1 : Int32) = zi 1 from rfl, zi_le (by omega) (by omega)]; omega), b1, cI_s, if_neg (by rw [show (0 : Int32) = zi 0 from rfl, zi_eq (by omega) (by omega)]; omega), b4, cI_s, b5, cI_s]
  have d1 : ((t4 C / cW C a : Nat) : Int) = (t4 C : Int) / (cW C a : Int) := Int.natCast_ediv _ _
  have d2 : ((t4 C / Nat.lcm (cW C a) (cW C b) : Nat) : Int) = (t4 C : Int) / (Nat.lcm (cW C a) (cW C b) : Int) := Int.natCast_ediv _ _
  cases hm : mee (cW C a) (cD C a) (cW C b) (cD C b)
  · rw [hm, if_neg (by decide)] at e
    rw [if_pos (by decide), zi_div (by omega) (by omega), show (0 : Int32) = zi 0 from rfl, zi_sub]
    rw [← d1, ← e]
    rw [zc (show ((thN C a b + 0 : Nat) : Int) - 0 = (thN C a b : Int) by omega)]
  · rw [hm, if_pos rfl] at e
    rw [if_neg (by decide), if_neg (by rw [show (0 : Int32) = zi 0 from rfl, zi_eq (by omega) (by omega)]; omega), zi_div (by omega) (by omega), zi_div (by omega) (by omega), zi_sub, ← d1, ← d2, ← e]
    rw [zc (show ((thN C a b + t4 C / Nat.lcm (cW C a) (cW C b) : Nat) : Int) - ((t4 C / Nat.lcm (cW C a) (cW C b) : Nat) : Int) = (thN C a b : Int) by omega)]
theorem thiefM {M : PM} {C : Cal} {a b : Nat} (hc : WFC C) (c : CalM M C) (ha : a < cN C) (hb2 : b < cN C) : F_X11_thief_99_21 FUEL M (zi a) (zi b) (zi 0) (zi 0) = rI (zi (thN C a b)) M := by
  have hT := t4_le hc
  have a1 := c.1.2.2.2.2.1
  exact loopU (t4 C) (fun f i => F_X11_thief_99_21 f M (zi a) (zi b) (zi (fb_ct (fun t => hb (cW C a) (cD C a) (t : Nat) && !hb (cW C b) (cD C b) (t : Nat)) i : Nat)) (zi (i : Nat))) _ (fun f => by
      rw [F_X11_thief_99_21]
      simp (disch := omega) only [lt_z, cI_s, cJ_s, cV_s, bI_s, bI_e, bV_s, bV_e, zl, zi_neg, zi_add, zi_sub, zi_mul, ↓reduceIte, zb0, zb1, bb_and, bb_t, bb_f, zi_ltT, zi_ltF, zi_leT, zi_leF, zi_eqT, zi_eqF, zi_ixT, zi_nat, Int.toNat_natCast, Int.reduceToNat, ltNT, and_self, a1]
      rfl) (fun f i hi => by
      have e := isThief_s (t := (i : Int)) hc c ha hb2 (by omega)
      rw [F_X11_thief_99_21, zc (show ((i + 1 : Nat) : Int) = i + 1 by omega), e, cI_s]
      unfold F_X11_thief_99_49
      cases h : (hb (cW C a) (cD C a) (i : Nat) && !hb (cW C b) (cD C b) (i : Nat))
      · rw [ctF (p := fun t : Nat => hb (cW C a) (cD C a) (t : Nat) && !hb (cW C b) (cD C b) (t : Nat)) h]
        generalize fb_ct (fun t : Nat => hb (cW C a) (cD C a) (t : Nat) && !hb (cW C b) (cD C b) (t : Nat)) i = n1
        simp (disch := omega) only [lt_z, cI_s, cJ_s, cV_s, bI_s, bI_e, bV_s, bV_e, zl, zi_neg, zi_add, zi_sub, zi_mul, ↓reduceIte, zb0, zb1, bb_and, bb_t, bb_f, zi_ltT, zi_ltF, zi_leT, zi_leF, zi_eqT, zi_eqF, zi_ixT, zi_nat, Int.toNat_natCast, Int.reduceToNat, ltNT, and_self, a1, Int.add_zero]
      · rw [ctT (p := fun t : Nat => hb (cW C a) (cD C a) (t : Nat) && !hb (cW C b) (cD C b) (t : Nat)) h]
        generalize fb_ct (fun t : Nat => hb (cW C a) (cD C a) (t : Nat) && !hb (cW C b) (cD C b) (t : Nat)) i = n1
        rw [zc (show ((n1 + 1 : Nat) : Int) = (n1 : Nat) + 1 by omega)]
        simp (disch := omega) only [lt_z, cI_s, cJ_s, cV_s, bI_s, bI_e, bV_s, bV_e, zl, zi_neg, zi_add, zi_sub, zi_mul, ↓reduceIte, zb0, zb1, bb_and, bb_t, bb_f, zi_ltT, zi_ltF, zi_leT, zi_leF, zi_eqT, zi_eqF, zi_ixT, zi_nat, Int.toNat_natCast, Int.reduceToNat, ltNT, and_self, a1]) 0 FUEL (by omega) (FUEL_gt (by omega))
theorem ok34 : OK_34 Rel := fun M a1 a2 hR => by
  obtain ⟨x, rfl, hx⟩ := zi_rng a1
  obtain ⟨z, rfl, hz⟩ := zi_rng a2
  have hR2 := hR
  obtain ⟨C, S, W, h1, h2, h3, h4, h5, h6, h7, h8, h9, h10, h11, h12⟩ := hR2
  have hb := h1.1.1
  unfold c_34 w_thief
  by_cases hl : (0 ≤ x ∧ x < cN C) ∧ 0 ≤ z ∧ z < cN C
  · by_cases he : x = z
    · refine okr3 (y := zi 0) 2 hR (by decide) (by decide) ?_ ?_
      · unfold F_X10_thief_0
        rw [needTwo_same h2.1.1 hb hl.1 hl.2 he, bV_e]
      · unfold F_X11_thief_99
        rw [show (0 : Int32) = zi 0 from rfl, badTwo_same (M := rf M 2) h3.1.1 hb hl.1 hl.2 he, cI_s, if_neg (by decide)]
    · obtain ⟨a, rfl, ha⟩ := natOf hl.1
      obtain ⟨b, rfl, hb2⟩ := natOf hl.2
      refine okq2 (x := zi (thN C a b)) (M1 := M) hR ?_ Sam0.rf (fun M' hs => ⟨sI M' 99 0 (zi 0), ?_, th0, Sam.th⟩)
      · unfold F_X10_thief_0
        rw [needTwo_t h2.1.1 hb hl.1 hl.2 he, bV_s, h2.2.2.2.1.2.2.1, daysWithout_s h1 h2 ha hb2, cI_s]
      · have c : CalM (sI M' 99 0 (zi 0)) C := h3.sm (hs.tr Sam.th.1)
        unfold F_X11_thief_99
        rw [show (0 : Int32) = zi 0 from rfl, badTwo_t rfl c.1.1 hb hl.1 hl.2 he, cI_s, if_pos rfl]
        exact thiefM h1 c ha hb2
  · refine okr2 (y := zi 0) 1 hR (by decide) ?_ ?_
    · unfold F_X10_thief_0
      rw [needTwo_f h2.1.1 hb hx hz hl, bV_e]
    · unfold F_X11_thief_99
      rw [show (0 : Int32) = zi 0 from rfl, badTwo_f (M := rf M 1) h3.1.1 hb hx hz hl, cI_s, if_neg (by decide)]
