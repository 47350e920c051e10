/-! turn, seen, did, work -/
theorem setAhead_s {M : PM} {h l : Nat} {v : Int32} (hh : h < 10) (hl : l < 12) : F_X3_setAhead_16 M (zi h) (zi l) v = rV (sA M 17 (h * 12 + l) v) := by
  unfold F_X3_setAhead_16 F_X3_isWheel_16
  have e : ((h : Int) * 12 + (l : Int)).toNat = h * 12 + l := by omega
  simp (disch := omega) only [lt_z, cI_s, cJ_s, cV_s, bI_s, bI_e, bV_s, bV_e, zl, zi_neg, zi_add, zi_sub, zi_mul, ↓reduceIte, zb0, zb1, bb_and, bb_t, bb_f, zi_ltT, zi_ltF, zi_leT, zi_leF, zi_eqT, zi_eqF, zi_ixT, zi_nat, Int.toNat_natCast, Int.reduceToNat, ltNT, and_self, e]
theorem ok7 : OK_7 Rel := fun M a1 a2 a3 hR => by
  obtain ⟨x, rfl, hx⟩ := zi_rng a1
  obtain ⟨z, rfl, hz⟩ := zi_rng a2
  obtain ⟨y, rfl, hy⟩ := zi_rng a3
  have hR2 := hR
  obtain ⟨C, S, W, h1, h2, h3, h4, h5, h6, h7, h8, h9, h10, h11, h12⟩ := hR2
  have hb := h1.1.1
  have hH := h1.1.2.2.1
  unfold c_7 w_turn
  by_cases hh : 0 ≤ x ∧ x < cH C
  · obtain ⟨h, rfl, hh2⟩ := natOf hh
    by_cases hl : 0 ≤ z ∧ z < cN C
    · obtain ⟨l, rfl, hl2⟩ := natOf hl
      by_cases hby : 0 ≤ y ∧ y ≤ 999
      · have w1 := h1.2.1 l hl2
        have w2 := h4.1 h l hh2 hl2
        have w3 := Int.emod_nonneg ((aS S h l : Int) + y) (b := (cW C l : Int)) (by omega)
        have w4 := Int.emod_lt_of_pos ((aS S h l : Int) + y) (b := (cW C l : Int)) (by omega)
        obtain ⟨v, hv⟩ : ∃ v : Nat, ((aS S h l : Int) + y) % (cW C l : Int) = v := ⟨(((aS S h l : Int) + y) % (cW C l : Int)).toNat, by omega⟩
        rw [hv] at w3 w4
        have hf : F_X10_turn_0 M (zi h) (zi l) (zi y) = rI (zi v) (sA M 17 (h * 12 + l) (zi v)) := by
          unfold F_X10_turn_0 F_X10_turn_0_27
          simp (disch := omega) only [lt_z, cI_s, cJ_s, cV_s, bI_s, bI_e, bV_s, bV_e, zl, zi_neg, zi_add, zi_sub, zi_mul, ↓reduceIte, zb0, zb1, bb_and, bb_t, bb_f, zi_ltT, zi_ltF, zi_leT, zi_leF, zi_eqT, zi_eqF, zi_ixT, zi_nat, Int.toNat_natCast, Int.reduceToNat, ltNT, and_self, needHouse_t h2.2.2.2.1.1, needLaw_t h2.1.1 hb, need_t, aheadOf_t h5.1 hH, weekOf_t h2.1.1 hb h2.1.2.1, left_s, hv, setAhead_s]
        refine okm2 (x := zi v) (M1 := sA M 17 (h * 12 + l) (zi v)) (M2 := sG (sI (sB (sA M 17 (h * 12 + l) (zi v)) 129 0 (zi v).toInt64) 99 0 (zi 0)) 115 h l (zi v)) hf ?_ ?_ rfl ?_
        · generalize hM : sB (sA M 17 (h * 12 + l) (zi v)) 129 0 (zi v).toInt64 = M1
          have c : CalM (sI M1 99 0 (zi 0)) C := by rw [← hM]; exact h3
          have s : StaM (sI M1 99 0 (zi 0)) C S := by rw [← hM]; exact h6
          unfold F_X11_turn_99 F_X11_turn_99_27 F_X11_turn_99_52
          generalize hN : sI M1 99 0 (zi 0) = N at c s
          have t0 : mI N 99 0 = zi 0 := hN ▸ th0
          rw [show (0 : Int32) = zi 0 from rfl, hN]
          simp (disch := omega) only [cI_s, lt_z, zl, ↓reduceIte, zi_ltT, zi_ltF, zi_leT, zi_leF, zi_eqT, zi_eqF, zi_ixT, zi_nat, Int.toNat_natCast, Int.reduceToNat, ltNT, and_self, isHouseM_t c.1.2.2.1, isLawM_t c.1.1 hb, in_t, bad_f t0, s.1, c.2.1, zi_add, zi_rem, hv]
          rw [mG, rG_at]
        · show (sI (sB (sA M 17 (h * 12 + l) (zi v)) 129 0 (zi v).toInt64) 99 0 (zi 0)).1 99 0 = zi 0
          exact rI_at
        · refine Rel_st (S := S) (S' := (fun a b => if a = h ∧ b = l then v else aS S a b, S.2)) h1 h2 h3 h7 h8 h9 h10 h11 h12 ?_ ?_ ?_ (fun p hp q1 q2 => u2_ne (nst hp q1 q2 (by decide))) (fun q hq => u1_ne (by omega)) (fun q hq => u1_ne (fun e => by rw [e] at hq; exact absurd hq (by decide))) (fun q i hq => u2_ne (by omega))
          · refine ⟨fun a b ha hb2 => ?_, fun a b ha hb2 => ?_, h4.2.2⟩
            · show (if a = h ∧ b = l then v else aS S a b) < cW C b
              split
              · rename_i e; rw [e.2]; omega
              · exact h4.1 a b ha hb2
            · show (if a = h ∧ b = l then v else aS S a b) = 0
              rw [if_neg (by omega)]
              exact h4.2.1 a b ha hb2
          · refine ⟨fun a b ha hb2 => ?_, h5.2⟩
            show (sA M 17 (h * 12 + l) (zi v)).2.2.1 17 (a * 12 + b) = zi ((if a = h ∧ b = l then v else aS S a b : Nat))
            by_cases e : a = h ∧ b = l
            · rw [if_pos e, e.1, e.2, rA_at]
            · rw [if_neg e, rA_nk (by omega)]
              exact h5.1 a b ha hb2
          · have eG : ∀ q j, q ≠ 115 → mG (sG (sI (sB (sA M 17 (h * 12 + l) (zi v)) 129 0 (zi v).toInt64) 99 0 (zi 0)) 115 h l (zi v)) q j = mG M q j := fun q j hq => rG_ne hq
            refine ⟨fun a b ha hb2 => ?_, h6.2.1, fun i hi => by rw [eG 119 i (by decide)]; exact h6.2.2.1 i hi, fun i hi => by rw [eG 120 i (by decide)]; exact h6.2.2.2.1 i hi, fun i hi => by rw [eG 121 i (by decide)]; exact h6.2.2.2.2 i hi⟩
            show (sG M 115 h l (zi v)).2.2.2.2 115 a b = zi ((if a = h ∧ b = l then v else aS S a b : Nat))
            by_cases e : a = h ∧ b = l
            · rw [if_pos e, e.1, e.2, rG_at]
            · rw [if_neg e]
              by_cases e2 : a = h
              · subst e2
                rw [rG_nk (fun e3 => e ⟨rfl, e3⟩)]
                exact h6.1 a b ha hb2
              · rw [rG_nr e2]
                exact h6.1 a b ha hb2
      · refine okr3 (y := zi 0) 2 hR (by decide) (by decide) ?_ ?_
        · unfold F_X10_turn_0 F_X10_turn_0_26 F_X10_turn_0_27
          by_cases q : y < 0
          · simp (disch := omega) only [lt_z, cI_s, cJ_s, cV_s, bI_s, bI_e, bV_s, bV_e, zl, zi_neg, zi_add, zi_sub, zi_mul, ↓reduceIte, zb0, zb1, bb_and, bb_t, bb_f, zi_ltT, zi_ltF, zi_leT, zi_leF, zi_eqT, zi_eqF, zi_ixT, zi_nat, Int.toNat_natCast, Int.reduceToNat, ltNT, and_self, needHouse_t h2.2.2.2.1.1, needLaw_t h2.1.1 hb, need_f]
          · simp (disch := omega) only [lt_z, cI_s, cJ_s, cV_s, bI_s, bI_e, bV_s, bV_e, zl, zi_neg, zi_add, zi_sub, zi_mul, ↓reduceIte, zb0, zb1, bb_and, bb_t, bb_f, zi_ltT, zi_ltF, zi_leT, zi_leF, zi_eqT, zi_eqF, zi_ixT, zi_nat, Int.toNat_natCast, Int.reduceToNat, ltNT, and_self, needHouse_t h2.2.2.2.1.1, needLaw_t h2.1.1 hb, need_f]
        · have a0 : mA (sI (rf M 2) 99 0 (zi 0)) 103 0 = zi (cN C) := h3.1.1
          have a2 : mA (sI (rf M 2) 99 0 (zi 0)) 103 2 = zi (cH C) := h3.1.2.2.1
          unfold F_X11_turn_99 F_X11_turn_99_27 F_X11_turn_99_52
          simp (disch := omega) only [lt_z, cI_s, cJ_s, cV_s, bI_s, bI_e, bV_s, bV_e, zl, zi_neg, zi_add, zi_sub, zi_mul, ↓reduceIte, zb0, zb1, bb_and, bb_t, bb_f, zi_ltT, zi_ltF, zi_leT, zi_leF, zi_eqT, zi_eqF, zi_ixT, zi_nat, Int.toNat_natCast, Int.reduceToNat, ltNT, and_self, isHouseM_t a2, isLawM_t a0 hb, in_f, bad_f th0, bad_t th0]
          rfl
    · refine okr2 (y := zi 0) 1 hR (by decide) ?_ ?_
      · unfold F_X10_turn_0
        simp (disch := omega) only [lt_z, cI_s, cJ_s, cV_s, bI_s, bI_e, bV_s, bV_e, zl, zi_neg, zi_add, zi_sub, zi_mul, ↓reduceIte, zb0, zb1, bb_and, bb_t, bb_f, zi_ltT, zi_ltF, zi_leT, zi_leF, zi_eqT, zi_eqF, zi_ixT, zi_nat, Int.toNat_natCast, Int.reduceToNat, ltNT, and_self, needHouse_t h2.2.2.2.1.1, needLaw_f h2.1.1 hb]
      · have a0 : mA (sI (rf M 1) 99 0 (zi 0)) 103 0 = zi (cN C) := h3.1.1
        have a2 : mA (sI (rf M 1) 99 0 (zi 0)) 103 2 = zi (cH C) := h3.1.2.2.1
        unfold F_X11_turn_99 F_X11_turn_99_22 F_X11_turn_99_27
        simp (disch := omega) only [lt_z, cI_s, cJ_s, cV_s, bI_s, bI_e, bV_s, bV_e, zl, zi_neg, zi_add, zi_sub, zi_mul, ↓reduceIte, zb0, zb1, bb_and, bb_t, bb_f, zi_ltT, zi_ltF, zi_leT, zi_leF, zi_eqT, zi_eqF, zi_ixT, zi_nat, Int.toNat_natCast, Int.reduceToNat, ltNT, and_self, isHouseM_t a2, isLawM_f a0 hb, bad_t th0]
        rfl
  · refine okr2 (y := zi 0) 1 hR (by decide) ?_ ?_
    · unfold F_X10_turn_0
      simp (disch := omega) only [lt_z, cI_s, cJ_s, cV_s, bI_s, bI_e, bV_s, bV_e, zl, zi_neg, zi_add, zi_sub, zi_mul, ↓reduceIte, zb0, zb1, bb_and, bb_t, bb_f, zi_ltT, zi_ltF, zi_leT, zi_leF, zi_eqT, zi_eqF, zi_ixT, zi_nat, Int.toNat_natCast, Int.reduceToNat, ltNT, and_self, needHouse_f h2.2.2.2.1.1]
    · have a2 : mA (sI (rf M 1) 99 0 (zi 0)) 103 2 = zi (cH C) := h3.1.2.2.1
      unfold F_X11_turn_99 F_X11_turn_99_22 F_X11_turn_99_27
      simp (disch := omega) only [lt_z, cI_s, cJ_s, cV_s, bI_s, bI_e, bV_s, bV_e, zl, zi_neg, zi_add, zi_sub, zi_mul, ↓reduceIte, zb0, zb1, bb_and, bb_t, bb_f, zi_ltT, zi_ltF, zi_leT, zi_leF, zi_eqT, zi_eqF, zi_ixT, zi_nat, Int.toNat_natCast, Int.reduceToNat, ltNT, and_self, isHouseM_f a2, bad_t th0]
      rfl
