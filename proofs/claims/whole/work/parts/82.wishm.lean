/-! the reference's side of a wish; such -/
theorem such292 {K : PM} {W : Wsh} {d t : Int} {k : Nat} {F : PM → Int32 → Int32 → Int32 → Int32 → Option PR} (hk : k < 100) (g0 : mG K 116 k 0 = zi (hS W k)) (h7 : hS W k ≤ 7) (hd : 5 < hS W k → 2 ≤ hDep W k) : F_X11_isSuch_99_292 F K (zi d) (zi t) (zi (hDep W k)) (zi k) = F K (zi d) (zi t) (zi (hDep W (k + 1))) (zi ((k + 1 : Nat))) := by
  have hdl := hDep_le W k
  unfold F_X11_isSuch_99_292 F_X11_isSuch_99_328
  rw [hDep, zc (show ((k + 1 : Nat) : Int) = k + 1 by omega)]
  by_cases q5 : hS W k < 5
  · rw [if_pos q5, zc (show ((hDep W k + 1 : Nat) : Int) = hDep W k + 1 by omega)]
    simp (disch := omega) only [lt_z, cI_s, cJ_s, cV_s, bI_s, bI_e, bV_s, bV_e, zl, zi_neg, zi_add, zi_sub, zi_mul, ↓reduceIte, zb0, zb1, bb_and, bb_t, bb_f, zi_ltT, zi_ltF, zi_leT, zi_leF, zi_eqT, zi_eqF, zi_ixT, zi_nat, Int.toNat_natCast, Int.reduceToNat, ltNT, and_self, g0]
  · rw [if_neg q5]
    by_cases q6 : hS W k = 5
    · rw [if_pos q6]
      rw [q6] at g0
      simp (disch := omega) only [lt_z, cI_s, cJ_s, cV_s, bI_s, bI_e, bV_s, bV_e, zl, zi_neg, zi_add, zi_sub, zi_mul, ↓reduceIte, zb0, zb1, bb_and, bb_t, bb_f, zi_ltT, zi_ltF, zi_leT, zi_leF, zi_eqT, zi_eqF, zi_ixT, zi_nat, Int.toNat_natCast, Int.reduceToNat, ltNT, and_self, g0, Int.add_zero]
    · rw [if_neg q6, zc (show ((hDep W k - 1 : Nat) : Int) = hDep W k + -1 by omega)]
      simp (disch := omega) only [lt_z, cI_s, cJ_s, cV_s, bI_s, bI_e, bV_s, bV_e, zl, zi_neg, zi_add, zi_sub, zi_mul, ↓reduceIte, zb0, zb1, bb_and, bb_t, bb_f, zi_ltT, zi_ltF, zi_leT, zi_leF, zi_eqT, zi_eqF, zi_ixT, zi_nat, Int.toNat_natCast, Int.reduceToNat, ltNT, and_self, g0]
theorem isSuch11 {M : PM} {C : Cal} {S : Sta} {W : Wsh} {d t : Int} (hc : WFC C) (hw : WFS C S) (hv : WFW C W) (c : CalM M C) (st : StaM M C S) (ws : WisM M C W) (ht : 0 ≤ t ∧ t ≤ 1000000000) (hd : 0 ≤ d ∧ d ≤ 1000000000) : ∃ N, F_X11_isSuch_99_11 FUEL M (zi d) (zi t) (zi 0) (zi 0) = rI (bb (wsB C S W d t)) N ∧ Sam M N ∧ mI N 99 0 = mI M 99 0 := by
  have h100 := hv.1
  have hn := hc.1.1
  have hp2 := p2 hn
  have h := loopS (σ := Nat × PM) (fun f s => F_X11_isSuch_99_11 f s.2 (zi d) (zi t) (zi (hDep W s.1 : Nat)) (zi (s.1 : Nat))) (fun o => ∃ N, o = rI (bb (wsB C S W d t)) N ∧ Sam M N ∧ mI N 99 0 = mI M 99 0) (fun r s => s.1 ≤ hN W ∧ r = hN W - s.1 ∧ Sam M s.2 ∧ mI s.2 99 0 = mI M 99 0 ∧ ∀ j, j < hDep W s.1 → mA s.2 118 j = bb (evS C S W d t s.1 j)) (fun f r s hI => by
    obtain ⟨k, N⟩ := s
    obtain ⟨h1, h2, h3, h4, h5⟩ := hI
    simp only at h1 h2 h3 h4 h5
    have cn := c.sm h3.1
    have sn := st.sm h3.1
    have wn := ws.sm h3.1
    have a1 := wn.1
    have hdl := hDep_le W k
    show (∃ N', F_X11_isSuch_99_11 (f + 1) N (zi d) (zi t) (zi (hDep W k : Nat)) (zi (k : Nat)) = rI (bb (wsB C S W d t)) N' ∧ _) ∨ _
    by_cases hk : k = hN W
    · left
      subst hk
      refine ⟨N, ?_, h3, h4⟩
      unfold wsB
      by_cases e0 : hN W = 0
      · have e1 : hDep W (hN W) = 0 := by omega
        rw [if_pos e0, F_X11_isSuch_99_11, if_pos (by rw [a1, zi_le (by omega) (by omega)]; omega), e1]
        rfl
      · have hpos := hv.2.2.1 (by omega)
        have h50 := h5 0 hpos
        rw [if_neg e0, F_X11_isSuch_99_11, if_pos (by rw [a1, zi_le (by omega) (by omega)]; omega), if_neg (by rw [show (0 : Int32) = zi 0 from rfl, zi_eq (by omega) (by omega)]; omega), if_pos (by decide), show mA N 118 (0 : Int32).toNatClampNeg = bb (evS C S W d t (hN W) 0) from h50]
        cases evS C S W d t (hN W) 0 <;> rfl
    · right
      have hkn : k < hN W := by omega
      obtain ⟨g0, g1, g2⟩ := wn.2.2 k hkn
      obtain ⟨v7, v0, v1, v2, v3, v4, v5, v6⟩ := hv.2.2.2 k hkn
      have fin : ∀ (j : Nat) (v : Bool), (∀ i, i < hDep W (k + 1) → evS C S W d t (k + 1) i = if i = j then v else evS C S W d t k i) → (∀ i, i < hDep W (k + 1) → i ≠ j → i < hDep W k) → F_X11_isSuch_99_11 (f + 1) N (zi d) (zi t) (zi (hDep W k : Nat)) (zi (k : Nat)) = F_X11_isSuch_99_292 (F_X11_isSuch_99_11 f) (sA N 118 j (bb v)) (zi d) (zi t) (zi (hDep W k)) (zi k) → ∃ (r' : Nat) (s' : Nat × PM), r' < r ∧ (s'.1 ≤ hN W ∧ r' = hN W - s'.1 ∧ Sam M s'.2 ∧ mI s'.2 99 0 = mI M 99 0 ∧ ∀ j, j < hDep W s'.1 → mA s'.2 118 j = bb (evS C S W d t s'.1 j)) ∧ F_X11_isSuch_99_11 (f + 1) N (zi d) (zi t) (zi (hDep W k : Nat)) (zi (k : Nat)) = F_X11_isSuch_99_11 f s'.2 (zi d) (zi t) (zi (hDep W s'.1 : Nat)) (zi (s'.1 : Nat)) := by
        intro j v e1 e2 e3
        refine ⟨hN W - (k + 1), (k + 1, sA N 118 j (bb v)), by omega, ⟨by show k + 1 ≤ hN W; omega, rfl, Sam.a 118 _ _ (by decide) h3, h4, fun i hi => ?_⟩, ?_⟩
        · show (sA N 118 j (bb v)).2.2.1 118 i = bb (evS C S W d t (k + 1) i)
          have hi2 : i < hDep W (k + 1) := hi
          rw [e1 i hi2]
          by_cases q : i = j
          · rw [if_pos q, q, rA_at]
          · rw [if_neg q, rA_nk q]
            exact h5 i (e2 i hi2 q)
        · rw [e3]
          exact such292 (by omega) g0 v7 v6
      have hsc : hS W k = 0 ∨ hS W k = 1 ∨ hS W k = 2 ∨ hS W k = 3 ∨ hS W k = 4 ∨ hS W k = 5 ∨ hS W k = 6 ∨ hS W k = 7 := by omega
      have dep5 : hS W k < 5 → hDep W (k + 1) = hDep W k + 1 := fun q => by rw [hDep, if_pos q]
      have ev5 : hS W k < 5 → ∀ i, evS C S W d t (k + 1) i = if i = hDep W k then atm C S W k d t else evS C S W d t k i := fun q i => by rw [evS, if_pos q]
      rcases hsc with e | e | e | e | e | e | e | e
      · have r1 := holdsAt_s (t := t) hc cn (v0 e) (by omega)
        have ea : atm C S W k d t = hb (cW C (hA W k)) (cD C (hA W k)) t := by unfold atm; rw [if_pos e]
        rw [e] at g0
        refine fin (hDep W k) (atm C S W k d t) (fun i _ => ev5 (by omega) i) (fun i h6 h7 => by rw [dep5 (by omega)] at h6; omega) ?_
        rw [ea, F_X11_isSuch_99_11]
        simp (disch := omega) only [lt_z, cI_s, cJ_s, cV_s, bI_s, bI_e, bV_s, bV_e, zl, zi_neg, zi_add, zi_sub, zi_mul, ↓reduceIte, zb0, zb1, bb_and, bb_t, bb_f, zi_ltT, zi_ltF, zi_leT, zi_leF, zi_eqT, zi_eqF, zi_ixT, zi_nat, Int.toNat_natCast, Int.reduceToNat, ltNT, and_self, a1, g0, g1, g2, r1, Int.natCast_zero]
      · have r1 := bitsAt_s (t := t) hc cn (by omega)
        rw [ob_zi _ _ (by omega)] at r1
        have hlt := obN_lt (fun l => hb (cW C l) (cD C l) t) (cN C)
        have r2 := ones_s (M := N) (L := obN (fun l => hb (cW C l) (cD C l) t) (cN C)) (by omega)
        rw [pop_ob hn] at r2
        have r3 : hcN (cW C) (cD C) (cN C) t ≤ 12 := Nat.le_trans (fb_ct_le _ _) hn
        have r4 := v1 e
        have ea : atm C S W k d t = decide (hcN (cW C) (cD C) (cN C) t = hA W k) := by unfold atm; rw [if_neg (by omega), if_pos e]
        rw [show fb_ct (fun l => hb (cW C l) (cD C l) t) (cN C) = hcN (cW C) (cD C) (cN C) t from rfl] at r2
        generalize hcN (cW C) (cD C) (cN C) t = n1 at *
        rw [e] at g0
        refine fin (hDep W k) (atm C S W k d t) (fun i _ => ev5 (by omega) i) (fun i h6 h7 => by rw [dep5 (by omega)] at h6; omega) ?_
        rw [ea, F_X11_isSuch_99_11, r1]
        simp only [cI_s]
        rw [r2]
        unfold F_X11_isSuch_99_131
        by_cases q : n1 = hA W k
        · rw [decide_eq_true q]
          simp (disch := omega) only [lt_z, cI_s, cJ_s, cV_s, bI_s, bI_e, bV_s, bV_e, zl, zi_neg, zi_add, zi_sub, zi_mul, ↓reduceIte, zb0, zb1, bb_and, bb_t, bb_f, zi_ltT, zi_ltF, zi_leT, zi_leF, zi_eqT, zi_eqF, zi_ixT, zi_nat, Int.toNat_natCast, Int.reduceToNat, ltNT, and_self, a1, g0, g1, g2, Int.natCast_one]
        · rw [decide_eq_false q]
          simp (disch := omega) only [lt_z, cI_s, cJ_s, cV_s, bI_s, bI_e, bV_s, bV_e, zl, zi_neg, zi_add, zi_sub, zi_mul, ↓reduceIte, zb0, zb1, bb_and, bb_t, bb_f, zi_ltT, zi_ltF, zi_leT, zi_leF, zi_eqT, zi_eqF, zi_ixT, zi_nat, Int.toNat_natCast, Int.reduceToNat, ltNT, and_self, a1, g0, g1, g2, Int.natCast_one]
      · have r1 := v2 e
        have m1 := Int.emod_nonneg d (b := (hA W k : Int)) (by omega)
        have m2 := Int.emod_lt_of_pos d (b := (hA W k : Int)) (by omega)
        have ea : atm C S W k d t = decide (d % (hA W k : Int) = (hB W k : Int)) := by unfold atm hb; rw [if_neg (by omega), if_neg (by omega), if_pos e]
        rw [e] at g0
        refine fin (hDep W k) (atm C S W k d t) (fun i _ => ev5 (by omega) i) (fun i h6 h7 => by rw [dep5 (by omega)] at h6; omega) ?_
        rw [ea, F_X11_isSuch_99_11]
        unfold F_X11_isSuch_99_154
        by_cases q : d % (hA W k : Int) = (hB W k : Int)
        · rw [decide_eq_true q]
          simp (disch := omega) only [lt_z, zl, ↓reduceIte, zi_ltT, zi_ltF, zi_leT, zi_leF, zi_eqT, zi_eqF, zi_ixT, zi_nat, Int.toNat_natCast, Int.reduceToNat, ltNT, and_self, a1, g0, g1, g2, zi_rem, q, zb0, zb1, bb_t]
        · rw [decide_eq_false q]
          simp (disch := omega) only [lt_z, zl, ↓reduceIte, zi_ltT, zi_ltF, zi_leT, zi_leF, zi_eqT, zi_eqF, zi_ixT, zi_nat, Int.toNat_natCast, Int.reduceToNat, ltNT, and_self, a1, g0, g1, g2, zi_rem, zb0, zb1, bb_f]
      · have r0 := v3 e
        have r1 := inHouseAt_s (t := t) hc hw cn sn r0.1 r0.2 (by omega)
        have ea : atm C S W k d t = hb (cW C (hB W k)) (cD C (hB W k)) (t + aS S (hA W k) (hB W k)) := by unfold atm; rw [if_neg (by omega), if_neg (by omega), if_neg (by omega), if_pos e]
        rw [e] at g0
        refine fin (hDep W k) (atm C S W k d t) (fun i _ => ev5 (by omega) i) (fun i h6 h7 => by rw [dep5 (by omega)] at h6; omega) ?_
        rw [ea, F_X11_isSuch_99_11]
        simp (disch := omega) only [lt_z, cI_s, cJ_s, cV_s, bI_s, bI_e, bV_s, bV_e, zl, zi_neg, zi_add, zi_sub, zi_mul, ↓reduceIte, zb0, zb1, bb_and, bb_t, bb_f, zi_ltT, zi_ltF, zi_leT, zi_leF, zi_eqT, zi_eqF, zi_ixT, zi_nat, Int.toNat_natCast, Int.reduceToNat, ltNT, and_self, a1, g0, g1, g2, r1]
      · have r1 := otherHolds_s (t := t) hc cn (v4 e) (by omega)
        have ea : atm C S W k d t = hb (oW C (hA W k)) (oD C (hA W k)) t := by unfold atm; rw [if_neg (by omega), if_neg (by omega), if_neg (by omega), if_neg (by omega)]
        rw [e] at g0
        refine fin (hDep W k) (atm C S W k d t) (fun i _ => ev5 (by omega) i) (fun i h6 h7 => by rw [dep5 (by omega)] at h6; omega) ?_
        rw [ea, F_X11_isSuch_99_11]
        simp (disch := omega) only [lt_z, cI_s, cJ_s, cV_s, bI_s, bI_e, bV_s, bV_e, zl, zi_neg, zi_add, zi_sub, zi_mul, ↓reduceIte, zb0, zb1, bb_and, bb_t, bb_f, zi_ltT, zi_ltF, zi_leT, zi_leF, zi_eqT, zi_eqF, zi_ixT, zi_nat, Int.toNat_natCast, Int.reduceToNat, ltNT, and_self, a1, g0, g1, g2, r1]
      · have r0 := v5 e
        have r1 := h5 (hDep W k - 1) (by omega)
        have hd1 : hDep W (k + 1) = hDep W k := by rw [hDep, if_neg (by omega), if_pos e]
        have e9 : ((hDep W k : Int) - 1).toNat = hDep W k - 1 := by omega
        have ev : ∀ i, evS C S W d t (k + 1) i = if i = hDep W k - 1 then !evS C S W d t k (hDep W k - 1) else evS C S W d t k i := fun i => by rw [evS, if_neg (by omega), if_pos e]
        rw [e] at g0
        refine fin (hDep W k - 1) (!evS C S W d t k (hDep W k - 1)) (fun i _ => ev i) (fun i h6 h7 => by omega) ?_
        rw [F_X11_isSuch_99_11]
        unfold F_X11_isSuch_99_215
        cases hq : evS C S W d t k (hDep W k - 1)
        · rw [hq] at r1
          simp (disch := omega) only [lt_z, cI_s, cJ_s, cV_s, bI_s, bI_e, bV_s, bV_e, zl, zi_neg, zi_add, zi_sub, zi_mul, ↓reduceIte, zb0, zb1, bb_and, bb_t, bb_f, zi_ltT, zi_ltF, zi_leT, zi_leF, zi_eqT, zi_eqF, zi_ixT, zi_nat, Int.toNat_natCast, Int.reduceToNat, ltNT, and_self, a1, g0, g1, g2, e9, r1, Bool.not_false]
        · rw [hq] at r1
          simp (disch := omega) only [lt_z, cI_s, cJ_s, cV_s, bI_s, bI_e, bV_s, bV_e, zl, zi_neg, zi_add, zi_sub, zi_mul, ↓reduceIte, zb0, zb1, bb_and, bb_t, bb_f, zi_ltT, zi_ltF, zi_leT, zi_leF, zi_eqT, zi_eqF, zi_ixT, zi_nat, Int.toNat_natCast, Int.reduceToNat, ltNT, and_self, a1, g0, g1, g2, e9, r1, Bool.not_true]
      · have r0 := v6 (by omega)
        have r1 := h5 (hDep W k - 1) (by omega)
        have r2 := h5 (hDep W k - 2) (by omega)
        have hd1 : hDep W (k + 1) = hDep W k - 1 := by rw [hDep, if_neg (by omega), if_neg (by omega)]
        have e9 : ((hDep W k : Int) - 1).toNat = hDep W k - 1 := by omega
        have e8 : ((hDep W k : Int) - 2).toNat = hDep W k - 2 := by omega
        have ev : ∀ i, evS C S W d t (k + 1) i = if i = hDep W k - 2 then (evS C S W d t k (hDep W k - 2) && evS C S W d t k (hDep W k - 1)) else evS C S W d t k i := fun i => by rw [evS, if_neg (by omega), if_neg (by omega), if_pos e]
        rw [e] at g0
        refine fin (hDep W k - 2) (evS C S W d t k (hDep W k - 2) && evS C S W d t k (hDep W k - 1)) (fun i _ => ev i) (fun i h6 h7 => by omega) ?_
        rw [F_X11_isSuch_99_11]
        unfold F_X11_isSuch_99_252 F_X11_isSuch_99_253
        cases hq : evS C S W d t k (hDep W k - 1) <;> cases hp : evS C S W d t k (hDep W k - 2) <;> rw [hq] at r1 <;> rw [hp] at r2 <;> simp (disch := omega) only [lt_z, cI_s, cJ_s, cV_s, bI_s, bI_e, bV_s, bV_e, zl, zi_neg, zi_add, zi_sub, zi_mul, ↓reduceIte, zb0, zb1, bb_and, bb_t, bb_f, zi_ltT, zi_ltF, zi_leT, zi_leF, zi_eqT, zi_eqF, zi_ixT, zi_nat, Int.toNat_natCast, Int.reduceToNat, ltNT, and_self, a1, g0, g1, g2, e9, e8, r1, r2, Bool.and_true, Bool.and_false, Bool.false_and]
      · have r0 := v6 (by omega)
        have r1 := h5 (hDep W k - 1) (by omega)
        have r2 := h5 (hDep W k - 2) (by omega)
        have hd1 : hDep W (k + 1) = hDep W k - 1 := by rw [hDep, if_neg (by omega), if_neg (by omega)]
        have e9 : ((hDep W k : Int) - 1).toNat = hDep W k - 1 := by omega
        have e8 : ((hDep W k : Int) - 2).toNat = hDep W k - 2 := by omega
        have ev : ∀ i, evS C S W d t (k + 1) i = if i = hDep W k - 2 then (evS C S W d t k (hDep W k - 2) || evS C S W d t k (hDep W k - 1)) else evS C S W d t k i := fun i => by rw [evS, if_neg (by omega), if_neg (by omega), if_neg (by omega)]
        rw [e] at g0
        refine fin (hDep W k - 2) (evS C S W d t k (hDep W k - 2) || evS C S W d t k (hDep W k - 1)) (fun i _ => ev i) (fun i h6 h7 => by omega) ?_
        rw [F_X11_isSuch_99_11]
        unfold F_X11_isSuch_99_286 F_X11_isSuch_99_291
        cases hq : evS C S W d t k (hDep W k - 1) <;> cases hp : evS C S W d t k (hDep W k - 2) <;> rw [hq] at r1 <;> rw [hp] at r2 <;> simp (disch := omega) only [lt_z, cI_s, cJ_s, cV_s, bI_s, bI_e, bV_s, bV_e, zl, zi_neg, zi_add, zi_sub, zi_mul, ↓reduceIte, zb0, zb1, bb_and, bb_t, bb_f, zi_ltT, zi_ltF, zi_leT, zi_leF, zi_eqT, zi_eqF, zi_ixT, zi_nat, Int.toNat_natCast, Int.reduceToNat, ltNT, and_self, a1, g0, g1, g2, e9, e8, r1, r2, Bool.or_true, Bool.or_false, Bool.true_or]) (hN W) (0, M) FUEL ⟨Nat.zero_le _, rfl, Sam.rf, rfl, fun j hj => absurd hj (Nat.not_lt_zero j)⟩ (FUEL_gt (by omega))
  exact h
theorem isSuch_s {M : PM} {C : Cal} {S : Sta} {W : Wsh} {d : Nat} (hc : WFC C) (hw : WFS C S) (hv : WFW C W) (c : CalM M C) (st : StaM M C S) (ws : WisM M C W) (hd : d ≤ 1000000000) : ∃ N, F_X11_isSuch_99 M (zi d) = rI (bb (wsB C S W d (tO C d))) N ∧ Sam M N ∧ mI N 99 0 = mI M 99 0 := by
  have h0 := tO_nn hc (d := (d : Int)) (by omega)
  obtain ⟨N, n1, n2⟩ := isSuch11 (d := (d : Int)) (t := tO C (d : Int)) hc hw hv c st ws (by omega) (by omega)
  refine ⟨N, ?_, n2⟩
  unfold F_X11_isSuch_99
  rw [turnedOn_s (d := (d : Int)) hc c.1.2.2.2.1 c.2.2.2.2.2 (by omega), cI_s]
  exact n1
