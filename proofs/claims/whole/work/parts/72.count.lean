/-! count -/
theorem countC {M0 : PM} {C : Cal} {k : Nat} (hc : WFC C) (c0 : CalC M0 C) (hk : k ≤ 12) : ∃ M', F_X10_count_0_23 FUEL M0 (zi k) (zi 0) (zi 0) = rI (zi (fb_ct (fun t => decide (hcN (cW C) (cD C) (cN C) t = k)) (t4 C))) M' ∧ Sam M0 M' := by
  have hT := t4_le hc
  have h := loopS (σ := Nat × Int64 × Int64 × Int64 × Int64) (fun f s => F_X10_count_0_23 f (tl M0 s.2.1 s.2.2.1 s.2.2.2.1 s.2.2.2.2) (zi k) (zi (fb_ct (fun t => decide (hcN (cW C) (cD C) (cN C) t = k)) (min s.1 (t4 C)) : Nat)) (zi (s.1 : Nat))) (fun o => ∃ M', o = rI (zi (fb_ct (fun t => decide (hcN (cW C) (cD C) (cN C) t = k)) (t4 C))) M' ∧ Sam M0 M') (fun r s => r = t4 C - s.1 ∧ s.1 ≤ t4 C + 64) (fun f r s hI => by
    obtain ⟨a, p, q, u, v⟩ := s
    obtain ⟨r1, r2⟩ := hI
    simp only at r1 r2
    have c : CalC (tl M0 p q u v) C := c0
    have a1 := c.2.2.2.1.2.2.1
    by_cases e : t4 C ≤ a
    · left
      refine ⟨tl M0 p q u v, ?_, tl_sam⟩
      show F_X10_count_0_23 (f + 1) (tl M0 p q u v) (zi k) (zi (fb_ct (fun t => decide (hcN (cW C) (cD C) (cN C) t = k)) (min a (t4 C)) : Nat)) (zi (a : Nat)) = _
      rw [F_X10_count_0_23, show min a (t4 C) = t4 C by omega]
      simp (disch := omega) only [lt_z, cI_s, cJ_s, cV_s, bI_s, bI_e, bV_s, bV_e, zl, zi_neg, zi_add, zi_sub, zi_mul, ↓reduceIte, zb0, zb1, bb_and, bb_t, bb_f, zi_ltT, zi_ltF, zi_leT, zi_leF, zi_eqT, zi_eqF, zi_ixT, zi_nat, Int.toNat_natCast, Int.reduceToNat, ltNT, and_self, a1]
    · right
      obtain ⟨p', q', u', v', w1, w2⟩ := tally_s (M := M0) (a0 := p) (b0 := q) (c0 := u) (d0 := v) (t := (a : Int)) hc c0.1 (by omega)
      refine ⟨t4 C - (a + 64), (a + 64, p', q', u', v'), by omega, ⟨rfl, by show a + 64 ≤ t4 C + 64; omega⟩, ?_⟩
      obtain ⟨x, x1, x2⟩ := justSo_s (M := M0) hc w2 hk
      obtain ⟨y, y1, y2⟩ := low_s (M := tl M0 p' q' u' v') (b := (t4 C : Int) - a) (by omega)
      have a2 : mI (tl M0 p' q' u' v') 3 6 = zi (t4 C) := c0.2.2.2.1.2.2.1
      have e2 : fb_ct (lb (x &&& y)) 64 = fb_ct (fun i => (fun t : Nat => decide (hcN (cW C) (cD C) (cN C) t = k)) (a + i) && decide ((i : Int) < (t4 C : Int) - a)) 64 := fb_ct_cong (fun i hi => by rw [lb_and, x2 i hi, y2 i hi, ← Int.natCast_add])
      have hb := blk (p := fun t => decide (hcN (cW C) (cD C) (cN C) t = k)) (T := t4 C) (a := a) (by omega)
      show F_X10_count_0_23 (f + 1) (tl M0 p q u v) (zi k) (zi (fb_ct (fun t => decide (hcN (cW C) (cD C) (cN C) t = k)) (min a (t4 C)) : Nat)) (zi (a : Nat)) = F_X10_count_0_23 f (tl M0 p' q' u' v') (zi k) (zi (fb_ct (fun t => decide (hcN (cW C) (cD C) (cN C) t = k)) (min (a + 64) (t4 C)) : Nat)) (zi ((a + 64 : Nat)))
      rw [F_X10_count_0_23, w1, cV_s, x1, cJ_s, a2, zi_sub, y1, cJ_s, bitCount_lb, cI_s, e2, ← hb, zc (show ((a + 64 : Nat) : Int) = a + 64 by omega), zc (Int.natCast_add (fb_ct (fun t : Nat => decide (hcN (cW C) (cD C) (cN C) t = k)) (min a (t4 C))) _), a1, if_neg (by rw [zi_le (by omega) (by omega)]; omega)]
      generalize fb_ct (fun i => (fun t : Nat => decide (hcN (cW C) (cD C) (cN C) t = k)) (a + i) && decide ((i : Int) < (t4 C : Int) - a)) 64 = n1
      generalize fb_ct (fun t : Nat => decide (hcN (cW C) (cD C) (cN C) t = k)) (min a (t4 C)) = n2
      simp (disch := omega) only [lt_z, cI_s, cJ_s, cV_s, bI_s, bI_e, bV_s, bV_e, zl, zi_neg, zi_add, zi_sub, zi_mul, ↓reduceIte, zb0, zb1, bb_and, bb_t, bb_f, zi_ltT, zi_ltF, zi_leT, zi_leF, zi_eqT, zi_eqF, zi_ixT, zi_nat, Int.toNat_natCast, Int.reduceToNat, ltNT, and_self]) (t4 C) (0, mJ M0 4 5, mJ M0 4 6, mJ M0 4 7, mJ M0 4 8) FUEL ⟨by show t4 C = t4 C - 0; omega, by show 0 ≤ t4 C + 64; omega⟩ (FUEL_gt (by omega))
  simp only [Nat.zero_min, tl_self] at h
  exact h
theorem pop_ob {p : Nat → Bool} {n : Nat} (hn : n ≤ 12) : pop (obN p n) = fb_ct p n := by
  unfold pop
  rw [fb_ct_cong (q := fun i => p i && decide ((i : Int) < (n : Int))) (fun k hk => by rw [obN_bit, Bool.and_comm, decide_eq_decide.mpr (show k < n ↔ (k : Int) < (n : Int) by omega)]), ct_cut, show min 12 ((n : Int)).toNat = n by omega]
theorem countM {M : PM} {C : Cal} {k : Nat} (hc : WFC C) (c : CalM M C) (hk : k ≤ 12) : F_X11_count_99_35 FUEL M (zi k) (zi 0) (zi 0) = rI (zi (fb_ct (fun t => decide (hcN (cW C) (cD C) (cN C) t = k)) (t4 C))) M := by
  have hT := t4_le hc
  have hn := hc.1.1
  have a1 := c.1.2.2.2.2.1
  exact loopU (t4 C) (fun f i => F_X11_count_99_35 f M (zi k) (zi (fb_ct (fun t => decide (hcN (cW C) (cD C) (cN C) t = k)) i : Nat)) (zi (i : Nat))) _ (fun f => by
      rw [F_X11_count_99_35]
      simp (disch := omega) only [lt_z, cI_s, cJ_s, cV_s, bI_s, bI_e, bV_s, bV_e, zl, zi_neg, zi_add, zi_sub, zi_mul, ↓reduceIte, zb0, zb1, bb_and, bb_t, bb_f, zi_ltT, zi_ltF, zi_leT, zi_leF, zi_eqT, zi_eqF, zi_ixT, zi_nat, Int.toNat_natCast, Int.reduceToNat, ltNT, and_self, a1]) (fun f i hi => by
      have e := bitsAt_s (t := (i : Int)) hc c (by omega)
      rw [ob_zi _ _ (by omega)] at e
      have hlt := obN_lt (fun l => hb (cW C l) (cD C l) (i : Int)) (cN C)
      have hp2 := p2 hn
      have e2 := ones_s (M := M) (L := obN (fun l => hb (cW C l) (cD C l) (i : Int)) (cN C)) (by omega)
      rw [pop_ob hn] at e2
      have e3 : fb_ct (fun l => hb (cW C l) (cD C l) (i : Int)) (cN C) ≤ 12 := Nat.le_trans (fb_ct_le _ _) hn
      have e4 : hcN (cW C) (cD C) (cN C) (i : Int) = fb_ct (fun l => hb (cW C l) (cD C l) (i : Int)) (cN C) := rfl
      rw [F_X11_count_99_35, zc (show ((i + 1 : Nat) : Int) = i + 1 by omega), e, cI_s, e2, cI_s]
      unfold F_X11_count_99_63
      by_cases h : hcN (cW C) (cD C) (cN C) (i : Int) = k
      · rw [ctT (p := fun t : Nat => decide (hcN (cW C) (cD C) (cN C) t = k)) (decide_eq_true h), zc (show ((fb_ct (fun t : Nat => decide (hcN (cW C) (cD C) (cN C) t = k)) i + 1 : Nat) : Int) = (fb_ct (fun t : Nat => decide (hcN (cW C) (cD C) (cN C) t = k)) i : Nat) + 1 by omega)]
        rw [e4] at h
        generalize fb_ct (fun l => hb (cW C l) (cD C l) (i : Int)) (cN C) = n1 at *
        generalize fb_ct (fun t : Nat => decide (hcN (cW C) (cD C) (cN C) t = k)) i = n2 at *
        simp (disch := omega) only [lt_z, cI_s, cJ_s, cV_s, bI_s, bI_e, bV_s, bV_e, zl, zi_neg, zi_add, zi_sub, zi_mul, ↓reduceIte, zb0, zb1, bb_and, bb_t, bb_f, zi_ltT, zi_ltF, zi_leT, zi_leF, zi_eqT, zi_eqF, zi_ixT, zi_nat, Int.toNat_natCast, Int.reduceToNat, ltNT, and_self, a1]
      · rw [ctF (p := fun t : Nat => decide (hcN (cW C) (cD C) (cN C) t = k)) (decide_eq_false h)]
        rw [e4] at h
        generalize fb_ct (fun l => hb (cW C l) (cD C l) (i : Int)) (cN C) = n1 at *
        generalize fb_ct (fun t : Nat => decide (hcN (cW C) (cD C) (cN C) t = k)) i = n2 at *
        simp (disch := omega) only [lt_z, cI_s, cJ_s, cV_s, bI_s, bI_e, bV_s, bV_e, zl, zi_neg, zi_add, zi_sub, zi_mul, ↓reduceIte, zb0, zb1, bb_and, bb_t, bb_f, zi_ltT, zi_ltF, zi_leT, zi_leF, zi_eqT, zi_eqF, zi_ixT, zi_nat, Int.toNat_natCast, Int.reduceToNat, ltNT, and_self, a1, Int.add_zero]) 0 FUEL (by omega) (FUEL_gt (by omega))
theorem ok17 : OK_17 Rel := fun M a1 hR => by
  obtain ⟨z, rfl, hz⟩ := zi_rng a1
  have hR2 := hR
  obtain ⟨C, S, W, h1, h2, h3, h4, h5, h6, h7, h8, h9, h10, h11, h12⟩ := hR2
  unfold c_17 w_count
  by_cases h : 0 ≤ z ∧ z ≤ 12
  · obtain ⟨k, rfl, hk⟩ := natOf (z := z) (n := 13) ⟨h.1, by omega⟩
    obtain ⟨M1, m1, m2⟩ := countC h1 h2 (show k ≤ 12 by omega)
    refine okq1 (x := zi (fb_ct (fun t => decide (hcN (cW C) (cD C) (cN C) t = k)) (t4 C))) (M1 := M1) hR ?_ m2.1 (fun M' hs => ⟨sI M' 99 0 (zi 0), ?_, th0, Sam.th⟩)
    · unfold F_X10_count_0 F_X10_count_0_16
      simp (disch := omega) only [lt_z, cI_s, cJ_s, cV_s, bI_s, bI_e, bV_s, bV_e, zl, zi_neg, zi_add, zi_sub, zi_mul, ↓reduceIte, zb0, zb1, bb_and, bb_t, bb_f, zi_ltT, zi_ltF, zi_leT, zi_leF, zi_eqT, zi_eqF, zi_ixT, zi_nat, Int.toNat_natCast, Int.reduceToNat, ltNT, and_self, need_t]
      exact m1
    · have c : CalM (sI M' 99 0 (zi 0)) C := h3.sm (hs.tr Sam.th.1)
      unfold F_X11_count_99
      simp (disch := omega) only [lt_z, cI_s, cJ_s, cV_s, bI_s, bI_e, bV_s, bV_e, zl, zi_neg, zi_add, zi_sub, zi_mul, ↓reduceIte, zb0, zb1, bb_and, bb_t, bb_f, zi_ltT, zi_ltF, zi_leT, zi_leF, zi_eqT, zi_eqF, zi_ixT, zi_nat, Int.toNat_natCast, Int.reduceToNat, ltNT, and_self, in_t]
      unfold F_X11_count_99_21
      rw [bad_f th0, cI_s]
      exact countM h1 c (by omega)
  · refine okr1 (y := zi 0) 2 hR (by decide) ?_ ?_
    · unfold F_X10_count_0 F_X10_count_0_15 F_X10_count_0_16
      by_cases q : z < 0
      · simp (disch := omega) only [lt_z, cI_s, cJ_s, cV_s, bI_s, bI_e, bV_s, bV_e, zl, zi_neg, zi_add, zi_sub, zi_mul, ↓reduceIte, zb0, zb1, bb_and, bb_t, bb_f, zi_ltT, zi_ltF, zi_leT, zi_leF, zi_eqT, zi_eqF, zi_ixT, zi_nat, Int.toNat_natCast, Int.reduceToNat, ltNT, and_self, need_f]
      · simp (disch := omega) only [lt_z, cI_s, cJ_s, cV_s, bI_s, bI_e, bV_s, bV_e, zl, zi_neg, zi_add, zi_sub, zi_mul, ↓reduceIte, zb0, zb1, bb_and, bb_t, bb_f, zi_ltT, zi_ltF, zi_leT, zi_leF, zi_eqT, zi_eqF, zi_ixT, zi_nat, Int.toNat_natCast, Int.reduceToNat, ltNT, and_self, need_f]
    · unfold F_X11_count_99
      simp (disch := omega) only [lt_z, cI_s, cJ_s, cV_s, bI_s, bI_e, bV_s, bV_e, zl, zi_neg, zi_add, zi_sub, zi_mul, ↓reduceIte, zb0, zb1, bb_and, bb_t, bb_f, zi_ltT, zi_ltF, zi_leT, zi_leF, zi_eqT, zi_eqF, zi_ixT, zi_nat, Int.toNat_natCast, Int.reduceToNat, ltNT, and_self, in_f]
      unfold F_X11_count_99_21
      simp (disch := omega) only [lt_z, cI_s, cJ_s, cV_s, bI_s, bI_e, bV_s, bV_e, zl, zi_neg, zi_add, zi_sub, zi_mul, ↓reduceIte, zb0, zb1, bb_and, bb_t, bb_f, zi_ltT, zi_ltF, zi_leT, zi_leF, zi_eqT, zi_eqF, zi_ixT, zi_nat, Int.toNat_natCast, Int.reduceToNat, ltNT, and_self, bad_t th0]
      rfl
