theorem otherHolds_s {M : PM} {C : Cal} {t : Int} {l : Nat} (hc : WFC C) (c : CalM M C) (hl : l < oN C) (ht : 0 ≤ t ∧ t < 2147483648) : F_X11_otherHoldsAt_99 M (zi l) (zi t) = rI (bb (hb (oW C l) (oD C l) t)) M := by
  have hn := hc.1.2.1
  have h1 := hc.2.2.1 l hl
  have h2 := Int.emod_nonneg t (b := (oW C l : Int)) (by omega)
  have h3 := Int.emod_lt_of_pos t (b := (oW C l : Int)) (by omega)
  obtain ⟨-, -, -, a1, a2, -⟩ := c
  unfold F_X11_otherHoldsAt_99 hb
  by_cases e : t % (oW C l : Int) = (oD C l : Int)
  · rw [decide_eq_true e]
    simp (disch := omega) only [zi_ixT, zi_nat, Int.toNat_natCast, Int.reduceToNat, ltNT, and_self, a1, a2, zi_rem]
    simp (disch := omega) only [lt_z, cI_s, cJ_s, cV_s, bI_s, bI_e, bV_s, bV_e, zl, zi_neg, zi_add, zi_sub, zi_mul, ↓reduceIte, zb0, zb1, bb_and, bb_t, bb_f, zi_ltT, zi_ltF, zi_leT, zi_leF, zi_eqT, zi_eqF, zi_ixT, zi_nat, Int.toNat_natCast, Int.reduceToNat, ltNT, and_self, e]
  · rw [decide_eq_false e]
    simp (disch := omega) only [zi_ixT, zi_nat, Int.toNat_natCast, Int.reduceToNat, ltNT, and_self, a1, a2, zi_rem]
    simp (disch := omega) only [lt_z, cI_s, cJ_s, cV_s, bI_s, bI_e, bV_s, bV_e, zl, zi_neg, zi_add, zi_sub, zi_mul, ↓reduceIte, zb0, zb1, bb_and, bb_t, bb_f, zi_ltT, zi_ltF, zi_leT, zi_leF, zi_eqT, zi_eqF, zi_ixT, zi_nat, Int.toNat_natCast, Int.reduceToNat, ltNT, and_self]
theorem anL_t {n : Nat} {w d : Nat → Nat} {L l : Nat} {t : Int} (hl : l < n) (h1 : L.testBit l = true) (h2 : hb (w l) (d l) t = true) : anL n w d L t = true := by
  unfold anL
  rw [noB_f (p := fun l => L.testBit l && hb (w l) (d l) t) hl (by show (L.testBit l && hb (w l) (d l) t) = true; rw [h1, h2]; rfl)]
  rfl
theorem anL_f {n : Nat} {w d : Nat → Nat} {L : Nat} {t : Int} (h : ∀ l, l < n → (L.testBit l && hb (w l) (d l) t) = false) : anL n w d L t = false := by
  unfold anL
  rw [noB_t h]
  rfl
/-- the laws that hold, and some laws: none in common -/
theorem ob_and {C : Cal} {L : Nat} {t : Int} (hc : WFC C) (hL : L < 4096) : (ob (fun l => hb (cW C l) (cD C l) t) (cN C) &&& zi L = zi 0) = (anL (cN C) (cW C) (cD C) L t = false) := by
  have hn := hc.1.1
  rw [ob_zi _ _ (by omega), zand]
  have hbit : ∀ k, (obN (fun l => hb (cW C l) (cD C l) t) (cN C) &&& L).testBit k = (decide (k < cN C) && hb (cW C k) (cD C k) t && L.testBit k) := fun k => by rw [Nat.testBit_and, obN_bit]
  have hlt : obN (fun l => hb (cW C l) (cD C l) t) (cN C) &&& L < 4096 := Nat.lt_of_le_of_lt Nat.and_le_right hL
  generalize obN (fun l => hb (cW C l) (cD C l) t) (cN C) &&& L = X at hbit hlt
  by_cases e : X = 0
  · rw [e]
    refine propext ⟨fun _ => anL_f (fun l hl => ?_), fun _ => rfl⟩
    have := hbit l
    rw [e, Nat.zero_testBit, decide_eq_true hl, Bool.true_and, Bool.and_comm] at this
    exact this.symm
  · obtain ⟨k, hk⟩ := Nat.exists_testBit_of_ne_zero e
    rw [hbit k] at hk
    have k1 : k < cN C ∧ hb (cW C k) (cD C k) t = true ∧ L.testBit k = true := by
      simp only [Bool.and_eq_true, decide_eq_true_eq] at hk
      exact ⟨hk.1.1, hk.1.2, hk.2⟩
    rw [anL_t k1.1 k1.2.2 k1.2.1]
    refine propext ⟨fun h => ?_, fun h => Bool.noConfusion h⟩
    rw [zi_eq (by omega) (by omega)] at h
    exact absurd h (by omega)
theorem isTrade_s {M : PM} {C : Cal} {L O : Nat} {t : Int} (hc : WFC C) (c : CalM M C) (hL : L < 4096) (hO : O < 4096) (ht : 0 ≤ t ∧ t < 2147483648) : F_X11_isTrade_99 M (zi t) (zi L) (zi O) = rI (bb (fre C L O t)) M := by
  have hn := hc.1.2.1
  have a1 := c.1.2.1
  unfold F_X11_isTrade_99
  refine loopI (oN C) (fun f i => F_X11_isTrade_99_3 f M (zi t) (zi L) (zi O) (zi (i : Nat))) (fun o => o = rI (bb (fre C L O t)) M) (fun i => ∀ l, l < i → (O.testBit l && hb (oW C l) (oD C l) t) = false) (fun f hI => ?_) (fun f i hi hI => ?_) 0 FUEL (by omega) (fun l hl => by omega) (FUEL_gt (by omega))
  · have e : fre C L O t = !anL (cN C) (cW C) (cD C) L t := by unfold fre; rw [anL_f hI, Bool.or_false]
    have e2 := ob_and (L := L) (t := t) hc hL
    rw [F_X11_isTrade_99_3, e, bitsAt_s hc c ht, cI_s]
    cases h : anL (cN C) (cW C) (cD C) L t
    · rw [h] at e2
      simp (disch := omega) only [lt_z, cI_s, cJ_s, cV_s, bI_s, bI_e, bV_s, bV_e, zl, zi_neg, zi_add, zi_sub, zi_mul, ↓reduceIte, zb0, zb1, bb_and, bb_t, bb_f, zi_ltT, zi_ltF, zi_leT, zi_leF, zi_eqT, zi_eqF, zi_ixT, zi_nat, Int.toNat_natCast, Int.reduceToNat, ltNT, and_self, a1, e2, Bool.not_false]
    · rw [h] at e2
      simp (disch := omega) only [lt_z, cI_s, cJ_s, cV_s, bI_s, bI_e, bV_s, bV_e, zl, zi_neg, zi_add, zi_sub, zi_mul, ↓reduceIte, zb0, zb1, bb_and, bb_t, bb_f, zi_ltT, zi_ltF, zi_leT, zi_leF, zi_eqT, zi_eqF, zi_ixT, zi_nat, Int.toNat_natCast, Int.reduceToNat, ltNT, and_self, a1, e2, Bool.not_true, Bool.true_eq_false]
  · show (F_X11_isTrade_99_3 (f + 1) M (zi t) (zi L) (zi O) (zi i) = _) ∨ (_ ∧ F_X11_isTrade_99_3 (f + 1) M (zi t) (zi L) (zi O) (zi i) = F_X11_isTrade_99_3 f M (zi t) (zi L) (zi O) (zi ((i + 1 : Nat))))
    rw [F_X11_isTrade_99_3, zc (show ((i + 1 : Nat) : Int) = i + 1 by omega)]
    unfold F_X11_isTrade_99_36
    have go : (O.testBit i && hb (oW C i) (oD C i) t) = false → ∀ l, l < i + 1 → (O.testBit l && hb (oW C l) (oD C l) t) = false := fun e k hk => by
      by_cases q : k = i
      · rw [q]; exact e
      · exact hI k (by omega)
    cases h1 : O.testBit i with
    | false =>
      right
      refine ⟨go (by rw [h1, Bool.false_and]), ?_⟩
      simp (disch := omega) only [lt_z, cI_s, cJ_s, cV_s, bI_s, bI_e, bV_s, bV_e, zl, zi_neg, zi_add, zi_sub, zi_mul, ↓reduceIte, zb0, zb1, bb_and, bb_t, bb_f, zi_ltT, zi_ltF, zi_leT, zi_leF, zi_eqT, zi_eqF, zi_ixT, zi_nat, Int.toNat_natCast, Int.reduceToNat, ltNT, and_self, a1, zbit1, h1]
    | true =>
      cases h2 : hb (oW C i) (oD C i) t with
      | false =>
        right
        refine ⟨go (by rw [h2, Bool.and_false]), ?_⟩
        simp (disch := omega) only [lt_z, cI_s, cJ_s, cV_s, bI_s, bI_e, bV_s, bV_e, zl, zi_neg, zi_add, zi_sub, zi_mul, ↓reduceIte, zb0, zb1, bb_and, bb_t, bb_f, zi_ltT, zi_ltF, zi_leT, zi_leF, zi_eqT, zi_eqF, zi_ixT, zi_nat, Int.toNat_natCast, Int.reduceToNat, ltNT, and_self, a1, zbit1, h1, otherHolds_s hc c, h2]
      | true =>
        left
        have e : fre C L O t = false := by unfold fre; rw [anL_t hi h1 h2, Bool.or_true]; rfl
        rw [e]
        simp (disch := omega) only [lt_z, cI_s, cJ_s, cV_s, bI_s, bI_e, bV_s, bV_e, zl, zi_neg, zi_add, zi_sub, zi_mul, ↓reduceIte, zb0, zb1, bb_and, bb_t, bb_f, zi_ltT, zi_ltF, zi_leT, zi_leF, zi_eqT, zi_eqF, zi_ixT, zi_nat, Int.toNat_natCast, Int.reduceToNat, ltNT, and_self, a1, zbit1, h1, otherHolds_s hc c, h2]
theorem tradeM {M : PM} {C : Cal} {L O : Nat} (hc : WFC C) (c : CalM M C) (hL : L < 4096) (hO : O < 4096) : F_X11_trade_99_42 FUEL M (zi L) (zi O) (zi 0) (zi 0) = rI (zi (fb_ct (fun t => fre C L O t) (t5 C))) M := by
  have hT := hc.2.2.2.2.2
  have a1 := c.1.2.2.2.2.2
  exact loopU (t5 C) (fun f i => F_X11_trade_99_42 f M (zi L) (zi O) (zi (fb_ct (fun t => fre C L O t) i : Nat)) (zi (i : Nat))) _ (fun f => by
      rw [F_X11_trade_99_42]
      simp (disch := omega) only [lt_z, cI_s, cJ_s, cV_s, bI_s, bI_e, bV_s, bV_e, zl, zi_neg, zi_add, zi_sub, zi_mul, ↓reduceIte, zb0, zb1, bb_and, bb_t, bb_f, zi_ltT, zi_ltF, zi_leT, zi_leF, zi_eqT, zi_eqF, zi_ixT, zi_nat, Int.toNat_natCast, Int.reduceToNat, ltNT, and_self, a1]) (fun f i hi => by
      have e := isTrade_s (t := (i : Int)) hc c hL hO (by omega)
      rw [F_X11_trade_99_42, zc (show ((i + 1 : Nat) : Int) = i + 1 by omega), e, cI_s]
      unfold F_X11_trade_99_70
      cases h : fre C L O i
      · rw [ctF (p := fun t : Nat => fre C L O t) h]
        simp (disch := omega) only [lt_z, cI_s, cJ_s, cV_s, bI_s, bI_e, bV_s, bV_e, zl, zi_neg, zi_add, zi_sub, zi_mul, ↓reduceIte, zb0, zb1, bb_and, bb_t, bb_f, zi_ltT, zi_ltF, zi_leT, zi_leF, zi_eqT, zi_eqF, zi_ixT, zi_nat, Int.toNat_natCast, Int.reduceToNat, ltNT, and_self, a1, Int.add_zero]
      · rw [ctT (p := fun t : Nat => fre C L O t) h, zc (show ((fb_ct (fun t : Nat => fre C L O t) i + 1 : Nat) : Int) = (fb_ct (fun t : Nat => fre C L O t) i : Nat) + 1 by omega)]
        simp (disch := omega) only [lt_z, cI_s, cJ_s, cV_s, bI_s, bI_e, bV_s, bV_e, zl, zi_neg, zi_add, zi_sub, zi_mul, ↓reduceIte, zb0, zb1, bb_and, bb_t, bb_f, zi_ltT, zi_ltF, zi_leT, zi_leF, zi_eqT, zi_eqF, zi_ixT, zi_nat, Int.toNat_natCast, Int.reduceToNat, ltNT, and_self, a1]) 0 FUEL (by omega) (FUEL_gt (by omega))
theorem ok36 : OK_36 Rel := fun M a1 a2 hR => by
  obtain ⟨z, rfl, hz⟩ := zi_rng a1
  obtain ⟨x, rfl, hx⟩ := zi_rng a2
  have hR2 := hR
  obtain ⟨C, S, W, h1, h2, h3, h4, h5, h6, h7, h8, h9, h10, h11, h12⟩ := hR2
  have hb := h1.1.1
  have hb2 : oN C ≤ 12 := by have := h1.1.2.1; omega
  have hp2 := p2 hb
  have hp3 := p2 hb2
  have a0 : mA (sI (rf M 2) 99 0 (zi 0)) 103 0 = zi (cN C) := h3.1.1
  have a2 : mA (sI (rf M 2) 99 0 (zi 0)) 103 1 = zi (oN C) := h3.1.2.1
  unfold c_36 w_trade
  by_cases h : 0 ≤ z ∧ z < (2 ^ cN C : Nat)
  · obtain ⟨L, rfl, hL⟩ := natOf h
    by_cases h' : 0 ≤ x ∧ x < (2 ^ oN C : Nat)
    · obtain ⟨O, rfl, hO⟩ := natOf h'
      refine okq1 (x := zi (fb_ct (fun t => fre C L O t) (t5 C))) (M1 := brM M L O (tB C L O)) hR ?_ brM_sam.1 (fun M' hs => ⟨sI M' 99 0 (zi 0), ?_, th0, Sam.th⟩)
      · unfold F_X10_trade_0
        rw [needLaws_t h2.1.1 hb h, bV_s, needOthers_t h2.2.1.1 hb2 h', bV_s, bar_s h1 h2 (by omega) (by omega), cV_s]
        exact tradeC h1 (h2.sm brM_sam.1) (by omega) (by omega) rfl rfl
      · have c : CalM (sI M' 99 0 (zi 0)) C := h3.sm (hs.tr Sam.th.1)
        unfold F_X11_trade_99
        simp (disch := omega) only [lt_z, cI_s, cJ_s, cV_s, bI_s, bI_e, bV_s, bV_e, zl, zi_neg, zi_add, zi_sub, zi_mul, ↓reduceIte, zb0, zb1, bb_and, bb_t, bb_f, zi_ltT, zi_ltF, zi_leT, zi_leF, zi_eqT, zi_eqF, zi_ixT, zi_nat, Int.toNat_natCast, Int.reduceToNat, ltNT, and_self, areLaws_t c.1.1 hb, areOthers_t c.1.2.1 hb2]
        unfold F_X11_trade_99_27
        rw [bad_f th0, cI_s]
        exact tradeM h1 c (by omega) (by omega)
    · refine okr1 (y := zi 0) 2 hR (by decide) ?_ ?_
      · unfold F_X10_trade_0
        simp (disch := omega) only [lt_z, cI_s, cJ_s, cV_s, bI_s, bI_e, bV_s, bV_e, zl, zi_neg, zi_add, zi_sub, zi_mul, ↓reduceIte, zb0, zb1, bb_and, bb_t, bb_f, zi_ltT, zi_ltF, zi_leT, zi_leF, zi_eqT, zi_eqF, zi_ixT, zi_nat, Int.toNat_natCast, Int.reduceToNat, ltNT, and_self, needLaws_t h2.1.1 hb, needOthers_f h2.2.1.1 hb2]
      · unfold F_X11_trade_99
        simp (disch := omega) only [lt_z, cI_s, cJ_s, cV_s, bI_s, bI_e, bV_s, bV_e, zl, zi_neg, zi_add, zi_sub, zi_mul, ↓reduceIte, zb0, zb1, bb_and, bb_t, bb_f, zi_ltT, zi_ltF, zi_leT, zi_leF, zi_eqT, zi_eqF, zi_ixT, zi_nat, Int.toNat_natCast, Int.reduceToNat, ltNT, and_self, areLaws_t a0 hb, areOthers_f a2 hb2]
        unfold F_X11_trade_99_22 F_X11_trade_99_27
        simp (disch := omega) only [lt_z, cI_s, cJ_s, cV_s, bI_s, bI_e, bV_s, bV_e, zl, zi_neg, zi_add, zi_sub, zi_mul, ↓reduceIte, zb0, zb1, bb_and, bb_t, bb_f, zi_ltT, zi_ltF, zi_leT, zi_leF, zi_eqT, zi_eqF, zi_ixT, zi_nat, Int.toNat_natCast, Int.reduceToNat, ltNT, and_self, bad_t th0]
        rfl
  · refine okr1 (y := zi 0) 2 hR (by decide) ?_ ?_
    · unfold F_X10_trade_0
      simp (disch := omega) only [lt_z, cI_s, cJ_s, cV_s, bI_s, bI_e, bV_s, bV_e, zl, zi_neg, zi_add, zi_sub, zi_mul, ↓reduceIte, zb0, zb1, bb_and, bb_t, bb_f, zi_ltT, zi_ltF, zi_leT, zi_leF, zi_eqT, zi_eqF, zi_ixT, zi_nat, Int.toNat_natCast, Int.reduceToNat, ltNT, and_self, needLaws_f h2.1.1 hb]
    · unfold F_X11_trade_99
      simp (disch := omega) only [lt_z, cI_s, cJ_s, cV_s, bI_s, bI_e, bV_s, bV_e, zl, zi_neg, zi_add, zi_sub, zi_mul, ↓reduceIte, zb0, zb1, bb_and, bb_t, bb_f, zi_ltT, zi_ltF, zi_leT, zi_leF, zi_eqT, zi_eqF, zi_ixT, zi_nat, Int.toNat_natCast, Int.reduceToNat, ltNT, and_self, areLaws_f a0 hb]
      unfold F_X11_trade_99_22 F_X11_trade_99_27
      simp (disch := omega) only [lt_z, cI_s, cJ_s, cV_s, bI_s, bI_e, bV_s, bV_e, zl, zi_neg, zi_add, zi_sub, zi_mul, ↓reduceIte, zb0, zb1, bb_and, bb_t, bb_f, zi_ltT, zi_ltF, zi_leT, zi_leF, zi_eqT, zi_eqF, zi_ixT, zi_nat, Int.toNat_natCast, Int.reduceToNat, ltNT, and_self, bad_t th0]
      rfl
