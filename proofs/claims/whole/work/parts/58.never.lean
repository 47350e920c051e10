theorem andn_bit (L m k : Nat) : (L ^^^ (L &&& m)).testBit k = (L.testBit k && !m.testBit k) := by
  rw [Nat.testBit_xor, Nat.testBit_and]
  cases L.testBit k <;> cases m.testBit k <;> rfl
theorem andn_lt {L m : Nat} {k : Nat} (h : L < 2 ^ k) : L ^^^ (L &&& m) < 2 ^ k := Nat.xor_lt_two_pow h (Nat.lt_of_le_of_lt Nat.and_le_left h)
theorem zandn (L m : Nat) : zi L &&& (zi m ^^^ zi (-1)) = zi ((L ^^^ (L &&& m) : Nat)) := by
  refine b_ext (fun i hi => ?_)
  rw [b_and, b_xor, bt_zi L hi, bt_zi m hi, bt_zi _ hi, andn_bit, show bt (zi (-1)) i = true from b_m1 i hi]
  cases L.testBit i <;> cases m.testBit i <;> rfl
theorem nev_no {C : Cal} {L i n : Nat} (h : ∀ b, i < b → b < n → nev C L i b = false) : ∀ j, j < n → (decide (i < j) && nev C L i j) = false := fun j hj => by
  by_cases e : i < j
  · rw [h j e hj, Bool.and_false]
  · rw [decide_eq_false e, Bool.false_and]
theorem never42 {M : PM} {C : Cal} {L i : Nat} {k : PM → Int32 → Int32 → Option PR} (hc : WFC C) (hn : mI M 4 4 = zi (cN C)) (hL : L < 4096) (hi : i < cN C) : F_X10_never_0_42 k FUEL M (zi L) (zi i) (zi ((L ^^^ (L &&& obN (fun k => mee (cW C k) (cD C k) (cW C i) (cD C i)) (cN C)) : Nat))) (zi (i + 1)) = if nevB C L i < cN C then rI (zi (100 * i + nevB C L i)) M else k M (zi L) (zi (i + 1)) := by
  have h12 := hc.1.1
  have hx : L ^^^ (L &&& obN (fun k => mee (cW C k) (cD C k) (cW C i) (cD C i)) (cN C)) < 4096 := andn_lt (k := 12) hL
  refine loopI (cN C) (fun f j => F_X10_never_0_42 k f M (zi L) (zi i) (zi ((L ^^^ (L &&& obN (fun k => mee (cW C k) (cD C k) (cW C i) (cD C i)) (cN C)) : Nat))) (zi (j : Nat))) (fun o => o = if nevB C L i < cN C then rI (zi (100 * i + nevB C L i)) M else k M (zi L) (zi (i + 1))) (fun j => i < j ∧ ∀ b, i < b → b < j → nev C L i b = false) (fun f hI => ?_) (fun f j hj hI => ?_) (i + 1) FUEL (by omega) ⟨by omega, fun b h1 h2 => by omega⟩ (FUEL_gt (by omega))
  · have e : nevB C L i = cN C := first_none (nev_no hI.2)
    rw [F_X10_never_0_42, if_neg (by omega : ¬ nevB C L i < cN C)]
    unfold F_X10_never_0_88
    simp (disch := omega) only [lt_z, cI_s, cJ_s, cV_s, bI_s, bI_e, bV_s, bV_e, zl, zi_neg, zi_add, zi_sub, zi_mul, ↓reduceIte, zb0, zb1, bb_and, bb_t, bb_f, zi_ltT, zi_ltF, zi_leT, zi_leF, zi_eqT, zi_eqF, zi_ixT, zi_nat, Int.toNat_natCast, Int.reduceToNat, ltNT, and_self, hn]
  · have e9 : nev C L i j = (L.testBit i && (L ^^^ (L &&& obN (fun k => mee (cW C k) (cD C k) (cW C i) (cD C i)) (cN C))).testBit j) := by
      rw [andn_bit, obN_bit, decide_eq_true hj, Bool.true_and, mee_comm]; rfl
    generalize L ^^^ (L &&& obN (fun k => mee (cW C k) (cD C k) (cW C i) (cD C i)) (cN C)) = X at hx e9 ⊢
    show (F_X10_never_0_42 k (f + 1) M (zi L) (zi i) (zi X) (zi j) = _) ∨ (_ ∧ F_X10_never_0_42 k (f + 1) M (zi L) (zi i) (zi X) (zi j) = F_X10_never_0_42 k f M (zi L) (zi i) (zi X) (zi ((j + 1 : Nat))))
    rw [F_X10_never_0_42, zc (show ((j + 1 : Nat) : Int) = j + 1 by omega)]
    unfold F_X10_never_0_88
    cases hb1 : L.testBit i with
    | false =>
      left
      have e : nevB C L i = cN C := first_none (nev_no (fun b _ _ => by unfold nev; rw [hb1, Bool.false_and]))
      rw [if_neg (by omega : ¬ nevB C L i < cN C)]
      simp (disch := omega) only [lt_z, cI_s, cJ_s, cV_s, bI_s, bI_e, bV_s, bV_e, zl, zi_neg, zi_add, zi_sub, zi_mul, ↓reduceIte, zb0, zb1, bb_and, bb_t, bb_f, zi_ltT, zi_ltF, zi_leT, zi_leF, zi_eqT, zi_eqF, zi_ixT, zi_nat, Int.toNat_natCast, Int.reduceToNat, ltNT, and_self, hn, isIn_s, hb1]
    | true =>
      cases hb2 : X.testBit j with
      | false =>
        right
        rw [hb1, hb2] at e9
        refine ⟨⟨by omega, fun b h1 h2 => ?_⟩, ?_⟩
        · by_cases e : b = j
          · rw [e]; exact e9
          · exact hI.2 b h1 (by omega)
        · simp (disch := omega) only [lt_z, cI_s, cJ_s, cV_s, bI_s, bI_e, bV_s, bV_e, zl, zi_neg, zi_add, zi_sub, zi_mul, ↓reduceIte, zb0, zb1, bb_and, bb_t, bb_f, zi_ltT, zi_ltF, zi_leT, zi_leF, zi_eqT, zi_eqF, zi_ixT, zi_nat, Int.toNat_natCast, Int.reduceToNat, ltNT, and_self, hn, isIn_s, hb1, hb2]
      | true =>
        left
        rw [hb1, hb2] at e9
        have e : nevB C L i = j := first_eq hj (by show (decide (i < j) && nev C L i j) = true; rw [e9, decide_eq_true hI.1]; rfl) (fun b hb => nev_no (n := j) hI.2 b hb)
        rw [e, if_pos hj]
        simp (disch := omega) only [lt_z, cI_s, cJ_s, cV_s, bI_s, bI_e, bV_s, bV_e, zl, zi_neg, zi_add, zi_sub, zi_mul, ↓reduceIte, zb0, zb1, bb_and, bb_t, bb_f, zi_ltT, zi_ltF, zi_leT, zi_leF, zi_eqT, zi_eqF, zi_ixT, zi_nat, Int.toNat_natCast, Int.reduceToNat, ltNT, and_self, hn, isIn_s, hb1, hb2]
theorem neverC {M : PM} {C : Cal} {L : Nat} (hc : WFC C) (c : CalC M C) (hL : L < 4096) : F_X10_never_0_7 FUEL M (zi L) (zi 0) = rI (zi (nevV C L)) M := by
  have h12 := hc.1.1
  have hn := c.1.1
  refine loopI (cN C) (fun f i => F_X10_never_0_7 f M (zi L) (zi (i : Nat))) (fun o => o = rI (zi (nevV C L)) M) (fun i => ∀ a, a < i → ¬ nevB C L a < cN C) (fun f hI => ?_) (fun f i hi hI => ?_) 0 FUEL (by omega) (fun a h => by omega) (FUEL_gt (by omega))
  · have e : nevA C L = cN C := first_none (fun j hj => decide_eq_false (hI j hj))
    rw [F_X10_never_0_7, show nevV C L = -1 from if_neg (by omega)]
    simp (disch := omega) only [lt_z, cI_s, cJ_s, cV_s, bI_s, bI_e, bV_s, bV_e, zl, zi_neg, zi_add, zi_sub, zi_mul, ↓reduceIte, zb0, zb1, bb_and, bb_t, bb_f, zi_ltT, zi_ltF, zi_leT, zi_leF, zi_eqT, zi_eqF, zi_ixT, zi_nat, Int.toNat_natCast, Int.reduceToNat, ltNT, and_self, hn]
  · show (F_X10_never_0_7 (f + 1) M (zi L) (zi i) = _) ∨ (_ ∧ F_X10_never_0_7 (f + 1) M (zi L) (zi i) = F_X10_never_0_7 f M (zi L) (zi ((i + 1 : Nat))))
    rw [F_X10_never_0_7, zc (show ((i + 1 : Nat) : Int) = i + 1 by omega), meetingWith_s hc c hi, ob_zi _ _ (by omega)]
    simp (disch := omega) only [lt_z, cI_s, cJ_s, cV_s, bI_s, bI_e, bV_s, bV_e, zl, zi_neg, zi_add, zi_sub, zi_mul, ↓reduceIte, zb0, zb1, bb_and, bb_t, bb_f, zi_ltT, zi_ltF, zi_leT, zi_leF, zi_eqT, zi_eqF, zi_ixT, zi_nat, Int.toNat_natCast, Int.reduceToNat, ltNT, and_self, hn, zandn, never42 hc hn hL hi]
    by_cases e : nevB C L i < cN C
    · left
      have e2 : nevA C L = i := first_eq hi (decide_eq_true e) (fun j hj => decide_eq_false (hI j hj))
      rw [if_pos e, show nevV C L = 100 * (i : Int) + nevB C L i by unfold nevV; rw [e2, if_pos hi]]
    · right
      rw [if_neg e]
      refine ⟨fun a ha => ?_, rfl⟩
      by_cases e3 : a = i
      · rw [e3]; exact e
      · exact hI a (by omega)
theorem bb1 (b : Bool) : (bb b = zi 1) = (b = true) := by cases b <;> decide
theorem never16 {M : PM} {C : Cal} {L i : Nat} {k : PM → Int32 → Int32 → Option PR} (hc : WFC C) (c : CalM M C) (hL : L < 4096) (hi : i < cN C) : F_X11_neverOf_99_16 k FUEL M (zi L) (zi i) (zi (i + 1)) = if nevB C L i < cN C then rI (zi (100 * i + nevB C L i)) M else k M (zi L) (zi (i + 1)) := by
  have h12 := hc.1.1
  have hn := c.1.1
  refine loopI (cN C) (fun f j => F_X11_neverOf_99_16 k f M (zi L) (zi i) (zi (j : Nat))) (fun o => o = if nevB C L i < cN C then rI (zi (100 * i + nevB C L i)) M else k M (zi L) (zi (i + 1))) (fun j => i < j ∧ ∀ b, i < b → b < j → nev C L i b = false) (fun f hI => ?_) (fun f j hj hI => ?_) (i + 1) FUEL (by omega) ⟨by omega, fun b h1 h2 => by omega⟩ (FUEL_gt (by omega))
  · have e : nevB C L i = cN C := first_none (nev_no hI.2)
    rw [F_X11_neverOf_99_16, if_neg (by omega : ¬ nevB C L i < cN C)]
    simp (disch := omega) only [lt_z, cI_s, cJ_s, cV_s, bI_s, bI_e, bV_s, bV_e, zl, zi_neg, zi_add, zi_sub, zi_mul, ↓reduceIte, zb0, zb1, bb_and, bb_t, bb_f, zi_ltT, zi_ltF, zi_leT, zi_leF, zi_eqT, zi_eqF, zi_ixT, zi_nat, Int.toNat_natCast, Int.reduceToNat, ltNT, and_self, hn]
  · show (F_X11_neverOf_99_16 k (f + 1) M (zi L) (zi i) (zi j) = _) ∨ (_ ∧ F_X11_neverOf_99_16 k (f + 1) M (zi L) (zi i) (zi j) = F_X11_neverOf_99_16 k f M (zi L) (zi i) (zi ((j + 1 : Nat))))
    rw [F_X11_neverOf_99_16, zc (show ((j + 1 : Nat) : Int) = j + 1 by omega)]
    unfold F_X11_neverOf_99_60
    have go : nev C L i j = false → (i < j + 1 ∧ ∀ b, i < b → b < j + 1 → nev C L i b = false) := fun e9 => ⟨by omega, fun b h1 h2 => by
      by_cases e : b = j
      · rw [e]; exact e9
      · exact hI.2 b h1 (by omega)⟩
    cases hb1 : L.testBit i with
    | false =>
      right
      refine ⟨go (by unfold nev; rw [hb1, Bool.false_and]), ?_⟩
      simp (disch := omega) only [lt_z, cI_s, cJ_s, cV_s, bI_s, bI_e, bV_s, bV_e, zl, zi_neg, zi_add, zi_sub, zi_mul, ↓reduceIte, zb0, zb1, bb_and, bb_t, bb_f, zi_ltT, zi_ltF, zi_leT, zi_leF, zi_eqT, zi_eqF, zi_ixT, zi_nat, Int.toNat_natCast, Int.reduceToNat, ltNT, and_self, hn, zbit1, hb1]
    | true =>
      cases hb2 : L.testBit j with
      | false =>
        right
        refine ⟨go (by unfold nev; rw [hb2, Bool.false_and, Bool.and_false]), ?_⟩
        simp (disch := omega) only [lt_z, cI_s, cJ_s, cV_s, bI_s, bI_e, bV_s, bV_e, zl, zi_neg, zi_add, zi_sub, zi_mul, ↓reduceIte, zb0, zb1, bb_and, bb_t, bb_f, zi_ltT, zi_ltF, zi_leT, zi_leF, zi_eqT, zi_eqF, zi_ixT, zi_nat, Int.toNat_natCast, Int.reduceToNat, ltNT, and_self, hn, zbit1, hb1, hb2]
      | true =>
        cases hb3 : mee (cW C i) (cD C i) (cW C j) (cD C j) with
        | true =>
          right
          refine ⟨go (by unfold nev; rw [hb3]; cases L.testBit i <;> cases L.testBit j <;> rfl), ?_⟩
          simp (disch := omega) only [lt_z, cI_s, cJ_s, cV_s, bI_s, bI_e, bV_s, bV_e, zl, zi_neg, zi_add, zi_sub, zi_mul, ↓reduceIte, zb0, zb1, bb_and, bb_t, bb_f, zi_ltT, zi_ltF, zi_leT, zi_leF, zi_eqT, zi_eqF, zi_ixT, zi_nat, Int.toNat_natCast, Int.reduceToNat, ltNT, and_self, hn, zbit1, hb1, hb2, hb3, canBoth_s hc c]
        | false =>
          left
          have e9 : nev C L i j = true := by unfold nev; rw [hb1, hb2, hb3]; rfl
          have e : nevB C L i = j := first_eq hj (by show (decide (i < j) && nev C L i j) = true; rw [e9, decide_eq_true hI.1]; rfl) (fun b hb => nev_no (n := j) hI.2 b hb)
          rw [e, if_pos hj]
          simp (disch := omega) only [lt_z, cI_s, cJ_s, cV_s, bI_s, bI_e, bV_s, bV_e, zl, zi_neg, zi_add, zi_sub, zi_mul, ↓reduceIte, zb0, zb1, bb_and, bb_t, bb_f, zi_ltT, zi_ltF, zi_leT, zi_leF, zi_eqT, zi_eqF, zi_ixT, zi_nat, Int.toNat_natCast, Int.reduceToNat, ltNT, and_self, hn, zbit1, hb1, hb2, hb3, canBoth_s hc c]
theorem neverM {M : PM} {C : Cal} {L : Nat} (hc : WFC C) (c : CalM M C) (hL : L < 4096) : F_X11_neverOf_99 M (zi L) = rI (zi (nevV C L)) M := by
  have h12 := hc.1.1
  have hn := c.1.1
  unfold F_X11_neverOf_99
  refine loopI (cN C) (fun f i => F_X11_neverOf_99_2 f M (zi L) (zi (i : Nat))) (fun o => o = rI (zi (nevV C L)) M) (fun i => ∀ a, a < i → ¬ nevB C L a < cN C) (fun f hI => ?_) (fun f i hi hI => ?_) 0 FUEL (by omega) (fun a h => by omega) (FUEL_gt (by omega))
  · have e : nevA C L = cN C := first_none (fun j hj => decide_eq_false (hI j hj))
    rw [F_X11_neverOf_99_2, show nevV C L = -1 from if_neg (by omega)]
    simp (disch := omega) only [lt_z, cI_s, cJ_s, cV_s, bI_s, bI_e, bV_s, bV_e, zl, zi_neg, zi_add, zi_sub, zi_mul, ↓reduceIte, zb0, zb1, bb_and, bb_t, bb_f, zi_ltT, zi_ltF, zi_leT, zi_leF, zi_eqT, zi_eqF, zi_ixT, zi_nat, Int.toNat_natCast, Int.reduceToNat, ltNT, and_self, hn]
  · show (F_X11_neverOf_99_2 (f + 1) M (zi L) (zi i) = _) ∨ (_ ∧ F_X11_neverOf_99_2 (f + 1) M (zi L) (zi i) = F_X11_neverOf_99_2 f M (zi L) (zi ((i + 1 : Nat))))
    rw [F_X11_neverOf_99_2, zc (show ((i + 1 : Nat) : Int) = i + 1 by omega)]
    simp (disch := omega) only [lt_z, cI_s, cJ_s, cV_s, bI_s, bI_e, bV_s, bV_e, zl, zi_neg, zi_add, zi_sub, zi_mul, ↓reduceIte, zb0, zb1, bb_and, bb_t, bb_f, zi_ltT, zi_ltF, zi_leT, zi_leF, zi_eqT, zi_eqF, zi_ixT, zi_nat, Int.toNat_natCast, Int.reduceToNat, ltNT, and_self, hn, never16 hc c hL hi]
    by_cases e : nevB C L i < cN C
    · left
      have e2 : nevA C L = i := first_eq hi (decide_eq_true e) (fun j hj => decide_eq_false (hI j hj))
      rw [if_pos e, show nevV C L = 100 * (i : Int) + nevB C L i by unfold nevV; rw [e2, if_pos hi]]
    · right
      rw [if_neg e]
      refine ⟨fun a ha => ?_, rfl⟩
      by_cases e3 : a = i
      · rw [e3]; exact e
      · exact hI a (by omega)
theorem ok14 : OK_14 Rel := fun M a1 hR => by
  obtain ⟨z, rfl, hz⟩ := zi_rng a1
  have hR2 := hR
  obtain ⟨C, S, W, h1, h2, h3, h4, h5, h6, h7, h8, h9, h10, h11, h12⟩ := hR2
  have hb := h1.1.1
  have hp2 := p2 hb
  unfold c_14 w_never
  by_cases h : 0 ≤ z ∧ z < (2 ^ cN C : Nat)
  · obtain ⟨L, rfl, hL⟩ := natOf h
    refine okq1 (x := zi (nevV C L)) (M1 := M) hR ?_ Sam0.rf (fun M' hs => ⟨sI M' 99 0 (zi 0), ?_, th0, Sam.th⟩)
    · unfold F_X10_never_0
      simp (disch := omega) only [lt_z, cI_s, cJ_s, cV_s, bI_s, bI_e, bV_s, bV_e, zl, zi_neg, zi_add, zi_sub, zi_mul, ↓reduceIte, zb0, zb1, bb_and, bb_t, bb_f, zi_ltT, zi_ltF, zi_leT, zi_leF, zi_eqT, zi_eqF, zi_ixT, zi_nat, Int.toNat_natCast, Int.reduceToNat, ltNT, and_self, needLaws_t h2.1.1 hb, neverC h1 h2]
    · have c : CalM (sI M' 99 0 (zi 0)) C := h3.sm (hs.tr Sam.th.1)
      unfold F_X11_never_99 F_X11_never_99_19
      simp (disch := omega) only [lt_z, cI_s, cJ_s, cV_s, bI_s, bI_e, bV_s, bV_e, zl, zi_neg, zi_add, zi_sub, zi_mul, ↓reduceIte, zb0, zb1, bb_and, bb_t, bb_f, zi_ltT, zi_ltF, zi_leT, zi_leF, zi_eqT, zi_eqF, zi_ixT, zi_nat, Int.toNat_natCast, Int.reduceToNat, ltNT, and_self, areLaws_t c.1.1 hb, bad_f th0, neverM h1 c]
  · refine okr1 (y := zi 0) 2 hR (by decide) ?_ ?_
    · unfold F_X10_never_0
      simp (disch := omega) only [lt_z, cI_s, cJ_s, cV_s, bI_s, bI_e, bV_s, bV_e, zl, zi_neg, zi_add, zi_sub, zi_mul, ↓reduceIte, zb0, zb1, bb_and, bb_t, bb_f, zi_ltT, zi_ltF, zi_leT, zi_leF, zi_eqT, zi_eqF, zi_ixT, zi_nat, Int.toNat_natCast, Int.reduceToNat, ltNT, and_self, needLaws_f h2.1.1 hb]
    · have a0 : mA (sI (rf M 2) 99 0 (zi 0)) 103 0 = zi (cN C) := h3.1.1
      unfold F_X11_never_99 F_X11_never_99_19
      simp (disch := omega) only [lt_z, cI_s, cJ_s, cV_s, bI_s, bI_e, bV_s, bV_e, zl, zi_neg, zi_add, zi_sub, zi_mul, ↓reduceIte, zb0, zb1, bb_and, bb_t, bb_f, zi_ltT, zi_ltF, zi_leT, zi_leF, zi_eqT, zi_eqF, zi_ixT, zi_nat, Int.toNat_natCast, Int.reduceToNat, ltNT, and_self, areLaws_f a0 hb, bad_t th0]
      rfl
