/-! most -/
theorem first_lt {p : Nat → Bool} {n i : Nat} (hi : i < n) (hp : p i = true) : fa_first p n ≤ i := by
  rcases Nat.lt_or_ge i (fa_first p n) with h | h
  · have := fa_first_no p n i h
    rw [hp] at this
    exact absurd this (by decide)
  · exact h
theorem nevV_rng (C : Cal) (L : Nat) (hn : cN C ≤ 12) : -1 ≤ nevV C L ∧ nevV C L < 2000 := by
  unfold nevV
  by_cases h : nevA C L < cN C
  · have := fa_first_yes _ _ h
    have h2 : nevB C L (nevA C L) < cN C := of_decide_eq_true this
    rw [if_pos h]
    omega
  · rw [if_neg h]; omega
theorem nevV_ne {C : Cal} {L a b : Nat} (hab : a < b) (hb : b < cN C) (h : nev C L a b = true) : nevV C L ≠ -1 := by
  have h1 : nevB C L a ≤ b := first_lt (p := fun b => decide (a < b) && nev C L a b) hb (by show (decide (a < b) && nev C L a b) = true; rw [h, decide_eq_true hab]; rfl)
  have h2 : nevA C L ≤ a := first_lt (p := fun a => decide (nevB C L a < cN C)) (by omega) (decide_eq_true (by omega))
  unfold nevV
  rw [if_pos (by omega)]
  omega
theorem nevV_eq {C : Cal} {L : Nat} (h : ∀ a b, a < b → b < cN C → nev C L a b = false) : nevV C L = -1 := by
  have h1 : ∀ a, nevB C L a = cN C := fun a => first_none (nev_no (fun b h1 h2 => h a b h1 h2))
  have h2 : nevA C L = cN C := first_none (fun a _ => decide_eq_false (by rw [h1 a]; omega))
  unfold nevV
  rw [if_neg (by omega)]
theorem mee_self (w d : Nat) : mee w d w d = true := by
  unfold mee
  rw [Int.sub_self, Int.zero_emod]
  rfl
theorem nev_of {C : Cal} {L k l : Nat} (hk : k < cN C) (hl : l < cN C) (h1 : L.testBit k = true) (h2 : L.testBit l = true) (h3 : mee (cW C k) (cD C k) (cW C l) (cD C l) = false) : nevV C L ≠ -1 := by
  rcases Nat.lt_trichotomy k l with h | h | h
  · exact nevV_ne h hl (by unfold nev; rw [h1, h2, h3]; rfl)
  · subst h
    rw [mee_self] at h3
    exact absurd h3 (by decide)
  · exact nevV_ne h hk (by unfold nev; rw [h1, h2, mee_comm, h3]; rfl)
theorem allMeet_s {M : PM} {C : Cal} {s : Nat} (hc : WFC C) (c : CalC M C) (hs : s < 2 ^ cN C) : F_X2_allMeet_4 M (zi s) = rI (bb (decide (nevV C s = -1))) M := by
  have hn := hc.1.1
  have hp2 := p2 hn
  have a1 := c.1.1
  unfold F_X2_allMeet_4
  refine loopI (cN C) (fun f i => F_X2_allMeet_4_2 f M (zi s) (zi (i : Nat))) (fun o => o = rI (bb (decide (nevV C s = -1))) M) (fun i => ∀ l, l < i → s.testBit l = true → ∀ k, k < cN C → s.testBit k = true → mee (cW C k) (cD C k) (cW C l) (cD C l) = true) (fun f hI => ?_) (fun f i hi hI => ?_) 0 FUEL (by omega) (fun l hl => by omega) (FUEL_gt (by omega))
  · have e : nevV C s = -1 := nevV_eq (fun a b hab hb => by
      unfold nev
      cases h1 : s.testBit a with
      | false => rfl
      | true =>
        cases h2 : s.testBit b with
        | false => rfl
        | true => rw [mee_comm, hI a (by omega) h1 b hb h2]; rfl)
    rw [F_X2_allMeet_4_2, decide_eq_true e]
    simp (disch := omega) only [lt_z, cI_s, cJ_s, cV_s, bI_s, bI_e, bV_s, bV_e, zl, zi_neg, zi_add, zi_sub, zi_mul, ↓reduceIte, zb0, zb1, bb_and, bb_t, bb_f, zi_ltT, zi_ltF, zi_leT, zi_leF, zi_eqT, zi_eqF, zi_ixT, zi_nat, Int.toNat_natCast, Int.reduceToNat, ltNT, and_self, a1]
  · show (F_X2_allMeet_4_2 (f + 1) M (zi s) (zi i) = _) ∨ (_ ∧ F_X2_allMeet_4_2 (f + 1) M (zi s) (zi i) = F_X2_allMeet_4_2 f M (zi s) (zi ((i + 1 : Nat))))
    rw [F_X2_allMeet_4_2, zc (show ((i + 1 : Nat) : Int) = i + 1 by omega)]
    unfold F_X2_allMeet_4_33
    cases h1 : s.testBit i with
    | false =>
      right
      refine ⟨fun l hl q => ?_, ?_⟩
      · by_cases e : l = i
        · rw [e, h1] at q; exact absurd q (by decide)
        · exact hI l (by omega) q
      · simp (disch := omega) only [lt_z, cI_s, cJ_s, cV_s, bI_s, bI_e, bV_s, bV_e, zl, zi_neg, zi_add, zi_sub, zi_mul, ↓reduceIte, zb0, zb1, bb_and, bb_t, bb_f, zi_ltT, zi_ltF, zi_leT, zi_leF, zi_eqT, zi_eqF, zi_ixT, zi_nat, Int.toNat_natCast, Int.reduceToNat, ltNT, and_self, a1, isIn_s, h1]
    | true =>
      have hm := c.2.2.1 i hi
      rw [ob_zi _ _ (by omega)] at hm
      have hx : s ^^^ (s &&& obN (fun k => mee (cW C k) (cD C k) (cW C i) (cD C i)) (cN C)) < 4096 := Nat.lt_of_lt_of_le (andn_lt hs) hp2.2
      have hbit := fun k => andn_bit s (obN (fun k => mee (cW C k) (cD C k) (cW C i) (cD C i)) (cN C)) k
      have hob := fun k => obN_bit (fun k => mee (cW C k) (cD C k) (cW C i) (cD C i)) (cN C) k
      have hz := zandn s (obN (fun k => mee (cW C k) (cD C k) (cW C i) (cD C i)) (cN C))
      generalize s ^^^ (s &&& obN (fun k => mee (cW C k) (cD C k) (cW C i) (cD C i)) (cN C)) = X at hx hbit hz
      generalize obN (fun k => mee (cW C k) (cD C k) (cW C i) (cD C i)) (cN C) = Y at *
      by_cases e : X = 0
      · right
        refine ⟨fun l hl q k hk q2 => ?_, ?_⟩
        · by_cases e2 : l = i
          · subst e2
            have := hbit k
            rw [e, Nat.zero_testBit, q2, hob k, decide_eq_true hk, Bool.true_and, Bool.true_and] at this
            cases hmm : mee (cW C k) (cD C k) (cW C l) (cD C l) with
            | true => rfl
            | false => rw [hmm] at this; exact absurd this (by decide)
          · exact hI l (by omega) q k hk q2
        · simp (disch := omega) only [lt_z, cI_s, cJ_s, cV_s, bI_s, bI_e, bV_s, bV_e, zl, zi_neg, zi_add, zi_sub, zi_mul, ↓reduceIte, zb0, zb1, bb_and, bb_t, bb_f, zi_ltT, zi_ltF, zi_leT, zi_leF, zi_eqT, zi_eqF, zi_ixT, zi_nat, Int.toNat_natCast, Int.reduceToNat, ltNT, and_self, a1, isIn_s, h1, hm, hz, e, Int.natCast_zero]
      · left
        obtain ⟨k, hk⟩ := Nat.exists_testBit_of_ne_zero e
        rw [hbit k] at hk
        have hk1 : s.testBit k = true := by cases h : s.testBit k with
          | true => rfl
          | false => rw [h, Bool.false_and] at hk; exact absurd hk (by decide)
        have hkn : k < cN C := by
          rcases Nat.lt_or_ge k (cN C) with h | h
          · exact h
          · rw [Nat.testBit_lt_two_pow (Nat.lt_of_lt_of_le hs (Nat.pow_le_pow_right (by decide) h))] at hk1
            exact absurd hk1 (by decide)
        have hm2 : mee (cW C k) (cD C k) (cW C i) (cD C i) = false := by
          rw [hk1, hob k, decide_eq_true hkn] at hk
          cases h : mee (cW C k) (cD C k) (cW C i) (cD C i) with
          | false => rfl
          | true => rw [h] at hk; exact absurd hk (by decide)
        rw [decide_eq_false (nev_of hkn hi hk1 h1 hm2)]
        simp (disch := omega) only [lt_z, cI_s, cJ_s, cV_s, bI_s, bI_e, bV_s, bV_e, zl, zi_neg, zi_add, zi_sub, zi_mul, ↓reduceIte, zb0, zb1, bb_and, bb_t, bb_f, zi_ltT, zi_ltF, zi_leT, zi_leF, zi_eqT, zi_eqF, zi_ixT, zi_nat, Int.toNat_natCast, Int.reduceToNat, ltNT, and_self, a1, isIn_s, h1, hm, hz]
/-- the best of the sets below s -/
def bmS (C : Cal) : Nat → Nat
  | 0 => 0
  | s + 1 => if pop s ≤ pop (bmS C s) then bmS C s else if nevV C s = -1 then s else bmS C s
theorem bmS_le (C : Cal) : ∀ s, bmS C s ≤ s
  | 0 => Nat.le_refl 0
  | s + 1 => by
    have := bmS_le C s
    rw [bmS]
    split
    · omega
    · split <;> omega
theorem greatest_e {M : PM} {C : Cal} {f : Nat} (hc : WFC C) : F_X2_greatestSet_4_15 (f + 1) M (zi (bmS C (2 ^ cN C) : Nat)) (zi (pop (bmS C (2 ^ cN C)) : Nat)) (zi ((2 ^ cN C : Nat) - 1)) (zi ((2 ^ cN C : Nat))) = rI (zi (bmS C (2 ^ cN C) : Nat)) M := by
  have hp2 := p2 hc.1.1
  rw [F_X2_greatestSet_4_15, if_pos]
  rw [zi_lt (by omega) (by omega)]
  omega
theorem greatest_st {M : PM} {C : Cal} {f s : Nat} (hc : WFC C) (c : CalC M C) (hs : s < 2 ^ cN C) : F_X2_greatestSet_4_15 (f + 1) M (zi (bmS C s : Nat)) (zi (pop (bmS C s) : Nat)) (zi ((2 ^ cN C : Nat) - 1)) (zi (s : Nat)) = F_X2_greatestSet_4_15 f M (zi (bmS C (s + 1) : Nat)) (zi (pop (bmS C (s + 1)) : Nat)) (zi ((2 ^ cN C : Nat) - 1)) (zi ((s + 1 : Nat))) := by
  have hp2 := p2 hc.1.1
  have b1 := bitCount_s (M := M) (show s < 4096 by omega)
  have b2 := allMeet_s hc c hs
  have q1 := pop_le s
  have q2 := pop_le (bmS C s)
  rw [F_X2_greatestSet_4_15, b1, cI_s, b2, cI_s, b1, cI_s, zc (show ((s + 1 : Nat) : Int) = s + 1 by omega), bmS]
  unfold F_X2_greatestSet_4_48
  by_cases e : pop s ≤ pop (bmS C s)
  · rw [if_pos e]
    generalize pop (bmS C s) = p1 at *
    generalize pop s = p3 at *
    simp (disch := omega) only [lt_z, cI_s, cJ_s, cV_s, bI_s, bI_e, bV_s, bV_e, zl, zi_neg, zi_add, zi_sub, zi_mul, ↓reduceIte, zb0, zb1, bb_and, bb_t, bb_f, zi_ltT, zi_ltF, zi_leT, zi_leF, zi_eqT, zi_eqF, zi_ixT, zi_nat, Int.toNat_natCast, Int.reduceToNat, ltNT, and_self]
  · rw [if_neg e]
    by_cases e2 : nevV C s = -1
    · rw [if_pos e2, decide_eq_true e2]
      generalize pop (bmS C s) = p1 at *
      generalize pop s = p3 at *
      simp (disch := omega) only [lt_z, cI_s, cJ_s, cV_s, bI_s, bI_e, bV_s, bV_e, zl, zi_neg, zi_add, zi_sub, zi_mul, ↓reduceIte, zb0, zb1, bb_and, bb_t, bb_f, zi_ltT, zi_ltF, zi_leT, zi_leF, zi_eqT, zi_eqF, zi_ixT, zi_nat, Int.toNat_natCast, Int.reduceToNat, ltNT, and_self]
    · rw [if_neg e2, decide_eq_false e2]
      generalize pop (bmS C s) = p1 at *
      generalize pop s = p3 at *
      simp (disch := omega) only [lt_z, cI_s, cJ_s, cV_s, bI_s, bI_e, bV_s, bV_e, zl, zi_neg, zi_add, zi_sub, zi_mul, ↓reduceIte, zb0, zb1, bb_and, bb_t, bb_f, zi_ltT, zi_ltF, zi_leT, zi_leF, zi_eqT, zi_eqF, zi_ixT, zi_nat, Int.toNat_natCast, Int.reduceToNat, ltNT, and_self]
theorem greatest_s {M : PM} {C : Cal} (hc : WFC C) (c : CalC M C) : F_X2_greatestSet_4 M = rI (zi (bmS C (2 ^ cN C) : Nat)) M := by
  have hp2 := p2 hc.1.1
  have hn := hc.1.1
  unfold F_X2_greatestSet_4 F_X10_all
  have e : (1 : Int32) <<< (mI M 4 4 &&& 31) - 1 = zi ((2 ^ cN C : Nat) - 1) := by
    rw [c.1.1]
    show zi 1 <<< (zi (cN C) &&& zi 31) - zi 1 = _
    rw [zshl _ (by omega), zi_sub]
  rw [cI_s, e]
  have h := loopU (2 ^ cN C) (fun f s => F_X2_greatestSet_4_15 f M (zi (bmS C s : Nat)) (zi (pop (bmS C s) : Nat)) (zi ((2 ^ cN C : Nat) - 1)) (zi (s : Nat))) (rI (zi (bmS C (2 ^ cN C) : Nat)) M) (fun f => greatest_e hc) (fun f i hi => greatest_st hc c hi) 0 FUEL (by omega) (FUEL_gt (by omega))
  have e1 : zi ((bmS C 0 : Nat) : Int) = 0 := rfl
  have e2 : zi ((0 : Nat) : Int) = 0 := rfl
  have e3 : zi ((pop (bmS C 0) : Nat) : Int) = 0 := by show zi ((pop 0 : Nat) : Int) = 0; decide
  simp only [e1, e2, e3] at h
  exact h
def mstV (C : Cal) (x : Int) : Int := if x = 0 then (pop (bmS C (2 ^ cN C)) : Int) else bmS C (2 ^ cN C)
theorem mostM_e {M : PM} {C : Cal} {x : Int} {f : Nat} (hc : WFC C) (c : CalM M C) (hx : x = 0 ∨ x = 1) : F_X11_most_99_34 (f + 1) M (zi x) (zi (bmS C (2 ^ cN C) : Nat)) (zi ((2 ^ cN C : Nat))) = rI (zi (mstV C x)) M := by
  have hp2 := p2 hc.1.1
  have hn := hc.1.1
  have hl := bmS_le C (2 ^ cN C)
  have b1 := ones_s (M := M) (show bmS C (2 ^ cN C) < 2147483648 by omega)
  unfold mstV
  rw [F_X11_most_99_34, b1, cI_s]
  generalize pop (bmS C (2 ^ cN C)) = p1 at *
  rcases hx with rfl | rfl <;> simp (disch := omega) only [lt_z, cI_s, cJ_s, cV_s, bI_s, bI_e, bV_s, bV_e, zl, zi_neg, zi_add, zi_sub, zi_mul, ↓reduceIte, zb0, zb1, bb_and, bb_t, bb_f, zi_ltT, zi_ltF, zi_leT, zi_leF, zi_eqT, zi_eqF, zi_ixT, zi_nat, Int.toNat_natCast, Int.reduceToNat, ltNT, and_self, c.1.1, zshl, Int.reduceEq]
theorem mostM_st {M : PM} {C : Cal} {x : Int} {f s : Nat} (hc : WFC C) (c : CalM M C) (hs : s < 2 ^ cN C) : F_X11_most_99_34 (f + 1) M (zi x) (zi (bmS C s : Nat)) (zi (s : Nat)) = F_X11_most_99_34 f M (zi x) (zi (bmS C (s + 1) : Nat)) (zi ((s + 1 : Nat))) := by
  have hp2 := p2 hc.1.1
  have hn := hc.1.1
  have hl := bmS_le C s
  have b1 := ones_s (M := M) (show bmS C s < 2147483648 by omega)
  have b2 := ones_s (M := M) (show s < 2147483648 by omega)
  have b3 := neverM hc c (show s < 4096 by omega)
  have q1 := pop_le s
  have q2 := pop_le (bmS C s)
  have q3 := nevV_rng C s hn
  rw [F_X11_most_99_34, zc (show ((s + 1 : Nat) : Int) = s + 1 by omega), bmS]
  unfold F_X11_most_99_68
  generalize pop (bmS C s) = p1 at *
  generalize pop s = p3 at *
  generalize nevV C s = v at *
  generalize bmS C s = B at *
  rw [b1, cI_s, b2, cI_s, b1, cI_s, b3, cI_s]
  by_cases e : p3 ≤ p1
  · rw [if_pos e]
    simp (disch := omega) only [lt_z, cI_s, cJ_s, cV_s, bI_s, bI_e, bV_s, bV_e, zl, zi_neg, zi_add, zi_sub, zi_mul, ↓reduceIte, zb0, zb1, bb_and, bb_t, bb_f, zi_ltT, zi_ltF, zi_leT, zi_leF, zi_eqT, zi_eqF, zi_ixT, zi_nat, Int.toNat_natCast, Int.reduceToNat, ltNT, and_self, c.1.1, zshl]
  · rw [if_neg e]
    by_cases e2 : v = -1
    · rw [if_pos e2]
      simp (disch := omega) only [lt_z, cI_s, cJ_s, cV_s, bI_s, bI_e, bV_s, bV_e, zl, zi_neg, zi_add, zi_sub, zi_mul, ↓reduceIte, zb0, zb1, bb_and, bb_t, bb_f, zi_ltT, zi_ltF, zi_leT, zi_leF, zi_eqT, zi_eqF, zi_ixT, zi_nat, Int.toNat_natCast, Int.reduceToNat, ltNT, and_self, c.1.1, zshl]
    · rw [if_neg e2]
      simp (disch := omega) only [lt_z, cI_s, cJ_s, cV_s, bI_s, bI_e, bV_s, bV_e, zl, zi_neg, zi_add, zi_sub, zi_mul, ↓reduceIte, zb0, zb1, bb_and, bb_t, bb_f, zi_ltT, zi_ltF, zi_leT, zi_leF, zi_eqT, zi_eqF, zi_ixT, zi_nat, Int.toNat_natCast, Int.reduceToNat, ltNT, and_self, c.1.1, zshl]
theorem mostM {M : PM} {C : Cal} {x : Int} (hc : WFC C) (c : CalM M C) (hx : x = 0 ∨ x = 1) : F_X11_most_99_34 FUEL M (zi x) (zi 0) (zi 1) = rI (zi (mstV C x)) M := by
  have hp2 := p2 hc.1.1
  have h := loopU (2 ^ cN C) (fun f s => F_X11_most_99_34 f M (zi x) (zi (bmS C s : Nat)) (zi (s : Nat))) (rI (zi (mstV C x)) M) (fun f => mostM_e hc c hx) (fun f i hi => mostM_st hc c hi) 1 FUEL (by omega) (FUEL_gt (by omega))
  have e1 : zi ((bmS C 1 : Nat) : Int) = zi 0 := by
    have : bmS C 1 = 0 := by rw [bmS, if_pos (show pop 0 ≤ pop (bmS C 0) from Nat.le_refl _)]; rfl
    rw [this]; rfl
  have e2 : zi ((1 : Nat) : Int) = zi 1 := rfl
  simp only [e1, e2] at h
  exact h
theorem ok16 : OK_16 Rel := fun M a1 hR => by
  obtain ⟨z, rfl, hz⟩ := zi_rng a1
  have hR2 := hR
  obtain ⟨C, S, W, h1, h2, h3, h4, h5, h6, h7, h8, h9, h10, h11, h12⟩ := hR2
  have hp2 := p2 h1.1.1
  have hl := bmS_le C (2 ^ cN C)
  unfold c_16 w_most
  by_cases h : z = 0 ∨ z = 1
  · refine okq1 (x := zi (mstV C z)) (M1 := M) hR ?_ Sam0.rf (fun M' hs => ⟨sI M' 99 0 (zi 0), ?_, th0, Sam.th⟩)
    · unfold F_X10_most_0 mstV
      rw [needEither_t h, bV_s, greatest_s h1 h2, cI_s]
      have hlt : bmS C (2 ^ cN C) < 4096 := by
        rcases Nat.lt_or_ge (bmS C (2 ^ cN C)) (2 ^ cN C) with q | q
        · omega
        · have e : 2 ^ cN C = (2 ^ cN C - 1) + 1 := by omega
          have := bmS_le C (2 ^ cN C - 1)
          rw [e, bmS] at q ⊢
          split at q
          · omega
          · split at q <;> omega
      have b1 := bitCount_s (M := M) hlt
      rw [b1, cI_s]
      generalize pop (bmS C (2 ^ cN C)) = p1 at *
      rcases h with rfl | rfl <;> simp (disch := omega) only [lt_z, cI_s, cJ_s, cV_s, bI_s, bI_e, bV_s, bV_e, zl, zi_neg, zi_add, zi_sub, zi_mul, ↓reduceIte, zb0, zb1, bb_and, bb_t, bb_f, zi_ltT, zi_ltF, zi_leT, zi_leF, zi_eqT, zi_eqF, zi_ixT, zi_nat, Int.toNat_natCast, Int.reduceToNat, ltNT, and_self, Int.reduceEq]
    · have c : CalM (sI M' 99 0 (zi 0)) C := h3.sm (hs.tr Sam.th.1)
      unfold F_X11_most_99
      simp (disch := omega) only [lt_z, cI_s, cJ_s, cV_s, bI_s, bI_e, bV_s, bV_e, zl, zi_neg, zi_add, zi_sub, zi_mul, ↓reduceIte, zb0, zb1, bb_and, bb_t, bb_f, zi_ltT, zi_ltF, zi_leT, zi_leF, zi_eqT, zi_eqF, zi_ixT, zi_nat, Int.toNat_natCast, Int.reduceToNat, ltNT, and_self, in_t]
      unfold F_X11_most_99_20
      rw [bad_f th0, cI_s]
      exact mostM h1 c h
  · refine okr1 (y := zi 0) 2 hR (by decide) ?_ ?_
    · unfold F_X10_most_0
      simp (disch := omega) only [lt_z, cI_s, cJ_s, cV_s, bI_s, bI_e, bV_s, bV_e, zl, zi_neg, zi_add, zi_sub, zi_mul, ↓reduceIte, zb0, zb1, bb_and, bb_t, bb_f, zi_ltT, zi_ltF, zi_leT, zi_leF, zi_eqT, zi_eqF, zi_ixT, zi_nat, Int.toNat_natCast, Int.reduceToNat, ltNT, and_self, needEither_f]
    · unfold F_X11_most_99
      simp (disch := omega) only [lt_z, cI_s, cJ_s, cV_s, bI_s, bI_e, bV_s, bV_e, zl, zi_neg, zi_add, zi_sub, zi_mul, ↓reduceIte, zb0, zb1, bb_and, bb_t, bb_f, zi_ltT, zi_ltF, zi_leT, zi_leF, zi_eqT, zi_eqF, zi_ixT, zi_nat, Int.toNat_natCast, Int.reduceToNat, ltNT, and_self, in_f]
      unfold F_X11_most_99_20
      simp (disch := omega) only [lt_z, cI_s, cJ_s, cV_s, bI_s, bI_e, bV_s, bV_e, zl, zi_neg, zi_add, zi_sub, zi_mul, ↓reduceIte, zb0, zb1, bb_and, bb_t, bb_f, zi_ltT, zi_ltF, zi_leT, zi_leF, zi_eqT, zi_eqF, zi_ixT, zi_nat, Int.toNat_natCast, Int.reduceToNat, ltNT, and_self, bad_t th0]
      rfl
