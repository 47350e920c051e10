/-! days: turned, holds, inHouse, clashes -/
theorem zc {a b : Int} (h : a = b) : zi a = zi b := congrArg zi h
theorem ctT {p : Nat → Bool} {n : Nat} (h : p n = true) : fb_ct p (n + 1) = fb_ct p n + 1 := by rw [fb_ct_succ, if_pos h]
theorem ctF {p : Nat → Bool} {n : Nat} (h : p n = false) : fb_ct p (n + 1) = fb_ct p n := by rw [fb_ct_succ, if_neg (by rw [h]; decide)]; rfl
theorem emod_tmod {a b : Int} (hb : 0 < b) : a % b = if 0 ≤ a.tmod b then a.tmod b else a.tmod b + b := by
  have h1 := Int.tmod_lt_of_pos a hb
  have h2 := Int.lt_tmod_of_pos a hb
  have h3 := Int.tmod_add_mul_tdiv a b
  by_cases h : 0 ≤ a.tmod b
  · rw [if_pos h]
    conv => lhs; rw [← h3]
    rw [Int.add_mul_emod_self_left, Int.emod_eq_of_lt h h1]
  · rw [if_neg h]
    have e : a = (a.tmod b + b) + b * (a.tdiv b - 1) := by rw [Int.mul_sub]; omega
    conv => lhs; rw [e]
    rw [Int.add_mul_emod_self_left, Int.emod_eq_of_lt (by omega) (by omega)]
theorem left_s {M : PM} {a b : Int} (ha : -2147483648 ≤ a ∧ a < 2147483648) (hb : 0 < b ∧ b < 2147483648) : F_X10_left M (zi a) (zi b) = rI (zi (a % b)) M := by
  have h1 := Int.tmod_lt_of_pos a hb.1
  have h2 := Int.lt_tmod_of_pos a hb.1
  have h3 := emod_tmod (a := a) hb.1
  unfold F_X10_left
  rw [zi_trem ha hb]
  by_cases h : 0 ≤ a.tmod b
  · rw [if_pos h] at h3
    rw [h3]
    simp (disch := omega) only [lt_z, cI_s, cJ_s, cV_s, bI_s, bI_e, bV_s, bV_e, zl, zi_neg, zi_add, zi_sub, zi_mul, ↓reduceIte, zb0, zb1, bb_and, bb_t, bb_f, zi_ltT, zi_ltF, zi_leT, zi_leF, zi_eqT, zi_eqF]
  · rw [if_neg h] at h3
    rw [h3]
    simp (disch := omega) only [lt_z, cI_s, cJ_s, cV_s, bI_s, bI_e, bV_s, bV_e, zl, zi_neg, zi_add, zi_sub, zi_mul, ↓reduceIte, zb0, zb1, bb_and, bb_t, bb_f, zi_ltT, zi_ltF, zi_leT, zi_leF, zi_eqT, zi_eqF]
def hb (w d : Nat) (t : Int) : Bool := decide (t % (w : Int) = (d : Int))
theorem isHeld_s {M : PM} {n l : Nat} {w d : Nat → Nat} {t : Int} (hn : mI M 4 4 = zi n) (hb1 : n ≤ 12) (hw : ∀ l, l < n → mA M 5 l = zi (w l)) (hd : ∀ l, l < n → mA M 6 l = zi (d l)) (hwf : ∀ l, l < n → (2 ≤ w l ∧ w l ≤ 24) ∧ d l < w l) (h : l < n) (ht : -2147483648 ≤ t ∧ t < 2147483648) : F_X2_isHeld_4 M (zi l) (zi t) = rI (bb (hb (w l) (d l) t)) M := by
  have h1 := hwf l h
  have h2 := Int.emod_nonneg t (b := (w l : Int)) (by omega)
  have h3 := Int.emod_lt_of_pos t (b := (w l : Int)) (by omega)
  unfold F_X2_isHeld_4 hb
  by_cases e : t % (w l : Int) = (d l : Int)
  · rw [decide_eq_true e]
    simp (disch := omega) only [lt_z, cI_s, cJ_s, cV_s, bI_s, bI_e, bV_s, bV_e, zl, zi_neg, zi_add, zi_sub, zi_mul, ↓reduceIte, zb0, zb1, bb_and, bb_t, bb_f, zi_ltT, zi_ltF, zi_leT, zi_leF, zi_eqT, zi_eqF, zi_ixT, zi_nat, Int.toNat_natCast, Int.reduceToNat, ltNT, and_self, isLawC_t hn hb1, hw, hd, left_s, e]
  · rw [decide_eq_false e]
    simp (disch := omega) only [lt_z, cI_s, cJ_s, cV_s, bI_s, bI_e, bV_s, bV_e, zl, zi_neg, zi_add, zi_sub, zi_mul, ↓reduceIte, zb0, zb1, bb_and, bb_t, bb_f, zi_ltT, zi_ltF, zi_leT, zi_leF, zi_eqT, zi_eqF, zi_ixT, zi_nat, Int.toNat_natCast, Int.reduceToNat, ltNT, and_self, isLawC_t hn hb1, hw, hd, left_s]
theorem turnsOn_s {M : PM} {C : Cal} {d : Int} (hc : WFC C) (hk : mI M 3 5 = zi (cK C)) (hs : ∀ i, i < cK C → mA M 15 i = zi (cS C i)) (hd : -2147483645 ≤ d ∧ d < 2147483648) : F_X0_turnsOn_3 M (zi d) = rI (zi (tO C d)) M := by
  have hK := hc.1.2.2.2
  have hS := hc.2.2.2.1
  unfold F_X0_turnsOn_3
  have h := loopU (cK C) (fun f i => F_X0_turnsOn_3_4 f M (zi d) (zi (d - (fb_ct (fun i => decide ((cS C i : Int) < d)) i : Nat))) (zi (i : Nat))) (rI (zi (tO C d)) M) (fun f => by
      rw [F_X0_turnsOn_3_4]
      simp (disch := omega) only [lt_z, cI_s, cJ_s, cV_s, bI_s, bI_e, bV_s, bV_e, zl, zi_neg, zi_add, zi_sub, zi_mul, ↓reduceIte, zb0, zb1, bb_and, bb_t, bb_f, zi_ltT, zi_ltF, zi_leT, zi_leF, zi_eqT, zi_eqF, hk]
      rfl) (fun f i hi => by
      have h9 := hS i hi
      rw [F_X0_turnsOn_3_4, zc (show ((i + 1 : Nat) : Int) = i + 1 by omega)]
      unfold F_X0_turnsOn_3_28
      by_cases hp : (cS C i : Int) < d
      · rw [ctT (p := (fun i => decide ((cS C i : Int) < d))) (decide_eq_true hp), zc (show d - ((fb_ct (fun i => decide ((cS C i : Int) < d)) i + 1 : Nat) : Int) = d - (fb_ct (fun i => decide ((cS C i : Int) < d)) i : Nat) - 1 by omega)]
        simp (disch := omega) only [lt_z, cI_s, cJ_s, cV_s, bI_s, bI_e, bV_s, bV_e, zl, zi_neg, zi_add, zi_sub, zi_mul, ↓reduceIte, zb0, zb1, bb_and, bb_t, bb_f, zi_ltT, zi_ltF, zi_leT, zi_leF, zi_eqT, zi_eqF, zi_ixT, zi_nat, Int.toNat_natCast, Int.reduceToNat, ltNT, and_self, hk, hs]
      · rw [ctF (p := (fun i => decide ((cS C i : Int) < d))) (decide_eq_false hp)]
        simp (disch := omega) only [lt_z, cI_s, cJ_s, cV_s, bI_s, bI_e, bV_s, bV_e, zl, zi_neg, zi_add, zi_sub, zi_mul, ↓reduceIte, zb0, zb1, bb_and, bb_t, bb_f, zi_ltT, zi_ltF, zi_leT, zi_leF, zi_eqT, zi_eqF, zi_ixT, zi_nat, Int.toNat_natCast, Int.reduceToNat, ltNT, and_self, hk, hs, Int.sub_zero]) 0 FUEL (by omega) (FUEL_gt (by omega))
  have e0 : d - ((fb_ct (fun i => decide ((cS C i : Int) < d)) 0 : Nat) : Int) = d := by show d - ((0 : Nat) : Int) = d; omega
  simp only [e0] at h
  exact h
theorem turnedOn_s {M : PM} {C : Cal} {d : Int} (hc : WFC C) (hk : mA M 103 3 = zi (cK C)) (hs : ∀ i, i < cK C → mA M 105 i = zi (cS C i)) (hd : -2147483645 ≤ d ∧ d < 2147483648) : F_X11_turnedOn_99 M (zi d) = rI (zi (tO C d)) M := by
  have hK := hc.1.2.2.2
  have hS := hc.2.2.2.1
  unfold F_X11_turnedOn_99
  have h := loopU (cK C) (fun f i => F_X11_turnedOn_99_4 f M (zi d) (zi (d - (fb_ct (fun i => decide ((cS C i : Int) < d)) i : Nat))) (zi (i : Nat))) (rI (zi (tO C d)) M) (fun f => by
      rw [F_X11_turnedOn_99_4]
      simp (disch := omega) only [lt_z, cI_s, cJ_s, cV_s, bI_s, bI_e, bV_s, bV_e, zl, zi_neg, zi_add, zi_sub, zi_mul, ↓reduceIte, zb0, zb1, bb_and, bb_t, bb_f, zi_ltT, zi_ltF, zi_leT, zi_leF, zi_eqT, zi_eqF, zi_ixT, zi_nat, Int.toNat_natCast, Int.reduceToNat, ltNT, and_self, hk]
      rfl) (fun f i hi => by
      have h9 := hS i hi
      rw [F_X11_turnedOn_99_4, zc (show ((i + 1 : Nat) : Int) = i + 1 by omega)]
      unfold F_X11_turnedOn_99_30
      by_cases hp : (cS C i : Int) < d
      · rw [ctT (p := (fun i => decide ((cS C i : Int) < d))) (decide_eq_true hp), zc (show d - ((fb_ct (fun i => decide ((cS C i : Int) < d)) i + 1 : Nat) : Int) = d - (fb_ct (fun i => decide ((cS C i : Int) < d)) i : Nat) - 1 by omega)]
        simp (disch := omega) only [lt_z, cI_s, cJ_s, cV_s, bI_s, bI_e, bV_s, bV_e, zl, zi_neg, zi_add, zi_sub, zi_mul, ↓reduceIte, zb0, zb1, bb_and, bb_t, bb_f, zi_ltT, zi_ltF, zi_leT, zi_leF, zi_eqT, zi_eqF, zi_ixT, zi_nat, Int.toNat_natCast, Int.reduceToNat, ltNT, and_self, hk, hs]
      · rw [ctF (p := (fun i => decide ((cS C i : Int) < d))) (decide_eq_false hp)]
        simp (disch := omega) only [lt_z, cI_s, cJ_s, cV_s, bI_s, bI_e, bV_s, bV_e, zl, zi_neg, zi_add, zi_sub, zi_mul, ↓reduceIte, zb0, zb1, bb_and, bb_t, bb_f, zi_ltT, zi_ltF, zi_leT, zi_leF, zi_eqT, zi_eqF, zi_ixT, zi_nat, Int.toNat_natCast, Int.reduceToNat, ltNT, and_self, hk, hs, Int.sub_zero]) 0 FUEL (by omega) (FUEL_gt (by omega))
  have e0 : d - ((fb_ct (fun i => decide ((cS C i : Int) < d)) 0 : Nat) : Int) = d := by show d - ((0 : Nat) : Int) = d; omega
  simp only [e0] at h
  exact h
theorem ct_one {f : Nat → Nat} {v : Nat} : ∀ {n : Nat}, (∀ i j, i < j → j < n → f i ≠ f j) → fb_ct (fun i => decide (f i = v)) n ≤ 1
  | 0, _ => Nat.zero_le 1
  | n + 1, h => by
    have ih := ct_one (v := v) (n := n) (fun i j a b => h i j a (by omega))
    rw [fb_ct_succ]
    by_cases e : f n = v
    · have : fb_ct (fun i => decide (f i = v)) n = 0 := fb_ct_zero.mpr (fun k hk => decide_eq_false (fun e2 => h k n hk (by omega) (by rw [e2, e])))
      rw [this]
      split <;> omega
    · rw [decide_eq_false e, if_neg (by decide)]; exact ih
theorem ct_lt {f : Nat → Nat} {n : Nat} (h : ∀ i j, i < j → j < n → f i ≠ f j) : ∀ v : Nat, fb_ct (fun i => decide ((f i : Int) < v)) n ≤ v
  | 0 => Nat.le_of_eq (fb_ct_zero.mpr (fun k _ => decide_eq_false (by omega)))
  | v + 1 => by
    have ih := ct_lt h v
    have h1 := ct_one (v := v) h
    have e : fb_ct (fun i => decide ((f i : Int) < (v + 1 : Nat))) n = fb_ct (fun i => decide ((f i : Int) < v) || decide (f i = v)) n := fb_ct_cong (fun k _ => by
      rw [← Bool.decide_or]
      exact decide_eq_decide.mpr (by omega))
    rw [e, fb_ct_or (fun k _ => by simp only [decide_eq_true_eq]; omega)]
    omega
theorem tO_nn {C : Cal} (hc : WFC C) {d : Int} (hd : 0 ≤ d) : 0 ≤ tO C d ∧ tO C d ≤ d ∧ d ≤ tO C d + 3 := by
  have h1 := ct_lt hc.2.2.2.2.1 d.toNat
  have h2 := fb_ct_le (fun i => decide ((cS C i : Int) < d)) (cK C)
  have h3 := hc.1.2.2.2
  have e : ((d.toNat : Nat) : Int) = d := by omega
  rw [e] at h1
  unfold tO
  omega
theorem lawsOfTown_s {M : PM} {C : Cal} {d : Int} (hc : WFC C) (c : CalC M C) (hd : 0 ≤ d ∧ d < 2147483648) : F_X10_lawsOfTown_0 M (zi d) = rI (ob (fun l => hb (cW C l) (cD C l) (tO C d)) (cN C)) M := by
  have h0 := tO_nn hc hd.1
  have hn := hc.1.1
  obtain ⟨⟨a1, a2, a3, a4⟩, -, -, ⟨-, a5, -⟩, a6⟩ := c
  unfold F_X10_lawsOfTown_0
  rw [turnsOn_s hc a5 a6 (by omega), cI_s]
  exact loopU (cN C) (fun f i => F_X10_lawsOfTown_0_14 f M (zi (tO C d)) (ob (fun l => hb (cW C l) (cD C l) (tO C d)) i) (zi (i : Nat))) _ (fun f => by
      rw [F_X10_lawsOfTown_0_14]
      simp (disch := omega) only [lt_z, cI_s, cJ_s, cV_s, bI_s, bI_e, bV_s, bV_e, zl, zi_neg, zi_add, zi_sub, zi_mul, ↓reduceIte, zb0, zb1, bb_and, bb_t, bb_f, zi_ltT, zi_ltF, zi_leT, zi_leF, zi_eqT, zi_eqF, a1]) (fun f i hi => by
      rw [F_X10_lawsOfTown_0_14, zc (show ((i + 1 : Nat) : Int) = i + 1 by omega), ob]
      unfold F_X10_lawsOfTown_0_54
      cases hp : hb (cW C i) (cD C i) (tO C d)
      · simp (disch := omega) only [lt_z, cI_s, cJ_s, cV_s, bI_s, bI_e, bV_s, bV_e, zl, zi_neg, zi_add, zi_sub, zi_mul, ↓reduceIte, zb0, zb1, bb_and, bb_t, bb_f, zi_ltT, zi_ltF, zi_leT, zi_leF, zi_eqT, zi_eqF, a1, isHeld_s a1 hn a2 a3 hc.2.1, hp, Bool.false_eq_true]
      · simp (disch := omega) only [lt_z, cI_s, cJ_s, cV_s, bI_s, bI_e, bV_s, bV_e, zl, zi_neg, zi_add, zi_sub, zi_mul, ↓reduceIte, zb0, zb1, bb_and, bb_t, bb_f, zi_ltT, zi_ltF, zi_leT, zi_leF, zi_eqT, zi_eqF, a1, isHeld_s a1 hn a2 a3 hc.2.1, hp]) 0 FUEL (by omega) (FUEL_gt (by omega))
theorem lawsOfHouse_s {M : PM} {C : Cal} {S : Sta} {d : Int} {h : Nat} (hc : WFC C) (hw : WFS C S) (c : CalC M C) (s : StaC M C S 16) (hd : 0 ≤ d ∧ d < 1000000000) (hh : h < cH C) : F_X10_lawsOfHouse_0 M (zi d) (zi h) = rI (ob (fun l => hb (cW C l) (cD C l) (tO C d + aS S h l)) (cN C)) M := by
  have h0 := tO_nn hc hd.1
  have hn := hc.1.1
  have hH := hc.1.2.2.1
  have h7 := hc.2.1
  have h8 := hw.1
  obtain ⟨⟨a1, a2, a3, a4⟩, -, -, ⟨-, a5, -⟩, a6⟩ := c
  unfold F_X10_lawsOfHouse_0
  rw [turnsOn_s hc a5 a6 (by omega), cI_s]
  exact loopU (cN C) (fun f i => F_X10_lawsOfHouse_0_15 f M (zi h) (zi (tO C d)) (ob (fun l => hb (cW C l) (cD C l) (tO C d + aS S h l)) i) (zi (i : Nat))) _ (fun f => by
      rw [F_X10_lawsOfHouse_0_15]
      simp (disch := omega) only [lt_z, cI_s, cJ_s, cV_s, bI_s, bI_e, bV_s, bV_e, zl, zi_neg, zi_add, zi_sub, zi_mul, ↓reduceIte, zb0, zb1, bb_and, bb_t, bb_f, zi_ltT, zi_ltF, zi_leT, zi_leF, zi_eqT, zi_eqF, a1]) (fun f i hi => by
      have h9 := h7 i hi
      have h10 := h8 h i hh hi
      rw [F_X10_lawsOfHouse_0_15, zc (show ((i + 1 : Nat) : Int) = i + 1 by omega), ob]
      unfold F_X10_lawsOfHouse_0_67
      cases hp : hb (cW C i) (cD C i) (tO C d + aS S h i)
      · simp (disch := omega) only [lt_z, cI_s, cJ_s, cV_s, bI_s, bI_e, bV_s, bV_e, zl, zi_neg, zi_add, zi_sub, zi_mul, ↓reduceIte, zb0, zb1, bb_and, bb_t, bb_f, zi_ltT, zi_ltF, zi_leT, zi_leF, zi_eqT, zi_eqF, a1, aheadOf_t s.1 hH, isHeld_s a1 hn a2 a3 hc.2.1, hp, Bool.false_eq_true]
      · simp (disch := omega) only [lt_z, cI_s, cJ_s, cV_s, bI_s, bI_e, bV_s, bV_e, zl, zi_neg, zi_add, zi_sub, zi_mul, ↓reduceIte, zb0, zb1, bb_and, bb_t, bb_f, zi_ltT, zi_ltF, zi_leT, zi_leF, zi_eqT, zi_eqF, a1, aheadOf_t s.1 hH, isHeld_s a1 hn a2 a3 hc.2.1, hp]) 0 FUEL (by omega) (FUEL_gt (by omega))
theorem holdsAt_s {M : PM} {C : Cal} {t : Int} {l : Nat} (hc : WFC C) (c : CalM M C) (hl : l < cN C) (ht : 0 ≤ t ∧ t < 2147483648) : F_X11_holdsAt_99 M (zi l) (zi t) = rI (bb (hb (cW C l) (cD C l) t)) M := by
  have hn := hc.1.1
  have h1 := hc.2.1 l hl
  have h2 := Int.emod_nonneg t (b := (cW C l : Int)) (by omega)
  have h3 := Int.emod_lt_of_pos t (b := (cW C l : Int)) (by omega)
  obtain ⟨-, a1, a2, -⟩ := c
  unfold F_X11_holdsAt_99 hb
  by_cases e : t % (cW C l : Int) = (cD C l : Int)
  · rw [decide_eq_true e]
    simp (disch := omega) only [zi_ixT, zi_nat, Int.toNat_natCast, Int.reduceToNat, ltNT, and_self, a1, a2, zi_rem]
    simp (disch := omega) only [lt_z, cI_s, cJ_s, cV_s, bI_s, bI_e, bV_s, bV_e, zl, zi_neg, zi_add, zi_sub, zi_mul, ↓reduceIte, zb0, zb1, bb_and, bb_t, bb_f, zi_ltT, zi_ltF, zi_leT, zi_leF, zi_eqT, zi_eqF, zi_ixT, zi_nat, Int.toNat_natCast, Int.reduceToNat, ltNT, and_self, e]
  · rw [decide_eq_false e]
    simp (disch := omega) only [zi_ixT, zi_nat, Int.toNat_natCast, Int.reduceToNat, ltNT, and_self, a1, a2, zi_rem]
    simp (disch := omega) only [lt_z, cI_s, cJ_s, cV_s, bI_s, bI_e, bV_s, bV_e, zl, zi_neg, zi_add, zi_sub, zi_mul, ↓reduceIte, zb0, zb1, bb_and, bb_t, bb_f, zi_ltT, zi_ltF, zi_leT, zi_leF, zi_eqT, zi_eqF, zi_ixT, zi_nat, Int.toNat_natCast, Int.reduceToNat, ltNT, and_self]
theorem bitsAt_s {M : PM} {C : Cal} {t : Int} (hc : WFC C) (c : CalM M C) (ht : 0 ≤ t ∧ t < 2147483648) : F_X11_bitsAt_99 M (zi t) = rI (ob (fun l => hb (cW C l) (cD C l) t) (cN C)) M := by
  have hn := hc.1.1
  have a1 := c.1.1
  unfold F_X11_bitsAt_99
  exact loopU (cN C) (fun f i => F_X11_bitsAt_99_4 f M (zi t) (ob (fun l => hb (cW C l) (cD C l) t) i) (zi (i : Nat))) _ (fun f => by
      rw [F_X11_bitsAt_99_4]
      simp (disch := omega) only [lt_z, cI_s, cJ_s, cV_s, bI_s, bI_e, bV_s, bV_e, zl, zi_neg, zi_add, zi_sub, zi_mul, ↓reduceIte, zb0, zb1, bb_and, bb_t, bb_f, zi_ltT, zi_ltF, zi_leT, zi_leF, zi_eqT, zi_eqF, zi_ixT, zi_nat, Int.toNat_natCast, Int.reduceToNat, ltNT, and_self, a1]) (fun f i hi => by
      rw [F_X11_bitsAt_99_4, zc (show ((i + 1 : Nat) : Int) = i + 1 by omega), ob]
      unfold F_X11_bitsAt_99_31
      cases hp : hb (cW C i) (cD C i) t
      · simp (disch := omega) only [lt_z, cI_s, cJ_s, cV_s, bI_s, bI_e, bV_s, bV_e, zl, zi_neg, zi_add, zi_sub, zi_mul, ↓reduceIte, zb0, zb1, bb_and, bb_t, bb_f, zi_ltT, zi_ltF, zi_leT, zi_leF, zi_eqT, zi_eqF, zi_ixT, zi_nat, Int.toNat_natCast, Int.reduceToNat, ltNT, and_self, a1, holdsAt_s hc c, hp, Bool.false_eq_true]
      · simp (disch := omega) only [lt_z, cI_s, cJ_s, cV_s, bI_s, bI_e, bV_s, bV_e, zl, zi_neg, zi_add, zi_sub, zi_mul, ↓reduceIte, zb0, zb1, bb_and, bb_t, bb_f, zi_ltT, zi_ltF, zi_leT, zi_leF, zi_eqT, zi_eqF, zi_ixT, zi_nat, Int.toNat_natCast, Int.reduceToNat, ltNT, and_self, a1, holdsAt_s hc c, hp]) 0 FUEL (by omega) (FUEL_gt (by omega))
theorem inHouseAt_s {M : PM} {C : Cal} {S : Sta} {t : Int} {h l : Nat} (hc : WFC C) (hw : WFS C S) (c : CalM M C) (s : StaM M C S) (hh : h < cH C) (hl : l < cN C) (ht : 0 ≤ t ∧ t < 2147483600) : F_X11_inHouseAt_99 M (zi h) (zi l) (zi t) = rI (bb (hb (cW C l) (cD C l) (t + aS S h l))) M := by
  have hn := hc.1.1
  have hH := hc.1.2.2.1
  have h1 := hc.2.1 l hl
  have h4 := hw.1 h l hh hl
  have h2 := Int.emod_nonneg (t + aS S h l) (b := (cW C l : Int)) (by omega)
  have h3 := Int.emod_lt_of_pos (t + aS S h l) (b := (cW C l : Int)) (by omega)
  obtain ⟨-, a1, a2, -⟩ := c
  obtain ⟨s1, -⟩ := s
  unfold F_X11_inHouseAt_99 hb
  by_cases e : (t + aS S h l) % (cW C l : Int) = (cD C l : Int)
  · rw [decide_eq_true e]
    simp (disch := omega) only [zi_ixT, zi_nat, Int.toNat_natCast, Int.reduceToNat, ltNT, and_self, a1, a2, s1, zi_add, zi_rem]
    simp (disch := omega) only [lt_z, cI_s, cJ_s, cV_s, bI_s, bI_e, bV_s, bV_e, zl, zi_neg, zi_add, zi_sub, zi_mul, ↓reduceIte, zb0, zb1, bb_and, bb_t, bb_f, zi_ltT, zi_ltF, zi_leT, zi_leF, zi_eqT, zi_eqF, zi_ixT, zi_nat, Int.toNat_natCast, Int.reduceToNat, ltNT, and_self, e]
  · rw [decide_eq_false e]
    simp (disch := omega) only [zi_ixT, zi_nat, Int.toNat_natCast, Int.reduceToNat, ltNT, and_self, a1, a2, s1, zi_add, zi_rem]
    simp (disch := omega) only [lt_z, cI_s, cJ_s, cV_s, bI_s, bI_e, bV_s, bV_e, zl, zi_neg, zi_add, zi_sub, zi_mul, ↓reduceIte, zb0, zb1, bb_and, bb_t, bb_f, zi_ltT, zi_ltF, zi_leT, zi_leF, zi_eqT, zi_eqF, zi_ixT, zi_nat, Int.toNat_natCast, Int.reduceToNat, ltNT, and_self]
theorem inHouseBits_s {M : PM} {C : Cal} {S : Sta} {t : Int} {h : Nat} (hc : WFC C) (hw : WFS C S) (c : CalM M C) (s : StaM M C S) (hh : h < cH C) (ht : 0 ≤ t ∧ t < 2147483600) : F_X11_inHouseBits_99 M (zi h) (zi t) = rI (ob (fun l => hb (cW C l) (cD C l) (t + aS S h l)) (cN C)) M := by
  have hn := hc.1.1
  have a1 := c.1.1
  unfold F_X11_inHouseBits_99
  exact loopU (cN C) (fun f i => F_X11_inHouseBits_99_5 f M (zi h) (zi t) (ob (fun l => hb (cW C l) (cD C l) (t + aS S h l)) i) (zi (i : Nat))) _ (fun f => by
      rw [F_X11_inHouseBits_99_5]
      simp (disch := omega) only [lt_z, cI_s, cJ_s, cV_s, bI_s, bI_e, bV_s, bV_e, zl, zi_neg, zi_add, zi_sub, zi_mul, ↓reduceIte, zb0, zb1, bb_and, bb_t, bb_f, zi_ltT, zi_ltF, zi_leT, zi_leF, zi_eqT, zi_eqF, zi_ixT, zi_nat, Int.toNat_natCast, Int.reduceToNat, ltNT, and_self, a1]) (fun f i hi => by
      rw [F_X11_inHouseBits_99_5, zc (show ((i + 1 : Nat) : Int) = i + 1 by omega), ob]
      unfold F_X11_inHouseBits_99_36
      cases hp : hb (cW C i) (cD C i) (t + aS S h i)
      · simp (disch := omega) only [lt_z, cI_s, cJ_s, cV_s, bI_s, bI_e, bV_s, bV_e, zl, zi_neg, zi_add, zi_sub, zi_mul, ↓reduceIte, zb0, zb1, bb_and, bb_t, bb_f, zi_ltT, zi_ltF, zi_leT, zi_leF, zi_eqT, zi_eqF, zi_ixT, zi_nat, Int.toNat_natCast, Int.reduceToNat, ltNT, and_self, a1, inHouseAt_s hc hw c s hh, hp, Bool.false_eq_true]
      · simp (disch := omega) only [lt_z, cI_s, cJ_s, cV_s, bI_s, bI_e, bV_s, bV_e, zl, zi_neg, zi_add, zi_sub, zi_mul, ↓reduceIte, zb0, zb1, bb_and, bb_t, bb_f, zi_ltT, zi_ltF, zi_leT, zi_leF, zi_eqT, zi_eqF, zi_ixT, zi_nat, Int.toNat_natCast, Int.reduceToNat, ltNT, and_self, a1, inHouseAt_s hc hw c s hh, hp]) 0 FUEL (by omega) (FUEL_gt (by omega))
