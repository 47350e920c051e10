/-! common divisors and turns -/
theorem commonDivisor_s {M : PM} {a b : Nat} (ha : a < 2147483648) (hb : b ≤ 99) : F_X10_commonDivisor M (zi a) (zi b) = rI (zi (Nat.gcd a b)) M := by
  unfold F_X10_commonDivisor
  refine loopS (σ := Nat × Nat × Nat) (fun f s => F_X10_commonDivisor_7 f M (zi s.1) (zi s.2.1) (zi s.2.2)) (fun o => o = rI (zi (Nat.gcd a b)) M) (fun r s => r = s.2.1 ∧ s.2.1 + s.2.2 ≤ 99 ∧ s.1 < 2147483648 ∧ Nat.gcd s.1 s.2.1 = Nat.gcd a b) ?_ b (a, b, 0) FUEL ⟨rfl, by show b + 0 ≤ 99; omega, ha, rfl⟩ (FUEL_gt (by omega))
  rintro f r ⟨x, y, s⟩ ⟨h1, h2, h3, h4⟩
  simp only at h1 h2 h3 h4
  by_cases hy : y = 0
  · subst hy
    left
    rw [Nat.gcd_zero_right] at h4
    show F_X10_commonDivisor_7 (f + 1) M (zi x) (zi (0 : Nat)) (zi s) = _
    rw [F_X10_commonDivisor_7, ← h4]
    simp (disch := omega) only [lt_z, cI_s, cJ_s, cV_s, bI_s, bI_e, bV_s, bV_e, zl, zi_neg, zi_add, zi_sub, zi_mul, ↓reduceIte, zb0, zb1, bb_and, bb_t, bb_f, zi_ltT, zi_ltF, zi_leT, zi_leF, zi_eqT, zi_eqF, zi_ixT, zi_nat, Int.toNat_natCast, Int.reduceToNat, ltNT, and_self]
  · right
    have hm := Nat.mod_lt x (show 0 < y by omega)
    refine ⟨x % y, (y, x % y, s + 1), by omega, ⟨rfl, by show x % y + (s + 1) ≤ 99; omega, by show y < 2147483648; omega, by show Nat.gcd y (x % y) = _; rw [← h4, Nat.gcd_comm, ← Nat.gcd_rec, Nat.gcd_comm]⟩, ?_⟩
    show F_X10_commonDivisor_7 (f + 1) M (zi x) (zi y) (zi s) = F_X10_commonDivisor_7 f M (zi y) (zi ((x % y : Nat))) (zi ((s + 1 : Nat)))
    rw [F_X10_commonDivisor_7, zc (show ((s + 1 : Nat) : Int) = s + 1 by omega), zc (show ((x % y : Nat) : Int) = (x : Int) % (y : Int) from Int.natCast_emod x y), zi_rem (by omega) (by omega)]
    simp (disch := omega) only [lt_z, cI_s, cJ_s, cV_s, bI_s, bI_e, bV_s, bV_e, zl, zi_neg, zi_add, zi_sub, zi_mul, ↓reduceIte, zb0, zb1, bb_and, bb_t, bb_f, zi_ltT, zi_ltF, zi_leT, zi_leF, zi_eqT, zi_eqF, zi_ixT, zi_nat, Int.toNat_natCast, Int.reduceToNat, ltNT, and_self]
theorem common_s {M : PM} {a b : Nat} (ha : a < 2147483648) (hb : b < 2147483648) : F_X11_common M (zi a) (zi b) = rI (zi (Nat.gcd a b)) M := by
  unfold F_X11_common
  refine loopS (σ := Nat × Nat) (fun f s => F_X11_common_4 f M (zi s.1) (zi s.2)) (fun o => o = rI (zi (Nat.gcd a b)) M) (fun r s => r = s.2 ∧ s.2 < 2147483648 ∧ s.1 < 2147483648 ∧ Nat.gcd s.1 s.2 = Nat.gcd a b) ?_ b (a, b) FUEL ⟨rfl, hb, ha, rfl⟩ (FUEL_gt (by omega))
  rintro f r ⟨x, y⟩ ⟨h1, h2, h3, h4⟩
  simp only at h1 h2 h3 h4
  by_cases hy : y = 0
  · subst hy
    left
    rw [Nat.gcd_zero_right] at h4
    show F_X11_common_4 (f + 1) M (zi x) (zi (0 : Nat)) = _
    rw [F_X11_common_4, ← h4]
    simp (disch := omega) only [lt_z, cI_s, cJ_s, cV_s, bI_s, bI_e, bV_s, bV_e, zl, zi_neg, zi_add, zi_sub, zi_mul, ↓reduceIte, zb0, zb1, bb_and, bb_t, bb_f, zi_ltT, zi_ltF, zi_leT, zi_leF, zi_eqT, zi_eqF, zi_ixT, zi_nat, Int.toNat_natCast, Int.reduceToNat, ltNT, and_self]
  · right
    have hm := Nat.mod_lt x (show 0 < y by omega)
    refine ⟨x % y, (y, x % y), by omega, ⟨rfl, by show x % y < 2147483648; omega, by show y < 2147483648; omega, by show Nat.gcd y (x % y) = _; rw [← h4, Nat.gcd_comm, ← Nat.gcd_rec, Nat.gcd_comm]⟩, ?_⟩
    show F_X11_common_4 (f + 1) M (zi x) (zi y) = F_X11_common_4 f M (zi y) (zi ((x % y : Nat)))
    rw [F_X11_common_4, zc (show ((x % y : Nat) : Int) = (x : Int) % (y : Int) from Int.natCast_emod x y), zi_rem (by omega) (by omega)]
    simp (disch := omega) only [lt_z, cI_s, cJ_s, cV_s, bI_s, bI_e, bV_s, bV_e, zl, zi_neg, zi_add, zi_sub, zi_mul, ↓reduceIte, zb0, zb1, bb_and, bb_t, bb_f, zi_ltT, zi_ltF, zi_leT, zi_leF, zi_eqT, zi_eqF, zi_ixT, zi_nat, Int.toNat_natCast, Int.reduceToNat, ltNT, and_self]
theorem gcd_pos {a b : Nat} (hb : 0 < b) : 0 < Nat.gcd a b := Nat.gcd_pos_of_pos_right a hb
theorem gcd_le {a b : Nat} (hb : 0 < b) : Nat.gcd a b ≤ b := Nat.le_of_dvd hb (Nat.gcd_dvd_right a b)
theorem lcm_eq {a b : Nat} (hb : 0 < b) : a / Nat.gcd a b * b = Nat.lcm a b := by
  have hg := gcd_pos (a := a) hb
  obtain ⟨k, hk⟩ := Nat.gcd_dvd_left a b
  show _ = a * b / Nat.gcd a b
  generalize Nat.gcd a b = g at hk hg
  subst hk
  rw [Nat.mul_div_cancel_left _ hg, Nat.mul_assoc, Nat.mul_div_cancel_left _ hg]
theorem commonTurn_s {M : PM} {a b : Nat} (ha : a ≤ 100000) (hb : 0 < b ∧ b ≤ 99) : F_X10_commonTurn M (zi a) (zi b) = rI (zi (Nat.lcm a b)) M := by
  have hg := gcd_pos (a := a) hb.1
  have hl := gcd_le (a := a) hb.1
  unfold F_X10_commonTurn
  rw [commonDivisor_s (by omega) hb.2, cI_s]
  have e : ((Nat.lcm a b : Nat) : Int) = (a : Int) / (Nat.gcd a b : Int) * (b : Int) := by rw [← lcm_eq hb.1, Int.natCast_mul, Int.natCast_ediv]
  rw [e]
  simp (disch := omega) only [lt_z, cI_s, cJ_s, cV_s, bI_s, bI_e, bV_s, bV_e, zl, zi_neg, zi_add, zi_sub, zi_mul, ↓reduceIte, zb0, zb1, bb_and, bb_t, bb_f, zi_ltT, zi_ltF, zi_leT, zi_leF, zi_eqT, zi_eqF, zi_ixT, zi_nat, Int.toNat_natCast, Int.reduceToNat, ltNT, and_self, zi_div]
theorem emod0 {a b : Int} (hb : 0 < b) : (a.tmod b = 0) ↔ a % b = 0 := by
  have h1 := Int.tmod_lt_of_pos a hb
  have h2 := Int.lt_tmod_of_pos a hb
  have h3 := emod_tmod (a := a) hb
  by_cases h : 0 ≤ a.tmod b
  · rw [if_pos h] at h3; omega
  · rw [if_neg h] at h3; omega
theorem mee_comm (w d v e : Nat) : mee w d v e = mee v e w d := by
  unfold mee
  rw [Nat.gcd_comm]
  refine decide_eq_decide.mpr ?_
  rw [← Int.dvd_iff_emod_eq_zero, ← Int.dvd_iff_emod_eq_zero, ← Int.dvd_neg, Int.neg_sub]
theorem canBe_s {M : PM} {w d v e : Nat} (hw : w < 2147483648) (hv : 0 < v ∧ v < 2147483648) (hd : d < 1000000000) (he : e < 1000000000) : F_X11_canBe M (zi w) (zi d) (zi v) (zi e) = rI (bb (mee w d v e)) M := by
  have hg := gcd_pos (a := w) hv.1
  have hl := gcd_le (a := w) hv.1
  have h1 := Int.tmod_lt_of_pos ((d : Int) - e) (b := (Nat.gcd w v : Int)) (by omega)
  have h2 := Int.lt_tmod_of_pos ((d : Int) - e) (b := (Nat.gcd w v : Int)) (by omega)
  unfold F_X11_canBe mee
  rw [common_s hw hv.2, cI_s, zi_sub, zi_trem (by omega) (by omega)]
  by_cases h : ((d : Int) - e) % (Nat.gcd w v : Int) = 0
  · rw [decide_eq_true h, (emod0 (by omega)).mpr h]
    simp (disch := omega) only [lt_z, cI_s, cJ_s, cV_s, bI_s, bI_e, bV_s, bV_e, zl, zi_neg, zi_add, zi_sub, zi_mul, ↓reduceIte, zb0, zb1, bb_and, bb_t, bb_f, zi_ltT, zi_ltF, zi_leT, zi_leF, zi_eqT, zi_eqF, zi_ixT, zi_nat, Int.toNat_natCast, Int.reduceToNat, ltNT, and_self]
  · have h3 : ((d : Int) - e).tmod (Nat.gcd w v : Int) ≠ 0 := fun h4 => h ((emod0 (by omega)).mp h4)
    rw [decide_eq_false h]
    simp (disch := omega) only [lt_z, cI_s, cJ_s, cV_s, bI_s, bI_e, bV_s, bV_e, zl, zi_neg, zi_add, zi_sub, zi_mul, ↓reduceIte, zb0, zb1, bb_and, bb_t, bb_f, zi_ltT, zi_ltF, zi_leT, zi_leF, zi_eqT, zi_eqF, zi_ixT, zi_nat, Int.toNat_natCast, Int.reduceToNat, ltNT, and_self]
theorem meetingWith_s {M : PM} {C : Cal} {l : Nat} (hc : WFC C) (c : CalC M C) (hl : l < cN C) : F_X2_meetingWith_4 M (zi l) = rI (ob (fun k => mee (cW C k) (cD C k) (cW C l) (cD C l)) (cN C)) M := by
  have hn := hc.1.1
  unfold F_X2_meetingWith_4
  simp (disch := omega) only [lt_z, cI_s, cJ_s, cV_s, bI_s, bI_e, bV_s, bV_e, zl, zi_neg, zi_add, zi_sub, zi_mul, ↓reduceIte, zb0, zb1, bb_and, bb_t, bb_f, zi_ltT, zi_ltF, zi_leT, zi_leF, zi_eqT, zi_eqF, zi_ixT, zi_nat, Int.toNat_natCast, Int.reduceToNat, ltNT, and_self, isLawC_t c.1.1 hn, c.2.2.1]
theorem canBoth_s {M : PM} {C : Cal} {a b : Nat} (hc : WFC C) (c : CalM M C) (ha : a < cN C) (hb : b < cN C) : F_X11_canBoth_99 M (zi a) (zi b) = rI (bb (mee (cW C a) (cD C a) (cW C b) (cD C b))) M := by
  have hn := hc.1.1
  have h1 := hc.2.1 a ha
  have h2 := hc.2.1 b hb
  unfold F_X11_canBoth_99
  simp (disch := omega) only [lt_z, cI_s, cJ_s, cV_s, bI_s, bI_e, bV_s, bV_e, zl, zi_neg, zi_add, zi_sub, zi_mul, ↓reduceIte, zb0, zb1, bb_and, bb_t, bb_f, zi_ltT, zi_ltF, zi_leT, zi_leF, zi_eqT, zi_eqF, zi_ixT, zi_nat, Int.toNat_natCast, Int.reduceToNat, ltNT, and_self, c.2.1, c.2.2.1, canBe_s]
/-! never -/
/-- laws a and b are among L, and never come together -/
def nev (C : Cal) (L a b : Nat) : Bool := L.testBit a && (L.testBit b && !(mee (cW C a) (cD C a) (cW C b) (cD C b)))
def nevB (C : Cal) (L a : Nat) : Nat := fa_first (fun b => decide (a < b) && nev C L a b) (cN C)
def nevA (C : Cal) (L : Nat) : Nat := fa_first (fun a => decide (nevB C L a < cN C)) (cN C)
def nevV (C : Cal) (L : Nat) : Int := if nevA C L < cN C then 100 * (nevA C L : Int) + (nevB C L (nevA C L) : Int) else -1
theorem first_eq {p : Nat → Bool} {n i : Nat} (hi : i < n) (hp : p i = true) (hb : ∀ j, j < i → p j = false) : fa_first p n = i := by
  have h1 := fa_first_le p n
  rcases Nat.lt_trichotomy (fa_first p n) i with h | h | h
  · have := fa_first_yes p n (by omega)
    rw [hb _ h] at this
    exact absurd this (by decide)
  · exact h
  · have := fa_first_no p n i h
    rw [hp] at this
    exact absurd this (by decide)
theorem first_none {p : Nat → Bool} {n : Nat} (hb : ∀ j, j < n → p j = false) : fa_first p n = n := by
  have h1 := fa_first_le p n
  rcases Nat.lt_or_ge (fa_first p n) n with h | h
  · have := fa_first_yes p n h
    rw [hb _ h] at this
    exact absurd this (by decide)
  · omega
