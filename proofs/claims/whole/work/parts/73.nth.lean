/-! the n-th bit; days that fit what was seen -/
theorem ct_lt_of {p : Nat → Bool} {i j : Nat} (h : i < j) (hp : p i = true) : fb_ct p i + 1 ≤ fb_ct p j := by
  rw [← ctT hp]
  exact fb_ct_mono p (by omega)
theorem nthLowest_s {M : PM} {x : Int64} {n : Nat} (hn : 1 ≤ n) (hc : n ≤ fb_ct (lb x) 64) : ∃ p, F_X10_nthLowest M x (zi n) = rI (zi (p : Nat)) M ∧ p < 64 ∧ lb x p = true ∧ fb_ct (lb x) p + 1 = n := by
  have h64 := fb_ct_le (lb x) 64
  unfold F_X10_nthLowest
  refine loopS (σ := Nat × Int64) (fun f s => F_X10_nthLowest_5 f M (zi n) s.2 (zi (s.1 : Nat))) (fun o => ∃ p, o = rI (zi (p : Nat)) M ∧ p < 64 ∧ lb x p = true ∧ fb_ct (lb x) p + 1 = n) (fun r s => 1 ≤ s.1 ∧ s.1 ≤ n ∧ r = n - s.1 ∧ ∀ j, j < 64 → lb s.2 j = (lb x j && decide (s.1 - 1 ≤ fb_ct (lb x) j))) ?_ (n - 1) (1, x) FUEL ⟨Nat.le_refl 1, hn, rfl, fun j _ => by show lb x j = (lb x j && decide (1 - 1 ≤ fb_ct (lb x) j)); rw [decide_eq_true (Nat.zero_le _), Bool.and_true]⟩ (FUEL_gt (by omega))
  rintro f r ⟨i, y⟩ ⟨h1, h2, h3, h4⟩
  simp only at h1 h2 h3 h4
  by_cases e : i = n
  · left
    subst e
    obtain ⟨p, p1, p2, p3⟩ := fb_ct_kth (p := lb x) (k := i - 1) (n := 64) (by omega)
    have e2 : fa_first (lb y) 64 = p := first_eq p1 (by rw [h4 p p1, p2, p3, decide_eq_true (Nat.le_refl _)]; rfl) (fun j hj => by
      rw [h4 j (by omega)]
      cases hx : lb x j
      · rfl
      · have := ct_lt_of hj hx
        rw [decide_eq_false (by omega)]; rfl)
    refine ⟨p, ?_, p1, p2, by omega⟩
    show F_X10_nthLowest_5 (f + 1) M (zi i) y (zi i) = _
    rw [F_X10_nthLowest_5, lowest_s, cI_s, e2]
    simp (disch := omega) only [lt_z, cI_s, cJ_s, cV_s, bI_s, bI_e, bV_s, bV_e, zl, zi_neg, zi_add, zi_sub, zi_mul, ↓reduceIte, zb0, zb1, bb_and, bb_t, bb_f, zi_ltT, zi_ltF, zi_leT, zi_leF, zi_eqT, zi_eqF, zi_ixT, zi_nat, Int.toNat_natCast, Int.reduceToNat, ltNT, and_self]
  · right
    refine ⟨n - (i + 1), (i + 1, y &&& (y - 1)), by omega, ⟨by show 1 ≤ i + 1; omega, by show i + 1 ≤ n; omega, rfl, fun j hj => ?_⟩, ?_⟩
    · show lb (y &&& (y - 1)) j = (lb x j && decide (i + 1 - 1 ≤ fb_ct (lb x) j))
      rw [lb_clr y hj, h4 j hj]
      cases hx : lb x j with
      | false => rfl
      | true =>
        rw [Bool.true_and, Bool.true_and, ← Bool.decide_and]
        refine decide_eq_decide.mpr ⟨?_, ?_⟩
        · rintro ⟨q1, j', q2, q3⟩
          rw [h4 j' (by omega)] at q3
          have q4 : lb x j' = true ∧ i - 1 ≤ fb_ct (lb x) j' := by simpa using q3
          have := ct_lt_of q2 q4.1
          omega
        · intro q
          refine ⟨by omega, ?_⟩
          obtain ⟨j', p1, p2, p3⟩ := fb_ct_kth (p := lb x) (k := i - 1) (n := j) (by omega)
          exact ⟨j', p1, by rw [h4 j' (by omega), p2, p3, decide_eq_true (Nat.le_refl _)]; rfl⟩
    · show F_X10_nthLowest_5 (f + 1) M (zi n) y (zi i) = F_X10_nthLowest_5 f M (zi n) (y &&& (y - 1)) (zi ((i + 1 : Nat)))
      rw [F_X10_nthLowest_5, zc (show ((i + 1 : Nat) : Int) = i + 1 by omega)]
      simp (disch := omega) only [lt_z, cI_s, cJ_s, cV_s, bI_s, bI_e, bV_s, bV_e, zl, zi_neg, zi_add, zi_sub, zi_mul, ↓reduceIte, zb0, zb1, bb_and, bb_t, bb_f, zi_ltT, zi_ltF, zi_leT, zi_leF, zi_eqT, zi_eqF, zi_ixT, zi_nat, Int.toNat_natCast, Int.reduceToNat, ltNT, and_self]
/-- a sight that is otherwise on day t -/
def ftP (C : Cal) (S : Sta) (t : Int) (i : Nat) : Bool := !(decide (hb (cW C (gL S i)) (cD C (gL S i)) (t - gA S i) = gB S i))
def ftF (C : Cal) (S : Sta) (t : Int) : Bool := noB (ftP C S t) (gN S)
theorem fitting_s {M : PM} {C : Cal} {S : Sta} {t : Int} (hc : WFC C) (w : WFS C S) (c : CalC M C) (st : StaC M C S 16) (ht : -1000000000 ≤ t ∧ t ≤ 1000000000) : ∃ y, F_X5_fittingFrom_93 M (zi t) = rJ y M ∧ ∀ i, i < 64 → lb y i = ftF C S (t + i) := by
  have hg := w.2.2.1.1
  have a1 := st.2.1.1
  unfold F_X5_fittingFrom_93
  rw [lt_z]
  refine loopS (σ := Nat × Int64) (fun f s => F_X5_fittingFrom_93_7 f M (zi t) s.2 (zi (s.1 : Nat))) (fun o => ∃ y, o = rJ y M ∧ ∀ i, i < 64 → lb y i = ftF C S (t + i)) (fun r s => s.1 ≤ gN S ∧ r = gN S - s.1 ∧ ∀ i, i < 64 → lb s.2 i = noB (ftP C S (t + i)) s.1) ?_ (gN S) (0, -1) FUEL ⟨Nat.zero_le _, rfl, fun i hi => (lb_m1 i hi).trans rfl⟩ (FUEL_gt (by omega))
  rintro f r ⟨k, y⟩ ⟨h1, h2, h3⟩
  simp only at h1 h2 h3
  by_cases hk : k = gN S
  · left
    subst hk
    refine ⟨y, ?_, h3⟩
    show F_X5_fittingFrom_93_7 (f + 1) M (zi t) y (zi (gN S)) = _
    rw [F_X5_fittingFrom_93_7]
    simp (disch := omega) only [lt_z, cI_s, cJ_s, cV_s, bI_s, bI_e, bV_s, bV_e, zl, zi_neg, zi_add, zi_sub, zi_mul, ↓reduceIte, zb0, zb1, bb_and, bb_t, bb_f, zi_ltT, zi_ltF, zi_leT, zi_leF, zi_eqT, zi_eqF, zi_ixT, zi_nat, Int.toNat_natCast, Int.reduceToNat, ltNT, and_self, a1]
  · right
    have hkn : k < gN S := by omega
    obtain ⟨w1, w2⟩ := w.2.2.2.1 k hkn
    obtain ⟨d1, d2, d3⟩ := st.2.2.1 k hkn
    obtain ⟨x, x1, x2⟩ := heldFrom_s (M := M) (l := gL S k) (t := t - gA S k) hc c.1 w1 (by omega)
    have x3 : ∀ i, i < 64 → lb x i = hb (cW C (gL S k)) (cD C (gL S k)) (t + i - gA S k) := fun i hi => by rw [x2 i hi, show t - (gA S k : Int) + i = t + i - gA S k by omega]
    cases hq : gB S k with
    | false =>
      rw [hq] at d3
      refine ⟨gN S - (k + 1), (k + 1, y &&& (x ^^^ (-1))), by omega, ⟨by show k + 1 ≤ gN S; omega, rfl, fun i hi => ?_⟩, ?_⟩
      · show lb (y &&& (x ^^^ (-1))) i = noB (ftP C S (t + i)) (k + 1)
        rw [noB_succ, lb_and, h3 i hi, lb_not x hi, x3 i hi]
        unfold ftP
        rw [hq]
        cases hb (cW C (gL S k)) (cD C (gL S k)) (t + i - gA S k) <;> rfl
      · show F_X5_fittingFrom_93_7 (f + 1) M (zi t) y (zi k) = F_X5_fittingFrom_93_7 f M (zi t) (y &&& (x ^^^ (-1))) (zi ((k + 1 : Nat)))
        rw [F_X5_fittingFrom_93_7, zc (show ((k + 1 : Nat) : Int) = k + 1 by omega)]
        unfold F_X5_fittingFrom_93_78
        simp (disch := omega) only [lt_z, cI_s, cJ_s, cV_s, bI_s, bI_e, bV_s, bV_e, zl, zi_neg, zi_add, zi_sub, zi_mul, ↓reduceIte, zb0, zb1, bb_and, bb_t, bb_f, zi_ltT, zi_ltF, zi_leT, zi_leF, zi_eqT, zi_eqF, zi_ixT, zi_nat, Int.toNat_natCast, Int.reduceToNat, ltNT, and_self, a1, d1, d2, d3, x1]
    | true =>
      rw [hq] at d3
      refine ⟨gN S - (k + 1), (k + 1, y &&& x), by omega, ⟨by show k + 1 ≤ gN S; omega, rfl, fun i hi => ?_⟩, ?_⟩
      · show lb (y &&& x) i = noB (ftP C S (t + i)) (k + 1)
        rw [noB_succ, lb_and, h3 i hi, x3 i hi]
        unfold ftP
        rw [hq]
        cases hb (cW C (gL S k)) (cD C (gL S k)) (t + i - gA S k) <;> rfl
      · show F_X5_fittingFrom_93_7 (f + 1) M (zi t) y (zi k) = F_X5_fittingFrom_93_7 f M (zi t) (y &&& x) (zi ((k + 1 : Nat)))
        rw [F_X5_fittingFrom_93_7, zc (show ((k + 1 : Nat) : Int) = k + 1 by omega)]
        unfold F_X5_fittingFrom_93_78
        simp (disch := omega) only [lt_z, cI_s, cJ_s, cV_s, bI_s, bI_e, bV_s, bV_e, zl, zi_neg, zi_add, zi_sub, zi_mul, ↓reduceIte, zb0, zb1, bb_and, bb_t, bb_f, zi_ltT, zi_ltF, zi_leT, zi_leF, zi_eqT, zi_eqF, zi_ixT, zi_nat, Int.toNat_natCast, Int.reduceToNat, ltNT, and_self, a1, d1, d2, d3, x1]
