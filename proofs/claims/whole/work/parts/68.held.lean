/-! 64 days at once -/
theorem hb_shift {w d i : Nat} {t : Int} (hw : 0 < w) (hd : d < w) : (decide ((((d : Int) - t) % (w : Int)).toNat ≤ i) && decide ((i - (((d : Int) - t) % (w : Int)).toNat) % w = 0)) = hb w d (t + i) := by
  have h1 := Int.emod_nonneg ((d : Int) - t) (b := (w : Int)) (by omega)
  have h2 := Int.emod_lt_of_pos ((d : Int) - t) (b := (w : Int)) (by omega)
  have hdm : (d : Int) % (w : Int) = d := Int.emod_eq_of_lt (by omega) (by omega)
  have k1 : (t + i) % (w : Int) = (d : Int) ↔ (i : Int) % (w : Int) = ((d : Int) - t) % (w : Int) := by
    rw [Int.emod_eq_emod_iff_emod_sub_eq_zero]
    have := Int.emod_eq_emod_iff_emod_sub_eq_zero (m := t + (i : Int)) (n := (w : Int)) (k := (d : Int))
    rw [hdm] at this
    rw [this, show t + (i : Int) - d = (i : Int) - (d - t) by omega]
  obtain ⟨f, hf⟩ : ∃ f : Nat, ((d : Int) - t) % (w : Int) = f := ⟨(((d : Int) - t) % (w : Int)).toNat, by omega⟩
  unfold hb
  rw [hf] at h1 h2 k1 ⊢
  rw [Int.toNat_natCast, ← Bool.decide_and]
  refine decide_eq_decide.mpr ?_
  rw [k1, show (i : Int) % (w : Int) = ((i % w : Nat) : Int) from (Int.natCast_emod i w).symm]
  have hfw : f % w = f := Nat.mod_eq_of_lt (by omega)
  constructor
  · rintro ⟨q1, q2⟩
    have e : i = f + (i - f) := by omega
    have : i % w = f := by
      conv => lhs; rw [e]
      rw [Nat.add_mod, q2, Nat.add_zero, hfw, hfw]
    omega
  · intro q
    have q3 : i % w = f := by omega
    have hle : f ≤ i := by rw [← q3]; exact Nat.mod_le _ _
    refine ⟨hle, ?_⟩
    have := Nat.div_add_mod i w
    rw [q3] at this
    have e : i - f = w * (i / w) := by omega
    rw [e, Nat.mul_mod_right]
theorem daysLeaving_s {M : PM} {w d : Nat} {x : Int64} {t : Int} (hx : EvB x w) (hw : 0 < w ∧ w ≤ 99) (hd : d < w) (ht : -2000000000 ≤ t ∧ t ≤ 2000000000) : ∃ y, F_X10_daysLeaving M (zi d) (zi w) x (zi t) = rJ y M ∧ ∀ i, i < 64 → lb y i = hb w d (t + i) := by
  have h1 := Int.emod_nonneg ((d : Int) - t) (b := (w : Int)) (by omega)
  have h2 := Int.emod_lt_of_pos ((d : Int) - t) (b := (w : Int)) (by omega)
  have hs := fun i => hb_shift (i := i) (t := t) hw.1 hd
  obtain ⟨f, hf⟩ : ∃ f : Nat, ((d : Int) - t) % (w : Int) = f := ⟨(((d : Int) - t) % (w : Int)).toNat, by omega⟩
  have hl := left_s (M := M) (a := (d : Int) - t) (b := (w : Int)) (by omega) (by omega)
  unfold F_X10_daysLeaving
  rw [zi_sub, hl, cI_s]
  simp only [hf, Int.toNat_natCast] at hs h1 h2 ⊢
  by_cases hq : f < 64
  · refine ⟨x <<< ((zi f).toInt64 &&& 63), ?_, fun i hi => ?_⟩
    · simp (disch := omega) only [lt_z, cI_s, cJ_s, cV_s, bI_s, bI_e, bV_s, bV_e, zl, zi_neg, zi_add, zi_sub, zi_mul, ↓reduceIte, zb0, zb1, bb_and, bb_t, bb_f, zi_ltT, zi_ltF, zi_leT, zi_leF, zi_eqT, zi_eqF, zi_ixT, zi_nat, Int.toNat_natCast, Int.reduceToNat, ltNT, and_self]
    · rw [lb_shl x hq hi, ← hs i]
      by_cases h3 : f ≤ i
      · rw [hx (i - f) (by omega)]
      · rw [decide_eq_false h3, Bool.false_and, Bool.false_and]
  · refine ⟨0, ?_, fun i hi => ?_⟩
    · simp (disch := omega) only [lt_z, cI_s, cJ_s, cV_s, bI_s, bI_e, bV_s, bV_e, zl, zi_neg, zi_add, zi_sub, zi_mul, ↓reduceIte, zb0, zb1, bb_and, bb_t, bb_f, zi_ltT, zi_ltF, zi_leT, zi_leF, zi_eqT, zi_eqF, zi_ixT, zi_nat, Int.toNat_natCast, Int.reduceToNat, ltNT, and_self]
    · rw [lb_0, ← hs i, decide_eq_false (by omega), Bool.false_and]
theorem heldFrom_s {M : PM} {C : Cal} {l : Nat} {t : Int} (hc : WFC C) (c : LawC M 4 (cN C) (cW C) (cD C)) (hl : l < cN C) (ht : -2000000000 ≤ t ∧ t ≤ 2000000000) : ∃ y, F_X2_heldFrom_4 M (zi l) (zi t) = rJ y M ∧ ∀ i, i < 64 → lb y i = hb (cW C l) (cD C l) (t + i) := by
  have hn := hc.1.1
  have hw := hc.2.1 l hl
  obtain ⟨a1, a2, a3, a4⟩ := c
  have a2l := a2 l hl
  have a3l := a3 l hl
  obtain ⟨y, h1, h2⟩ := daysLeaving_s (M := M) (a4 l hl) (d := cD C l) (t := t) (by omega) (by omega) ht
  refine ⟨y, ?_, h2⟩
  unfold F_X2_heldFrom_4
  simp (disch := omega) only [lt_z, cI_s, cJ_s, cV_s, bI_s, bI_e, bV_s, bV_e, zl, zi_neg, zi_add, zi_sub, zi_mul, ↓reduceIte, zb0, zb1, bb_and, bb_t, bb_f, zi_ltT, zi_ltF, zi_leT, zi_leF, zi_eqT, zi_eqF, zi_ixT, zi_nat, Int.toNat_natCast, Int.reduceToNat, ltNT, and_self, isLawC_t a1 hn, a2l, a3l]
  exact (congrArg (fun z => cJ z fun v336 M335 => some (.inl (some (.long v336)), M335)) h1).trans rfl
theorem heldFrom9_s {M : PM} {C : Cal} {l : Nat} {t : Int} (hc : WFC C) (c : LawC M 9 (oN C) (oW C) (oD C)) (hl : l < oN C) (ht : -2000000000 ≤ t ∧ t ≤ 2000000000) : ∃ y, F_X2_heldFrom_9 M (zi l) (zi t) = rJ y M ∧ ∀ i, i < 64 → lb y i = hb (oW C l) (oD C l) (t + i) := by
  have hn := hc.1.2.1
  have hw := hc.2.2.1 l hl
  obtain ⟨a1, a2, a3, a4⟩ := c
  have a2l := a2 l hl
  have a3l := a3 l hl
  obtain ⟨y, h1, h2⟩ := daysLeaving_s (M := M) (a4 l hl) (d := oD C l) (t := t) (by omega) (by omega) ht
  refine ⟨y, ?_, h2⟩
  unfold F_X2_heldFrom_9 F_X2_isLaw_9
  simp (disch := omega) only [lt_z, cI_s, cJ_s, cV_s, bI_s, bI_e, bV_s, bV_e, zl, zi_neg, zi_add, zi_sub, zi_mul, ↓reduceIte, zb0, zb1, bb_and, bb_t, bb_f, zi_ltT, zi_ltF, zi_leT, zi_leF, zi_eqT, zi_eqF, zi_ixT, zi_nat, Int.toNat_natCast, Int.reduceToNat, ltNT, and_self, a1, a2l, a3l]
  exact (congrArg (fun z => cJ z fun v336 M335 => some (.inl (some (.long v336)), M335)) h1).trans rfl
theorem noB_succ (p : Nat → Bool) (k : Nat) : noB p (k + 1) = (noB p k && !p k) := by
  unfold noB
  rw [fb_ct_succ]
  cases hp : p k
  · rw [if_neg (by decide : ¬ false = true), Nat.add_zero]
    simp
  · rw [if_pos rfl]
    simp
/-- one of some laws holds -/
def anL (n : Nat) (w d : Nat → Nat) (L : Nat) (t : Int) : Bool := !noB (fun l => L.testBit l && hb (w l) (d l) t) n
theorem anL_succ (n : Nat) (w d : Nat → Nat) (L : Nat) (t : Int) : anL (n + 1) w d L t = (anL n w d L t || (L.testBit n && hb (w n) (d n) t)) := by
  unfold anL
  rw [noB_succ]
  cases noB (fun l => L.testBit l && hb (w l) (d l) t) n <;> cases (L.testBit n && hb (w n) (d n) t) <;> rfl
theorem someHeld_s {M : PM} {C : Cal} {L : Nat} {t : Int} (hc : WFC C) (c : LawC M 4 (cN C) (cW C) (cD C)) (hL : L < 4096) (ht : -2000000000 ≤ t ∧ t ≤ 2000000000) : ∃ y, F_X2_someHeldFrom_4 M (zi L) (zi t) = rJ y M ∧ ∀ i, i < 64 → lb y i = anL (cN C) (cW C) (cD C) L (t + i) := by
  have hn := hc.1.1
  obtain ⟨a1, a2, a3, a4⟩ := c
  unfold F_X2_someHeldFrom_4
  rw [lt_z]
  refine loopS (σ := Nat × Int64) (fun f s => F_X2_someHeldFrom_4_5 f M (zi L) (zi t) s.2 (zi (s.1 : Nat))) (fun o => ∃ y, o = rJ y M ∧ ∀ i, i < 64 → lb y i = anL (cN C) (cW C) (cD C) L (t + i)) (fun r s => s.1 ≤ cN C ∧ r = cN C - s.1 ∧ ∀ i, i < 64 → lb s.2 i = anL s.1 (cW C) (cD C) L (t + i)) ?_ (cN C) (0, 0) FUEL ⟨Nat.zero_le _, rfl, fun i _ => lb_0 i⟩ (FUEL_gt (by omega))
  rintro f r ⟨l, y⟩ ⟨h1, h2, h3⟩
  simp only at h1 h2 h3
  show (∃ z, F_X2_someHeldFrom_4_5 (f + 1) M (zi L) (zi t) y (zi l) = rJ z M ∧ _) ∨ _
  by_cases hl : l = cN C
  · left
    subst hl
    refine ⟨y, ?_, h3⟩
    rw [F_X2_someHeldFrom_4_5]
    simp (disch := omega) only [lt_z, cI_s, cJ_s, cV_s, bI_s, bI_e, bV_s, bV_e, zl, zi_neg, zi_add, zi_sub, zi_mul, ↓reduceIte, zb0, zb1, bb_and, bb_t, bb_f, zi_ltT, zi_ltF, zi_leT, zi_leF, zi_eqT, zi_eqF, zi_ixT, zi_nat, Int.toNat_natCast, Int.reduceToNat, ltNT, and_self, a1]
  · right
    have hln : l < cN C := by omega
    have hw := hc.2.1 l hln
    have a2l := a2 l hln
    have a3l := a3 l hln
    have g1 := Int.emod_nonneg ((cD C l : Int) - t) (b := (cW C l : Int)) (by omega)
    have g2 := Int.emod_lt_of_pos ((cD C l : Int) - t) (b := (cW C l : Int)) (by omega)
    have hs := fun i => hb_shift (i := i) (t := t) (show 0 < cW C l by omega) hw.2
    have hlf := left_s (M := M) (a := (cD C l : Int) - t) (b := (cW C l : Int)) (by omega) (by omega)
    obtain ⟨k, hk⟩ : ∃ k : Nat, ((cD C l : Int) - t) % (cW C l : Int) = k := ⟨(((cD C l : Int) - t) % (cW C l : Int)).toNat, by omega⟩
    rw [hk] at hlf
    simp only [hk, Int.toNat_natCast] at hs g1 g2
    cases hb1 : L.testBit l with
    | false =>
      refine ⟨cN C - (l + 1), (l + 1, y), by omega, ⟨by show l + 1 ≤ cN C; omega, rfl, fun i hi => ?_⟩, ?_⟩
      · show lb y i = anL (l + 1) (cW C) (cD C) L (t + i)
        rw [anL_succ, hb1, Bool.false_and, Bool.or_false]
        exact h3 i hi
      · show F_X2_someHeldFrom_4_5 (f + 1) M (zi L) (zi t) y (zi l) = F_X2_someHeldFrom_4_5 f M (zi L) (zi t) y (zi ((l + 1 : Nat)))
        rw [F_X2_someHeldFrom_4_5, zc (show ((l + 1 : Nat) : Int) = l + 1 by omega)]
        unfold F_X2_someHeldFrom_4_53
        simp (disch := omega) only [lt_z, cI_s, cJ_s, cV_s, bI_s, bI_e, bV_s, bV_e, zl, zi_neg, zi_add, zi_sub, zi_mul, ↓reduceIte, zb0, zb1, bb_and, bb_t, bb_f, zi_ltT, zi_ltF, zi_leT, zi_leF, zi_eqT, zi_eqF, zi_ixT, zi_nat, Int.toNat_natCast, Int.reduceToNat, ltNT, and_self, a1, isIn_s, hb1]
    | true =>
      refine ⟨cN C - (l + 1), (l + 1, y ||| (mB M 7 l <<< ((zi k).toInt64 &&& 63))), by omega, ⟨by show l + 1 ≤ cN C; omega, rfl, fun i hi => ?_⟩, ?_⟩
      · show lb (y ||| (mB M 7 l <<< ((zi k).toInt64 &&& 63))) i = anL (l + 1) (cW C) (cD C) L (t + i)
        rw [anL_succ, hb1, Bool.true_and, lb_or, h3 i hi, lb_shl _ (by omega) hi, ← hs i]
        by_cases q : k ≤ i
        · rw [a4 l hln (i - k) (by omega)]
        · rw [decide_eq_false q, Bool.false_and, Bool.false_and]
      · show F_X2_someHeldFrom_4_5 (f + 1) M (zi L) (zi t) y (zi l) = F_X2_someHeldFrom_4_5 f M (zi L) (zi t) (y ||| (mB M 7 l <<< ((zi k).toInt64 &&& 63))) (zi ((l + 1 : Nat)))
        rw [F_X2_someHeldFrom_4_5, zc (show ((l + 1 : Nat) : Int) = l + 1 by omega)]
        unfold F_X2_someHeldFrom_4_53
        simp (disch := omega) only [lt_z, cI_s, cJ_s, cV_s, bI_s, bI_e, bV_s, bV_e, zl, zi_neg, zi_add, zi_sub, zi_mul, ↓reduceIte, zb0, zb1, bb_and, bb_t, bb_f, zi_ltT, zi_ltF, zi_leT, zi_leF, zi_eqT, zi_eqF, zi_ixT, zi_nat, Int.toNat_natCast, Int.reduceToNat, ltNT, and_self, a1, isIn_s, hb1, a2l, a3l, hlf]
theorem someHeld9_s {M : PM} {C : Cal} {L : Nat} {t : Int} (hc : WFC C) (c : LawC M 9 (oN C) (oW C) (oD C)) (hL : L < 4096) (ht : -2000000000 ≤ t ∧ t ≤ 2000000000) : ∃ y, F_X2_someHeldFrom_9 M (zi L) (zi t) = rJ y M ∧ ∀ i, i < 64 → lb y i = anL (oN C) (oW C) (oD C) L (t + i) := by
  have hn := hc.1.2.1
  obtain ⟨a1, a2, a3, a4⟩ := c
  unfold F_X2_someHeldFrom_9
  rw [lt_z]
  refine loopS (σ := Nat × Int64) (fun f s => F_X2_someHeldFrom_9_5 f M (zi L) (zi t) s.2 (zi (s.1 : Nat))) (fun o => ∃ y, o = rJ y M ∧ ∀ i, i < 64 → lb y i = anL (oN C) (oW C) (oD C) L (t + i)) (fun r s => s.1 ≤ oN C ∧ r = oN C - s.1 ∧ ∀ i, i < 64 → lb s.2 i = anL s.1 (oW C) (oD C) L (t + i)) ?_ (oN C) (0, 0) FUEL ⟨Nat.zero_le _, rfl, fun i _ => lb_0 i⟩ (FUEL_gt (by omega))
  rintro f r ⟨l, y⟩ ⟨h1, h2, h3⟩
  simp only at h1 h2 h3
  show (∃ z, F_X2_someHeldFrom_9_5 (f + 1) M (zi L) (zi t) y (zi l) = rJ z M ∧ _) ∨ _
  by_cases hl : l = oN C
  · left
    subst hl
    refine ⟨y, ?_, h3⟩
    rw [F_X2_someHeldFrom_9_5]
    simp (disch := omega) only [lt_z, cI_s, cJ_s, cV_s, bI_s, bI_e, bV_s, bV_e, zl, zi_neg, zi_add, zi_sub, zi_mul, ↓reduceIte, zb0, zb1, bb_and, bb_t, bb_f, zi_ltT, zi_ltF, zi_leT, zi_leF, zi_eqT, zi_eqF, zi_ixT, zi_nat, Int.toNat_natCast, Int.reduceToNat, ltNT, and_self, a1]
  · right
    have hln : l < oN C := by omega
    have hw := hc.2.2.1 l hln
    have a2l := a2 l hln
    have a3l := a3 l hln
    have g1 := Int.emod_nonneg ((oD C l : Int) - t) (b := (oW C l : Int)) (by omega)
    have g2 := Int.emod_lt_of_pos ((oD C l : Int) - t) (b := (oW C l : Int)) (by omega)
    have hs := fun i => hb_shift (i := i) (t := t) (show 0 < oW C l by omega) hw.2
    have hlf := left_s (M := M) (a := (oD C l : Int) - t) (b := (oW C l : Int)) (by omega) (by omega)
    obtain ⟨k, hk⟩ : ∃ k : Nat, ((oD C l : Int) - t) % (oW C l : Int) = k := ⟨(((oD C l : Int) - t) % (oW C l : Int)).toNat, by omega⟩
    rw [hk] at hlf
    simp only [hk, Int.toNat_natCast] at hs g1 g2
    cases hb1 : L.testBit l with
    | false =>
      refine ⟨oN C - (l + 1), (l + 1, y), by omega, ⟨by show l + 1 ≤ oN C; omega, rfl, fun i hi => ?_⟩, ?_⟩
      · show lb y i = anL (l + 1) (oW C) (oD C) L (t + i)
        rw [anL_succ, hb1, Bool.false_and, Bool.or_false]
        exact h3 i hi
      · show F_X2_someHeldFrom_9_5 (f + 1) M (zi L) (zi t) y (zi l) = F_X2_someHeldFrom_9_5 f M (zi L) (zi t) y (zi ((l + 1 : Nat)))
        rw [F_X2_someHeldFrom_9_5, zc (show ((l + 1 : Nat) : Int) = l + 1 by omega)]
        unfold F_X2_someHeldFrom_9_53
        simp (disch := omega) only [lt_z, cI_s, cJ_s, cV_s, bI_s, bI_e, bV_s, bV_e, zl, zi_neg, zi_add, zi_sub, zi_mul, ↓reduceIte, zb0, zb1, bb_and, bb_t, bb_f, zi_ltT, zi_ltF, zi_leT, zi_leF, zi_eqT, zi_eqF, zi_ixT, zi_nat, Int.toNat_natCast, Int.reduceToNat, ltNT, and_self, a1, isIn_s, hb1]
    | true =>
      refine ⟨oN C - (l + 1), (l + 1, y ||| (mB M 12 l <<< ((zi k).toInt64 &&& 63))), by omega, ⟨by show l + 1 ≤ oN C; omega, rfl, fun i hi => ?_⟩, ?_⟩
      · show lb (y ||| (mB M 12 l <<< ((zi k).toInt64 &&& 63))) i = anL (l + 1) (oW C) (oD C) L (t + i)
        rw [anL_succ, hb1, Bool.true_and, lb_or, h3 i hi, lb_shl _ (by omega) hi, ← hs i]
        by_cases q : k ≤ i
        · rw [a4 l hln (i - k) (by omega)]
        · rw [decide_eq_false q, Bool.false_and, Bool.false_and]
      · show F_X2_someHeldFrom_9_5 (f + 1) M (zi L) (zi t) y (zi l) = F_X2_someHeldFrom_9_5 f M (zi L) (zi t) (y ||| (mB M 12 l <<< ((zi k).toInt64 &&& 63))) (zi ((l + 1 : Nat)))
        rw [F_X2_someHeldFrom_9_5, zc (show ((l + 1 : Nat) : Int) = l + 1 by omega)]
        unfold F_X2_someHeldFrom_9_53
        simp (disch := omega) only [lt_z, cI_s, cJ_s, cV_s, bI_s, bI_e, bV_s, bV_e, zl, zi_neg, zi_add, zi_sub, zi_mul, ↓reduceIte, zb0, zb1, bb_and, bb_t, bb_f, zi_ltT, zi_ltF, zi_leT, zi_leF, zi_eqT, zi_eqF, zi_ixT, zi_nat, Int.toNat_natCast, Int.reduceToNat, ltNT, and_self, a1, isIn_s, hb1, a2l, a3l, hlf]
theorem low_s {M : PM} {b : Int} (hb : -2147483648 ≤ b ∧ b < 2147483648) : ∃ y, F_X10_low M (zi b) = rJ y M ∧ ∀ i, i < 64 → lb y i = decide ((i : Int) < b) := by
  unfold F_X10_low
  by_cases h1 : b < 64
  · by_cases h2 : 1 ≤ b
    · obtain ⟨k, rfl, hk⟩ := natOf (z := b) (n := 64) ⟨by omega, by omega⟩
      refine ⟨lN (2 ^ k - 1), ?_, fun i hi => ?_⟩
      · have e : (1 : Int64) <<< ((zi k).toInt64 &&& 63) = lN (1 * 2 ^ k) := wb_shl 1 hk
        rw [e, Nat.one_mul, show (1 : Int64) = lN 1 from rfl, lNsub (Nat.two_pow_pos k)]
        simp (disch := omega) only [lt_z, cI_s, cJ_s, cV_s, bI_s, bI_e, bV_s, bV_e, zl, zi_neg, zi_add, zi_sub, zi_mul, ↓reduceIte, zb0, zb1, bb_and, bb_t, bb_f, zi_ltT, zi_ltF, zi_leT, zi_leF, zi_eqT, zi_eqF, zi_ixT, zi_nat, Int.toNat_natCast, Int.reduceToNat, ltNT, and_self]
      · rw [lb_lN _ hi, Nat.testBit_two_pow_sub_one]
        exact decide_eq_decide.mpr (by omega)
    · refine ⟨0, ?_, fun i hi => ?_⟩
      · simp (disch := omega) only [lt_z, cI_s, cJ_s, cV_s, bI_s, bI_e, bV_s, bV_e, zl, zi_neg, zi_add, zi_sub, zi_mul, ↓reduceIte, zb0, zb1, bb_and, bb_t, bb_f, zi_ltT, zi_ltF, zi_leT, zi_leF, zi_eqT, zi_eqF, zi_ixT, zi_nat, Int.toNat_natCast, Int.reduceToNat, ltNT, and_self]
      · rw [lb_0, decide_eq_false (by omega)]
  · refine ⟨-1, ?_, fun i hi => ?_⟩
    · simp (disch := omega) only [lt_z, cI_s, cJ_s, cV_s, bI_s, bI_e, bV_s, bV_e, zl, zi_neg, zi_add, zi_sub, zi_mul, ↓reduceIte, zb0, zb1, bb_and, bb_t, bb_f, zi_ltT, zi_ltF, zi_leT, zi_leF, zi_eqT, zi_eqF, zi_ixT, zi_nat, Int.toNat_natCast, Int.reduceToNat, ltNT, and_self]
    · rw [lb_m1 i hi, decide_eq_true (by omega)]
