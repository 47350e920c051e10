/-! the wheels from day to day -/
theorem tO_step {C : Cal} (hc : WFC C) (d : Nat) : tO C ((d + 1 : Nat) : Int) = tO C (d : Int) ∨ tO C ((d + 1 : Nat) : Int) = tO C (d : Int) + 1 := by
  have h1 := ct_one (v := d) hc.2.2.2.2.1
  have e : fb_ct (fun i => decide ((cS C i : Int) < ((d + 1 : Nat) : Int))) (cK C) = fb_ct (fun i => decide ((cS C i : Int) < (d : Int)) || decide (cS C i = d)) (cK C) := fb_ct_cong (fun k _ => by
    rw [← Bool.decide_or]
    exact decide_eq_decide.mpr (by omega))
  rw [fb_ct_or (fun k _ => by simp only [decide_eq_true_eq]; omega)] at e
  unfold tO
  omega
theorem tO_grow {C : Cal} (hc : WFC C) (d : Nat) : ∀ n : Nat, tO C (d : Int) ≤ tO C ((d + n : Nat) : Int) ∧ tO C ((d + n : Nat) : Int) ≤ tO C (d : Int) + n
  | 0 => by simp only [Nat.add_zero]; omega
  | n + 1 => by
    have ih := tO_grow hc d n
    have := tO_step hc (d + n)
    rw [show d + n + 1 = d + (n + 1) by omega] at this
    omega
theorem tO_hit {C : Cal} (hc : WFC C) (d : Nat) : ∀ (n : Nat) (v : Int), tO C (d : Int) ≤ v → v ≤ tO C ((d + n : Nat) : Int) → ∃ i, i ≤ n ∧ tO C ((d + i : Nat) : Int) = v
  | 0, v, h1, h2 => ⟨0, Nat.le_refl 0, by simp only [Nat.add_zero] at h2 ⊢; omega⟩
  | n + 1, v, h1, h2 => by
    by_cases h : v ≤ tO C ((d + n : Nat) : Int)
    · obtain ⟨i, i1, i2⟩ := tO_hit hc d n v h1 h
      exact ⟨i, by omega, i2⟩
    · have := tO_step hc (d + n)
      rw [show d + n + 1 = d + (n + 1) by omega] at this
      exact ⟨n + 1, Nat.le_refl _, by omega⟩
theorem tO_far {C : Cal} (hc : WFC C) (d n : Nat) : tO C (d : Int) + n ≤ tO C ((d + n : Nat) : Int) + 3 := by
  have h2 := fb_ct_le (fun i => decide ((cS C i : Int) < ((d + n : Nat) : Int))) (cK C)
  have h3 := hc.1.2.2.2
  unfold tO
  omega
theorem hb_per {w d : Nat} {T : Nat} {t m : Int} (h : w ∣ T) : hb w d (t + T * m) = hb w d t := by
  obtain ⟨k, rfl⟩ := h
  unfold hb
  rw [Int.natCast_mul, Int.mul_assoc, Int.add_mul_emod_self_left]
theorem anL_cong {n : Nat} {w d : Nat → Nat} {L : Nat} {t t' : Int} (h : ∀ l, l < n → L.testBit l = true → hb (w l) (d l) t = hb (w l) (d l) t') : anL n w d L t = anL n w d L t' := by
  unfold anL noB
  rw [fb_ct_cong (q := fun l => L.testBit l && hb (w l) (d l) t') (fun k hk => by
    cases hb1 : L.testBit k with
    | false => rw [Bool.false_and, Bool.false_and]
    | true => rw [h k hk hb1])]
theorem fre_per {C : Cal} {L O : Nat} (t m : Int) : fre C L O (t + (tB C L O : Nat) * m) = fre C L O t := by
  unfold fre
  rw [anL_cong (t := t + (tB C L O : Nat) * m) (t' := t) (fun l hl hb1 => hb_per (Nat.dvd_trans (lcs_in (p := fun l => L.testBit l) hl hb1) (lcs_base _ _ _ _))), anL_cong (n := oN C) (t := t + (tB C L O : Nat) * m) (t' := t) (fun l hl hb1 => hb_per (lcs_in (p := fun l => O.testBit l) hl hb1))]
/-- day d is free -/
def fd (C : Cal) (L O d : Nat) : Bool := fre C L O (tO C (d : Int))
theorem fd_never {C : Cal} {L O a n : Nat} (hc : WFC C) (hn : tB C L O + 3 ≤ n) (h : ∀ i, i < n → fd C L O (a + i) = false) (k : Nat) : fd C L O k = false := by
  have hT := tB_pos hc L O
  have h1 := tO_far hc a (tB C L O + 2)
  have m1 := Int.emod_nonneg (tO C (k : Int) - tO C (a : Int)) (b := (tB C L O : Int)) (by omega)
  have m2 := Int.emod_lt_of_pos (tO C (k : Int) - tO C (a : Int)) (b := (tB C L O : Int)) (by omega)
  have m3 := Int.emod_add_mul_ediv (tO C (k : Int) - tO C (a : Int)) (tB C L O : Int)
  obtain ⟨i, i1, i2⟩ := tO_hit hc a (tB C L O + 2) (tO C (a : Int) + (tO C (k : Int) - tO C (a : Int)) % (tB C L O : Int)) (by omega) (by omega)
  have := h i (by omega)
  unfold fd at this ⊢
  rw [i2] at this
  rw [← fre_per _ ((tO C (k : Int) - tO C (a : Int)) / (tB C L O : Int))] at this
  rw [show tO C (a : Int) + (tO C (k : Int) - tO C (a : Int)) % (tB C L O : Int) + (tB C L O : Int) * ((tO C (k : Int) - tO C (a : Int)) / (tB C L O : Int)) = tO C (k : Int) by omega] at this
  exact this
theorem mx1 {M : PM} {n : Nat} (h1 : 1 ≤ n) (h2 : n ≤ 64) : F_J9_max_7cf53 M (zi n) 1 = rI (zi n) M := by
  unfold F_J9_max_7cf53
  rw [if_neg (by rw [show (1 : Int32) = zi 1 from rfl, zi_lt (by omega) (by omega)]; omega)]
theorem stretch_s {M : PM} {C : Cal} {d : Nat} (hc : WFC C) (c : CalC M C) (hd : d ≤ 999999999) : ∃ n : Nat, F_X0_stretchFrom_3 M (zi d) = rI (zi n) M ∧ 1 ≤ n ∧ n ≤ 64 ∧ d + n ≤ 1000000000 ∧ ∀ i, i < n → tO C ((d + i : Nat) : Int) = tO C (d : Int) + i := by
  have hK := hc.1.2.2.2
  have hk := c.2.2.2.1.2.1
  have hs := c.2.2.2.2
  have e0 : F_X0_stretchFrom_3 M (zi d) = F_X0_stretchFrom_3_14 FUEL M (zi d) (zi ((min (d + 63) 999999999 : Nat))) (zi 0) := by
    unfold F_X0_stretchFrom_3 F_J9_min_7cf53
    by_cases q : 999999999 < d + 63
    · rw [show min (d + 63) 999999999 = 999999999 by omega, zc (show ((999999999 : Nat) : Int) = 999999999 from rfl)]
      generalize F_X0_stretchFrom_3_14 = G
      simp (disch := omega) only [lt_z, cI_s, cJ_s, cV_s, bI_s, bI_e, bV_s, bV_e, zl, zi_neg, zi_add, zi_sub, zi_mul, ↓reduceIte, zb0, zb1, bb_and, bb_t, bb_f, zi_ltT, zi_ltF, zi_leT, zi_leF, zi_eqT, zi_eqF, zi_ixT, zi_nat, Int.toNat_natCast, Int.reduceToNat, ltNT, and_self]
    · rw [show min (d + 63) 999999999 = d + 63 by omega, zc (show ((d + 63 : Nat) : Int) = d + 64 - 1 by omega)]
      generalize F_X0_stretchFrom_3_14 = G
      simp (disch := omega) only [lt_z, cI_s, cJ_s, cV_s, bI_s, bI_e, bV_s, bV_e, zl, zi_neg, zi_add, zi_sub, zi_mul, ↓reduceIte, zb0, zb1, bb_and, bb_t, bb_f, zi_ltT, zi_ltF, zi_leT, zi_leF, zi_eqT, zi_eqF, zi_ixT, zi_nat, Int.toNat_natCast, Int.reduceToNat, ltNT, and_self]
  rw [e0]
  refine loopS (σ := Nat × Nat) (fun f s => F_X0_stretchFrom_3_14 f M (zi d) (zi (s.2 : Nat)) (zi (s.1 : Nat))) (fun o => ∃ n : Nat, o = rI (zi n) M ∧ 1 ≤ n ∧ n ≤ 64 ∧ d + n ≤ 1000000000 ∧ ∀ i, i < n → tO C ((d + i : Nat) : Int) = tO C (d : Int) + i) (fun r s => s.1 ≤ cK C ∧ r = cK C - s.1 ∧ d ≤ s.2 ∧ s.2 ≤ d + 63 ∧ s.2 ≤ 999999999 ∧ ∀ j, j < s.1 → d ≤ cS C j → s.2 ≤ cS C j) ?_ (cK C) (0, min (d + 63) 999999999) FUEL ⟨Nat.zero_le _, rfl, by show d ≤ min (d + 63) 999999999; omega, by show min (d + 63) 999999999 ≤ d + 63; omega, by show min (d + 63) 999999999 ≤ 999999999; omega, fun j hj => absurd hj (Nat.not_lt_zero j)⟩ (FUEL_gt (by omega))
  rintro f r ⟨i, z⟩ ⟨h1, h2, h3, h4, h5, h6⟩
  simp only at h1 h2 h3 h4 h5 h6
  by_cases hi : i = cK C
  · left
    subst hi
    refine ⟨z - d + 1, ?_, by omega, by omega, by omega, fun k hk2 => ?_⟩
    · show F_X0_stretchFrom_3_14 (f + 1) M (zi d) (zi z) (zi (cK C)) = _
      rw [F_X0_stretchFrom_3_14, zc (show ((z - d + 1 : Nat) : Int) = z - d + 1 by omega)]
      simp (disch := omega) only [lt_z, cI_s, cJ_s, cV_s, bI_s, bI_e, bV_s, bV_e, zl, zi_neg, zi_add, zi_sub, zi_mul, ↓reduceIte, zb0, zb1, bb_and, bb_t, bb_f, zi_ltT, zi_ltF, zi_leT, zi_leF, zi_eqT, zi_eqF, zi_ixT, zi_nat, Int.toNat_natCast, Int.reduceToNat, ltNT, and_self, hk]
    · unfold tO
      rw [fb_ct_cong (q := fun i => decide ((cS C i : Int) < (d : Int))) (fun j hj => decide_eq_decide.mpr (by
        have := h6 j hj
        omega))]
      omega
  · right
    have hs2 := hs i (by omega)
    have hS := hc.2.2.2.1 i (by omega)
    by_cases q : cS C i < d
    · refine ⟨cK C - (i + 1), (i + 1, z), by omega, ⟨by show i + 1 ≤ cK C; omega, rfl, h3, h4, h5, fun j hj hd2 => ?_⟩, ?_⟩
      · show z ≤ cS C j
        by_cases e : j = i
        · subst e; omega
        · exact h6 j (by have : j < i + 1 := hj; omega) hd2
      · show F_X0_stretchFrom_3_14 (f + 1) M (zi d) (zi z) (zi i) = F_X0_stretchFrom_3_14 f M (zi d) (zi z) (zi ((i + 1 : Nat)))
        rw [F_X0_stretchFrom_3_14, zc (show ((i + 1 : Nat) : Int) = i + 1 by omega)]
        unfold F_X0_stretchFrom_3_46
        simp (disch := omega) only [lt_z, cI_s, cJ_s, cV_s, bI_s, bI_e, bV_s, bV_e, zl, zi_neg, zi_add, zi_sub, zi_mul, ↓reduceIte, zb0, zb1, bb_and, bb_t, bb_f, zi_ltT, zi_ltF, zi_leT, zi_leF, zi_eqT, zi_eqF, zi_ixT, zi_nat, Int.toNat_natCast, Int.reduceToNat, ltNT, and_self, hk, hs2]
    · refine ⟨cK C - (i + 1), (i + 1, min z (cS C i)), by omega, ⟨by show i + 1 ≤ cK C; omega, rfl, by show d ≤ min z (cS C i); omega, by show min z (cS C i) ≤ d + 63; omega, by show min z (cS C i) ≤ 999999999; omega, fun j hj hd2 => ?_⟩, ?_⟩
      · show min z (cS C i) ≤ cS C j
        by_cases e : j = i
        · subst e; omega
        · have := h6 j (by have : j < i + 1 := hj; omega) hd2
          omega
      · show F_X0_stretchFrom_3_14 (f + 1) M (zi d) (zi z) (zi i) = F_X0_stretchFrom_3_14 f M (zi d) (zi ((min z (cS C i) : Nat))) (zi ((i + 1 : Nat)))
        rw [F_X0_stretchFrom_3_14, zc (show ((i + 1 : Nat) : Int) = i + 1 by omega)]
        unfold F_X0_stretchFrom_3_46 F_J9_min_7cf53
        by_cases q2 : cS C i < z
        · rw [show min z (cS C i) = cS C i by omega]
          simp (disch := omega) only [lt_z, cI_s, cJ_s, cV_s, bI_s, bI_e, bV_s, bV_e, zl, zi_neg, zi_add, zi_sub, zi_mul, ↓reduceIte, zb0, zb1, bb_and, bb_t, bb_f, zi_ltT, zi_ltF, zi_leT, zi_leF, zi_eqT, zi_eqF, zi_ixT, zi_nat, Int.toNat_natCast, Int.reduceToNat, ltNT, and_self, hk, hs2]
        · rw [show min z (cS C i) = z by omega]
          simp (disch := omega) only [lt_z, cI_s, cJ_s, cV_s, bI_s, bI_e, bV_s, bV_e, zl, zi_neg, zi_add, zi_sub, zi_mul, ↓reduceIte, zb0, zb1, bb_and, bb_t, bb_f, zi_ltT, zi_ltF, zi_leT, zi_leF, zi_eqT, zi_eqF, zi_ixT, zi_nat, Int.toNat_natCast, Int.reduceToNat, ltNT, and_self, hk, hs2]
