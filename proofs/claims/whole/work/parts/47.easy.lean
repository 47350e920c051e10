/-! the cases that only read: fault, told, law, slip, status, sums -/
theorem th0 {M : PM} : mI (sI M 99 0 (zi 0)) 99 0 = zi 0 := by rw [mI, rI_sI, if_pos rfl, if_pos rfl]
theorem Sam.th {M : PM} : Sam M (sI M 99 0 (zi 0)) := Sam.i 99 0 _ (by decide) Sam.rf
theorem ok3 : OK_3 Rel := ok_3 (fun M h => by obtain ⟨C, S, W, h1, h2, h3, h4, h5, h6, h7, h8, h9, h10, h11, h12⟩ := h; exact h12.1) (fun M h => h.sm Sam.th.1)
theorem toldC {M : PM} {C : Cal} {z : Int} (c : CalC M C) (m : CalM M C) (h : 0 ≤ z ∧ z ≤ 5) : F_X10_told_0 M (zi z) = rI (mA M 103 z.toNat) M := by
  obtain ⟨⟨a1, -⟩, ⟨a2, -⟩, -, ⟨a3, a4, a5, a6⟩, -⟩ := c
  obtain ⟨⟨b1, b2, b3, b4, b5, b6⟩, -⟩ := m
  unfold F_X10_told_0 F_X10_told_0_15
  have hz : z = 0 ∨ z = 1 ∨ z = 2 ∨ z = 3 ∨ z = 4 ∨ z = 5 := by omega
  rcases hz with rfl | rfl | rfl | rfl | rfl | rfl <;> simp (disch := omega) only [lt_z, cI_s, cJ_s, cV_s, bI_s, bI_e, bV_s, bV_e, zl, zi_neg, zi_add, zi_sub, zi_mul, ↓reduceIte, zb0, zb1, bb_and, bb_t, bb_f, zi_ltT, zi_ltF, zi_leT, zi_leF, zi_eqT, zi_eqF, zi_ixT, zi_nat, Int.toNat_natCast, Int.reduceToNat, ltNT, and_self, need_t, a1, a2, a3, a4, a5, a6, b1, b2, b3, b4, b5, b6]
theorem toldC_f {M : PM} {z : Int} (hr : -2147483648 ≤ z ∧ z < 2147483648) (h : ¬ (0 ≤ z ∧ z ≤ 5)) : F_X10_told_0 M (zi z) = rE nIAE (rf M 2) := by
  unfold F_X10_told_0 F_X10_told_0_14 F_X10_told_0_15
  by_cases h0 : z < 0
  · simp (disch := omega) only [lt_z, cI_s, cJ_s, cV_s, bI_s, bI_e, bV_s, bV_e, zl, zi_neg, zi_add, zi_sub, zi_mul, ↓reduceIte, zb0, zb1, bb_and, bb_t, bb_f, zi_ltT, zi_ltF, zi_leT, zi_leF, zi_eqT, zi_eqF, zi_ixT, zi_nat, Int.toNat_natCast, Int.reduceToNat, ltNT, and_self, need_f]
  · simp (disch := omega) only [lt_z, cI_s, cJ_s, cV_s, bI_s, bI_e, bV_s, bV_e, zl, zi_neg, zi_add, zi_sub, zi_mul, ↓reduceIte, zb0, zb1, bb_and, bb_t, bb_f, zi_ltT, zi_ltF, zi_leT, zi_leF, zi_eqT, zi_eqF, zi_ixT, zi_nat, Int.toNat_natCast, Int.reduceToNat, ltNT, and_self, need_f]
theorem toldM {M N : PM} {z : Int} (hN : N = sI M 99 0 (zi 0)) (h : 0 ≤ z ∧ z ≤ 5) : F_X11_told_99 M (zi z) = rI (mA M 103 z.toNat) N := by
  unfold F_X11_told_99 F_X11_told_99_20
  have h0 : mI N 99 0 = zi 0 := hN ▸ th0
  rw [show (0 : Int32) = zi 0 from rfl, ← hN]
  simp (disch := omega) only [lt_z, cI_s, cJ_s, cV_s, bI_s, bI_e, bV_s, bV_e, zl, zi_neg, zi_add, zi_sub, zi_mul, ↓reduceIte, zb0, zb1, bb_and, bb_t, bb_f, zi_ltT, zi_ltF, zi_leT, zi_leF, zi_eqT, zi_eqF, zi_ixT, zi_nat, Int.toNat_natCast, Int.reduceToNat, ltNT, and_self, in_t, bad_f h0]
  rw [hN]
  rfl
theorem toldM_f {M : PM} {z : Int} (hr : -2147483648 ≤ z ∧ z < 2147483648) (h : ¬ (0 ≤ z ∧ z ≤ 5)) : F_X11_told_99 M (zi z) = rI (zi 0) (rm M (zi 1) 2) := by
  unfold F_X11_told_99 F_X11_told_99_20
  rw [show (0 : Int32) = zi 0 from rfl]
  simp (disch := omega) only [lt_z, cI_s, cJ_s, cV_s, bI_s, bI_e, bV_s, bV_e, zl, zi_neg, zi_add, zi_sub, zi_mul, ↓reduceIte, zb0, zb1, bb_and, bb_t, bb_f, zi_ltT, zi_ltF, zi_leT, zi_leF, zi_eqT, zi_eqF, zi_ixT, zi_nat, Int.toNat_natCast, Int.reduceToNat, ltNT, and_self, in_f, bad_t th0]
  rfl
theorem ok4 : OK_4 Rel := fun M a1 hR => by
  obtain ⟨z, rfl, hz⟩ := zi_rng a1
  have hR2 := hR
  obtain ⟨C, S, W, h1, h2, h3, h4, h5, h6, h7, h8, h9, h10, h11, h12⟩ := hR2
  unfold c_4 w_told
  by_cases h : 0 ≤ z ∧ z ≤ 5
  · refine okq1 hR (toldC h2 h3 h) Sam0.rf (fun M' hs => ⟨_, ?_, th0, Sam.th⟩)
    rw [toldM rfl h, s0A hs 103 (by decide)]
  · exact okr1 2 hR (by decide) (toldC_f hz h) (toldM_f hz h)
