/-! refusals -/
def rf (M : PM) (k : Nat) : PM := sI M 0 (14 + k) (mI M 0 (14 + k) + zi 1)
def rm (M : PM) (w : Int32) (k : Nat) : PM := sA (sI (sI M 99 0 (zi 0)) 99 0 w) 101 k (mA M 101 k + zi 1)
theorem need_t {M : PM} : F_X10_need_0 M (zi 1) = rV M := rfl
theorem need_f {M : PM} : F_X10_need_0 M (zi 0) = rE nIAE (rf M 2) := rfl
theorem needEl_t {M : PM} : F_X10_needElement_0 M (zi 1) = rV M := rfl
theorem needEl_f {M : PM} : F_X10_needElement_0 M (zi 0) = rE nNSE (rf M 1) := rfl
theorem needDay_t {M : PM} {d : Int} (h : 0 ≤ d ∧ d ≤ 999999999) : F_X10_needDay_0 M (zi d) = rV M := by
  unfold F_X10_needDay_0
  simp (disch := omega) only [lt_z, cI_s, cJ_s, cV_s, bI_s, bI_e, bV_s, bV_e, zl, zi_neg, zi_add, zi_sub, zi_mul, ↓reduceIte, zb0, zb1, bb_and, bb_t, bb_f, zi_ltT, zi_ltF, zi_leT, zi_leF, zi_eqT, zi_eqF]
theorem needDay_f {M : PM} {d : Int} (hr : -2147483648 ≤ d ∧ d < 2147483648) (h : ¬ (0 ≤ d ∧ d ≤ 999999999)) : F_X10_needDay_0 M (zi d) = rE nIOB (rf M 0) := by
  unfold F_X10_needDay_0 F_X10_needDay_0_11
  by_cases h0 : d < 0
  · simp (disch := omega) only [lt_z, cI_s, cJ_s, cV_s, bI_s, bI_e, bV_s, bV_e, zl, zi_neg, zi_add, zi_sub, zi_mul, ↓reduceIte, zb0, zb1, bb_and, bb_t, bb_f, zi_ltT, zi_ltF, zi_leT, zi_leF, zi_eqT, zi_eqF]; rfl
  · simp (disch := omega) only [lt_z, cI_s, cJ_s, cV_s, bI_s, bI_e, bV_s, bV_e, zl, zi_neg, zi_add, zi_sub, zi_mul, ↓reduceIte, zb0, zb1, bb_and, bb_t, bb_f, zi_ltT, zi_ltF, zi_leT, zi_leF, zi_eqT, zi_eqF]; rfl
theorem needLaw_t {M : PM} {n : Nat} {l : Int} (hn : mI M 4 4 = zi n) (hb : n ≤ 12) (h : 0 ≤ l ∧ l < n) : F_X10_needLaw_0 M (zi l) = rV M := by
  unfold F_X10_needLaw_0
  simp (disch := omega) only [lt_z, cI_s, cJ_s, cV_s, bI_s, bI_e, bV_s, bV_e, zl, zi_neg, zi_add, zi_sub, zi_mul, ↓reduceIte, zb0, zb1, bb_and, bb_t, bb_f, zi_ltT, zi_ltF, zi_leT, zi_leF, zi_eqT, zi_eqF, hn, needEl_t]
theorem needLaw_f {M : PM} {n : Nat} {l : Int} (hn : mI M 4 4 = zi n) (hb : n ≤ 12) (hr : -2147483648 ≤ l ∧ l < 2147483648) (h : ¬ (0 ≤ l ∧ l < n)) : F_X10_needLaw_0 M (zi l) = rE nNSE (rf M 1) := by
  unfold F_X10_needLaw_0
  by_cases h0 : l < 0
  · simp (disch := omega) only [lt_z, cI_s, cJ_s, cV_s, bI_s, bI_e, bV_s, bV_e, zl, zi_neg, zi_add, zi_sub, zi_mul, ↓reduceIte, zb0, zb1, bb_and, bb_t, bb_f, zi_ltT, zi_ltF, zi_leT, zi_leF, zi_eqT, zi_eqF, hn, needEl_f]
  · simp (disch := omega) only [lt_z, cI_s, cJ_s, cV_s, bI_s, bI_e, bV_s, bV_e, zl, zi_neg, zi_add, zi_sub, zi_mul, ↓reduceIte, zb0, zb1, bb_and, bb_t, bb_f, zi_ltT, zi_ltF, zi_leT, zi_leF, zi_eqT, zi_eqF, hn, needEl_f]
theorem needHouse_t {M : PM} {n : Nat} {l : Int} (hn : mI M 3 4 = zi n) (hb : n ≤ 12) (h : 0 ≤ l ∧ l < n) : F_X10_needHouse_0 M (zi l) = rV M := by
  unfold F_X10_needHouse_0
  simp (disch := omega) only [lt_z, cI_s, cJ_s, cV_s, bI_s, bI_e, bV_s, bV_e, zl, zi_neg, zi_add, zi_sub, zi_mul, ↓reduceIte, zb0, zb1, bb_and, bb_t, bb_f, zi_ltT, zi_ltF, zi_leT, zi_leF, zi_eqT, zi_eqF, hn, needEl_t]
theorem needHouse_f {M : PM} {n : Nat} {l : Int} (hn : mI M 3 4 = zi n) (hb : n ≤ 12) (hr : -2147483648 ≤ l ∧ l < 2147483648) (h : ¬ (0 ≤ l ∧ l < n)) : F_X10_needHouse_0 M (zi l) = rE nNSE (rf M 1) := by
  unfold F_X10_needHouse_0
  by_cases h0 : l < 0
  · simp (disch := omega) only [lt_z, cI_s, cJ_s, cV_s, bI_s, bI_e, bV_s, bV_e, zl, zi_neg, zi_add, zi_sub, zi_mul, ↓reduceIte, zb0, zb1, bb_and, bb_t, bb_f, zi_ltT, zi_ltF, zi_leT, zi_leF, zi_eqT, zi_eqF, hn, needEl_f]
  · simp (disch := omega) only [lt_z, cI_s, cJ_s, cV_s, bI_s, bI_e, bV_s, bV_e, zl, zi_neg, zi_add, zi_sub, zi_mul, ↓reduceIte, zb0, zb1, bb_and, bb_t, bb_f, zi_ltT, zi_ltF, zi_leT, zi_leF, zi_eqT, zi_eqF, hn, needEl_f]
theorem needWork_t {M : PM} {n : Nat} {l : Int} (hn : mI M 16 12 = zi n) (hb : n ≤ 12) (h : 0 ≤ l ∧ l < n) : F_X10_needWork_0 M (zi l) = rV M := by
  unfold F_X10_needWork_0
  simp (disch := omega) only [lt_z, cI_s, cJ_s, cV_s, bI_s, bI_e, bV_s, bV_e, zl, zi_neg, zi_add, zi_sub, zi_mul, ↓reduceIte, zb0, zb1, bb_and, bb_t, bb_f, zi_ltT, zi_ltF, zi_leT, zi_leF, zi_eqT, zi_eqF, hn, needEl_t]
theorem needWork_f {M : PM} {n : Nat} {l : Int} (hn : mI M 16 12 = zi n) (hb : n ≤ 12) (hr : -2147483648 ≤ l ∧ l < 2147483648) (h : ¬ (0 ≤ l ∧ l < n)) : F_X10_needWork_0 M (zi l) = rE nNSE (rf M 1) := by
  unfold F_X10_needWork_0
  by_cases h0 : l < 0
  · simp (disch := omega) only [lt_z, cI_s, cJ_s, cV_s, bI_s, bI_e, bV_s, bV_e, zl, zi_neg, zi_add, zi_sub, zi_mul, ↓reduceIte, zb0, zb1, bb_and, bb_t, bb_f, zi_ltT, zi_ltF, zi_leT, zi_leF, zi_eqT, zi_eqF, hn, needEl_f]
  · simp (disch := omega) only [lt_z, cI_s, cJ_s, cV_s, bI_s, bI_e, bV_s, bV_e, zl, zi_neg, zi_add, zi_sub, zi_mul, ↓reduceIte, zb0, zb1, bb_and, bb_t, bb_f, zi_ltT, zi_ltF, zi_leT, zi_leF, zi_eqT, zi_eqF, hn, needEl_f]
theorem needEither_t {M : PM} {l : Int} (h : l = 0 ∨ l = 1) : F_X10_needEither_0 M (zi l) = rV M := by
  rcases h with rfl | rfl <;> rfl
theorem needEither_f {M : PM} {l : Int} (hr : -2147483648 ≤ l ∧ l < 2147483648) (h : ¬ (l = 0 ∨ l = 1)) : F_X10_needEither_0 M (zi l) = rE nIAE (rf M 2) := by
  unfold F_X10_needEither_0
  simp (disch := omega) only [lt_z, cI_s, cJ_s, cV_s, bI_s, bI_e, bV_s, bV_e, zl, zi_neg, zi_add, zi_sub, zi_mul, ↓reduceIte, zb0, zb1, bb_and, bb_t, bb_f, zi_ltT, zi_ltF, zi_leT, zi_leF, zi_eqT, zi_eqF, need_f]
/-! the reference's -/
theorem in_t {M : PM} {a l h : Int} (hi : l ≤ a ∧ a ≤ h) (hr : -2147483648 ≤ l ∧ h < 2147483648) : F_X11_in M (zi a) (zi l) (zi h) = rI (zi 1) M := by
  unfold F_X11_in
  simp (disch := omega) only [lt_z, cI_s, cJ_s, cV_s, bI_s, bI_e, bV_s, bV_e, zl, zi_neg, zi_add, zi_sub, zi_mul, ↓reduceIte, zb0, zb1, bb_and, bb_t, bb_f, zi_ltT, zi_ltF, zi_leT, zi_leF, zi_eqT, zi_eqF]
theorem in_f {M : PM} {a l h : Int} (hi : ¬ (l ≤ a ∧ a ≤ h)) (ha : -2147483648 ≤ a ∧ a < 2147483648) (hr : (-2147483648 ≤ l ∧ l < 2147483648) ∧ -2147483648 ≤ h ∧ h < 2147483648) : F_X11_in M (zi a) (zi l) (zi h) = rI (zi 0) M := by
  unfold F_X11_in
  by_cases h0 : a < l
  · simp (disch := omega) only [lt_z, cI_s, cJ_s, cV_s, bI_s, bI_e, bV_s, bV_e, zl, zi_neg, zi_add, zi_sub, zi_mul, ↓reduceIte, zb0, zb1, bb_and, bb_t, bb_f, zi_ltT, zi_ltF, zi_leT, zi_leF, zi_eqT, zi_eqF]
  · simp (disch := omega) only [lt_z, cI_s, cJ_s, cV_s, bI_s, bI_e, bV_s, bV_e, zl, zi_neg, zi_add, zi_sub, zi_mul, ↓reduceIte, zb0, zb1, bb_and, bb_t, bb_f, zi_ltT, zi_ltF, zi_leT, zi_leF, zi_eqT, zi_eqF]
theorem bad_f {M : PM} {w r : Int32} (h0 : mI M 99 0 = zi 0) : F_X11_bad_99 M (zi 0) w r = rI (zi 0) M := by
  unfold F_X11_bad_99 F_X11_bad_99_26
  rw [if_pos (show zi 0 = 0 from rfl), if_pos (show mI M 99 0 = 0 from h0)]
  rfl
theorem bad_t {M : PM} {w r : Int} (h0 : mI M 99 0 = zi 0) (hw : w = 1 ∨ w = 2) (hr : 0 ≤ r ∧ r < 3) : F_X11_bad_99 M (zi 1) (zi w) (zi r) = rI (zi 1) (sA (sI M 99 0 (zi w)) 101 r.toNat (mA M 101 r.toNat + zi 1)) := by
  unfold F_X11_bad_99 F_X11_bad_99_26
  rw [if_neg (show ¬ zi 1 = 0 by decide), if_pos (show mI M 99 0 = 0 from h0)]
  have e : ¬ mI (sA (sI M 99 0 (zi w)) 101 (zi r).toNatClampNeg (mA (sI M 99 0 (zi w)) 101 (zi r).toNatClampNeg + 1)) 99 0 = 0 := by
    show ¬ u2 M.1 99 0 (zi w) 99 0 = 0
    rw [u2_eq]
    exact zi_ne (by omega) (by omega)
  rw [if_pos (zi_ixT (by omega) (by omega)), if_pos (zi_ixT (by omega) (by omega)), if_neg e, zi_nat (by omega)]
  rfl
theorem isDay_t {M : PM} {d : Int} (h : 0 ≤ d ∧ d ≤ 999999999) : F_X11_isDay M (zi d) = rI (zi 1) M := by
  unfold F_X11_isDay
  simp (disch := omega) only [lt_z, cI_s, cJ_s, cV_s, bI_s, bI_e, bV_s, bV_e, zl, zi_neg, zi_add, zi_sub, zi_mul, ↓reduceIte, zb0, zb1, bb_and, bb_t, bb_f, zi_ltT, zi_ltF, zi_leT, zi_leF, zi_eqT, zi_eqF, in_t]
theorem isDay_f {M : PM} {d : Int} (hr : -2147483648 ≤ d ∧ d < 2147483648) (h : ¬ (0 ≤ d ∧ d ≤ 999999999)) : F_X11_isDay M (zi d) = rI (zi 0) M := by
  unfold F_X11_isDay
  simp (disch := omega) only [lt_z, cI_s, cJ_s, cV_s, bI_s, bI_e, bV_s, bV_e, zl, zi_neg, zi_add, zi_sub, zi_mul, ↓reduceIte, zb0, zb1, bb_and, bb_t, bb_f, zi_ltT, zi_ltF, zi_leT, zi_leF, zi_eqT, zi_eqF, in_f]
theorem isLawM_t {M : PM} {n : Nat} {l : Int} (hn : mA M 103 0 = zi n) (hb : n ≤ 12) (h : 0 ≤ l ∧ l < n) : F_X11_isLaw_99 M (zi l) = rI (zi 1) M := by
  unfold F_X11_isLaw_99
  simp (disch := omega) only [lt_z, cI_s, cJ_s, cV_s, bI_s, bI_e, bV_s, bV_e, zl, zi_neg, zi_add, zi_sub, zi_mul, ↓reduceIte, zb0, zb1, bb_and, bb_t, bb_f, zi_ltT, zi_ltF, zi_leT, zi_leF, zi_eqT, zi_eqF, zi_ixT, zi_nat, Int.toNat_natCast, Int.reduceToNat, ltNT, and_self, hn, in_t]
theorem isLawM_f {M : PM} {n : Nat} {l : Int} (hn : mA M 103 0 = zi n) (hb : n ≤ 12) (hr : -2147483648 ≤ l ∧ l < 2147483648) (h : ¬ (0 ≤ l ∧ l < n)) : F_X11_isLaw_99 M (zi l) = rI (zi 0) M := by
  unfold F_X11_isLaw_99
  simp (disch := omega) only [lt_z, cI_s, cJ_s, cV_s, bI_s, bI_e, bV_s, bV_e, zl, zi_neg, zi_add, zi_sub, zi_mul, ↓reduceIte, zb0, zb1, bb_and, bb_t, bb_f, zi_ltT, zi_ltF, zi_leT, zi_leF, zi_eqT, zi_eqF, zi_ixT, zi_nat, Int.toNat_natCast, Int.reduceToNat, ltNT, and_self, hn, in_f]
theorem isHouseM_t {M : PM} {n : Nat} {l : Int} (hn : mA M 103 2 = zi n) (hb : n ≤ 12) (h : 0 ≤ l ∧ l < n) : F_X11_isHouse_99 M (zi l) = rI (zi 1) M := by
  unfold F_X11_isHouse_99
  simp (disch := omega) only [lt_z, cI_s, cJ_s, cV_s, bI_s, bI_e, bV_s, bV_e, zl, zi_neg, zi_add, zi_sub, zi_mul, ↓reduceIte, zb0, zb1, bb_and, bb_t, bb_f, zi_ltT, zi_ltF, zi_leT, zi_leF, zi_eqT, zi_eqF, zi_ixT, zi_nat, Int.toNat_natCast, Int.reduceToNat, ltNT, and_self, hn, in_t]
theorem isHouseM_f {M : PM} {n : Nat} {l : Int} (hn : mA M 103 2 = zi n) (hb : n ≤ 12) (hr : -2147483648 ≤ l ∧ l < 2147483648) (h : ¬ (0 ≤ l ∧ l < n)) : F_X11_isHouse_99 M (zi l) = rI (zi 0) M := by
  unfold F_X11_isHouse_99
  simp (disch := omega) only [lt_z, cI_s, cJ_s, cV_s, bI_s, bI_e, bV_s, bV_e, zl, zi_neg, zi_add, zi_sub, zi_mul, ↓reduceIte, zb0, zb1, bb_and, bb_t, bb_f, zi_ltT, zi_ltF, zi_leT, zi_leF, zi_eqT, zi_eqF, zi_ixT, zi_nat, Int.toNat_natCast, Int.reduceToNat, ltNT, and_self, hn, in_f]
theorem isWorkM_t {M : PM} {n : Nat} {l : Int} (hn : mI M 99 34 = zi n) (hb : n ≤ 12) (h : 0 ≤ l ∧ l < n) : F_X11_isWork_99 M (zi l) = rI (zi 1) M := by
  unfold F_X11_isWork_99
  simp (disch := omega) only [lt_z, cI_s, cJ_s, cV_s, bI_s, bI_e, bV_s, bV_e, zl, zi_neg, zi_add, zi_sub, zi_mul, ↓reduceIte, zb0, zb1, bb_and, bb_t, bb_f, zi_ltT, zi_ltF, zi_leT, zi_leF, zi_eqT, zi_eqF, hn, in_t]
theorem isWorkM_f {M : PM} {n : Nat} {l : Int} (hn : mI M 99 34 = zi n) (hb : n ≤ 12) (hr : -2147483648 ≤ l ∧ l < 2147483648) (h : ¬ (0 ≤ l ∧ l < n)) : F_X11_isWork_99 M (zi l) = rI (zi 0) M := by
  unfold F_X11_isWork_99
  simp (disch := omega) only [lt_z, cI_s, cJ_s, cV_s, bI_s, bI_e, bV_s, bV_e, zl, zi_neg, zi_add, zi_sub, zi_mul, ↓reduceIte, zb0, zb1, bb_and, bb_t, bb_f, zi_ltT, zi_ltF, zi_leT, zi_leF, zi_eqT, zi_eqF, hn, in_f]
/-! from the two answers to the case -/
theorem stepI_ok {w : Option (Int32 × PM)} {g : PM → Option PR} {M1 M2 : PM} {x : Int32} (hw : w = some (0, sB M1 129 (0 : Int32).toNatClampNeg x.toInt64)) (hg : g (sB M1 129 (0 : Int32).toNatClampNeg x.toInt64) = rI x M2) (h0 : mI M2 99 0 = 0) (hb : M2.2.2.2.1 129 = (sB M1 129 (0 : Int32).toNatClampNeg x.toInt64).2.2.2.1 129) : stepI w g = some M2 := by
  subst hw
  unfold stepI
  simp only [hg]
  unfold F_X11_thrown_99
  refine if_pos ⟨h0, fun _ => ?_⟩
  show M2.2.2.2.1 129 _ = _
  rw [hb]
  rw [rB_sB, if_pos rfl, if_pos rfl]
theorem stepI_no {w : Option (Int32 × PM)} {g : PM → Option PR} {M1 M2 : PM} {k y : Int32} (hw : w = some (k, M1)) (hk : k ≠ 0) (hg : g M1 = rI y M2) (h0 : mI M2 99 0 = k) : stepI w g = some M2 := by
  subst hw
  unfold stepI
  simp only [hg]
  unfold F_X11_thrown_99
  exact if_pos ⟨h0, fun e => absurd e hk⟩
theorem rm_thrown {M : PM} {w : Int32} {k : Nat} : mI (rm M w k) 99 0 = w := by
  show (sI (sI M 99 0 (zi 0)) 99 0 w).1 99 0 = w
  rw [rI_sI, if_pos rfl, if_pos rfl]
theorem CntR_rf {M : PM} (k : Nat) (hk : k < 3) (w : Int32) (h : CntR M) : CntR (rm (rf M k) w k) := by
  obtain ⟨h1, h2, h3, h4⟩ := h
  have hk3 : k = 0 ∨ k = 1 ∨ k = 2 := by omega
  have e1 : ∀ j, mI (rm (rf M k) w k) 0 j = u2 M.1 0 (14 + k) (M.1 0 (14 + k) + zi 1) 0 j := fun j => (u2_ne (by omega)).trans (u2_ne (by omega))
  have i1 : ∀ q j, ¬ (q = 0 ∧ 14 ≤ j) → ¬ (q = 99 ∧ j = 0) → mI (rm (rf M k) w k) q j = mI M q j := fun q j a b => (u2_ne (by omega)).trans ((u2_ne (by omega)).trans (u2_ne (by omega)))
  have e2 : mI (rm (rf M k) w k) 99 3 = mI M 99 3 := i1 99 3 (by decide) (by decide)
  have e3 : ∀ j, mA (rm (rf M k) w k) 101 j = u1 (M.2.2.1 101) k (M.2.2.1 101 k + zi 1) j := fun j => by
    show u1 M.2.2.1 101 (u1 (M.2.2.1 101) k _) 101 j = _
    rw [u1_eq]
    rfl
  unfold CntR
  simp only [e1, e2, e3]
  rcases hk3 with rfl | rfl | rfl <;> simp [u2, u1, h1, h2, h3, h4]
theorem Rel_rf {M : PM} (k : Nat) (hk : k < 3) (w : Int32) (c : Rel M) : Rel (rm (rf M k) w k) := by
  obtain ⟨C, S, W, h1, h2, h3, h4, h5, h6, h7, h8, h9, h10, h11, h12⟩ := c
  have hk3 : k = 0 ∨ k = 1 ∨ k = 2 := by omega
  have i1 : ∀ q j, ¬ (q = 0 ∧ 14 ≤ j) → ¬ (q = 99 ∧ j = 0) → mI (rm (rf M k) w k) q j = mI M q j := fun q j a b => (u2_ne (by omega)).trans ((u2_ne (by omega)).trans (u2_ne (by omega)))
  have i2 : ∀ q, q ≠ 101 → mA (rm (rf M k) w k) q = mA M q := fun q a => u1_ne a
  refine ⟨C, S, W, h1, ?_, ?_, h4, ?_, ?_, h7, ?_, ?_, ?_, ?_, CntR_rf k hk w h12⟩
  · unfold CalC LawC at h2 ⊢
    simp only [i1 _ _ (by decide : ¬ (4 = 0 ∧ 14 ≤ 4)) (by decide), i1 9 4 (by decide) (by decide), i1 3 4 (by decide) (by decide), i1 3 5 (by decide) (by decide), i1 3 6 (by decide) (by decide), i1 3 7 (by decide) (by decide), i2 (4 + 1) (by decide), i2 (4 + 2) (by decide), i2 (9 + 1) (by decide), i2 (9 + 2) (by decide), i2 8 (by decide), i2 15 (by decide)]
    exact h2
  · unfold CalM at h3 ⊢
    simp only [i2 103 (by decide), i2 105 (by decide), i2 107 (by decide), i2 109 (by decide), i2 111 (by decide), i2 113 (by decide)]
    exact h3
  · unfold StaC at h5 ⊢
    simp only [i1 16 4 (by decide) (by decide), i1 16 9 (by decide) (by decide), i1 16 12 (by decide) (by decide), i2 (16 + 1) (by decide), i2 (16 + 2) (by decide), i2 (16 + 3) (by decide), i2 (16 + 4) (by decide), i2 (16 + 5) (by decide), i2 (16 + 6) (by decide), i2 (16 + 7) (by decide), i2 (16 + 8) (by decide), i2 (16 + 9) (by decide), i2 (16 + 10) (by decide)]
    exact h5
  · unfold StaM at h6 ⊢
    simp only [i1 99 32 (by decide) (by decide), i1 99 33 (by decide) (by decide), i1 99 34 (by decide) (by decide)]
    exact h6
  · unfold WisC at h8 ⊢
    simp only [i1 76 7 (by decide) (by decide), i1 76 8 (by decide) (by decide), i1 76 9 (by decide) (by decide), i2 77 (by decide), i2 78 (by decide), i2 79 (by decide)]
    exact h8
  · unfold WisM at h9 ⊢
    simp only [i1 99 24 (by decide) (by decide), i1 99 27 (by decide) (by decide)]
    exact h9
  · obtain ⟨n, a1, a2, a3, a4⟩ := h10
    refine ⟨n, a1, (i1 0 5 (by decide) (by decide)).trans a2, (i1 99 35 (by decide) (by decide)).trans a3, fun r hr => ?_⟩
    obtain ⟨S, s1, s2, s3⟩ := a4 r hr
    refine ⟨S, s1, ?_, s3⟩
    unfold StaC at s2 ⊢
    have j1 : ∀ j, mI (rm (rf M k) w k) (43 + 11 * r) j = mI M (43 + 11 * r) j := fun j => i1 _ _ (by omega) (by omega)
    have j2 : ∀ j, j < 11 → mA (rm (rf M k) w k) (43 + 11 * r + j) = mA M (43 + 11 * r + j) := fun j hj => i2 _ (by omega)
    simp only [j1, j2 1 (by decide), j2 2 (by decide), j2 3 (by decide), j2 4 (by decide), j2 5 (by decide), j2 6 (by decide), j2 7 (by decide), j2 8 (by decide), j2 9 (by decide), j2 10 (by decide)]
    exact s2
  · unfold TapR at h11 ⊢
    simp only [i1 1 1 (by decide) (by decide), i1 99 1 (by decide) (by decide), i2 2 (by decide), i2 100 (by decide)]
    exact h11
theorem okq1 {M M1 : PM} {x : Int32} {E : String} {f : Option PR} {g : PM → Option PR} (hR : Rel M) (hf : f = rI x M1) (hs : Sam0 M M1) (hg : ∀ M', Sam0 M M' → ∃ M2, g M' = rI x M2 ∧ mI M2 99 0 = zi 0 ∧ Sam M' M2) : ∃ M', stepI (wI1 E f) g = some M' ∧ Rel M' := by
  obtain ⟨M2, h1, h2, h3⟩ := hg (sB M1 129 (0 : Int32).toNatClampNeg x.toInt64) (hs.tr (Sam0.out _ _))
  exact ⟨M2, stepI_ok (by rw [hf]; rfl) h1 h2 h3.2, hR.sm ((hs.tr (Sam0.out _ _)).tr h3.1)⟩
theorem okq2 {M M1 : PM} {x : Int32} {E E2 : String} {f : Option PR} {g : PM → Option PR} (hR : Rel M) (hf : f = rI x M1) (hs : Sam0 M M1) (hg : ∀ M', Sam0 M M' → ∃ M2, g M' = rI x M2 ∧ mI M2 99 0 = zi 0 ∧ Sam M' M2) : ∃ M', stepI (wI2 E E2 f) g = some M' ∧ Rel M' := by
  obtain ⟨M2, h1, h2, h3⟩ := hg (sB M1 129 (0 : Int32).toNatClampNeg x.toInt64) (hs.tr (Sam0.out _ _))
  exact ⟨M2, stepI_ok (by rw [hf]; rfl) h1 h2 h3.2, hR.sm ((hs.tr (Sam0.out _ _)).tr h3.1)⟩
theorem okm1 {M1 M2 : PM} {x : Int32} {E : String} {f : Option PR} {g : PM → Option PR} (hf : f = rI x M1) (hg : g (sB M1 129 0 x.toInt64) = rI x M2) (h0 : mI M2 99 0 = zi 0) (hb : M2.2.2.2.1 129 = (sB M1 129 0 x.toInt64).2.2.2.1 129) (hR : Rel M2) : ∃ M', stepI (wI1 E f) g = some M' ∧ Rel M' :=
  ⟨M2, stepI_ok (M1 := M1) (x := x) (by rw [hf]; rfl) hg h0 hb, hR⟩
theorem okm2 {M1 M2 : PM} {x : Int32} {E E2 : String} {f : Option PR} {g : PM → Option PR} (hf : f = rI x M1) (hg : g (sB M1 129 0 x.toInt64) = rI x M2) (h0 : mI M2 99 0 = zi 0) (hb : M2.2.2.2.1 129 = (sB M1 129 0 x.toInt64).2.2.2.1 129) (hR : Rel M2) : ∃ M', stepI (wI2 E E2 f) g = some M' ∧ Rel M' :=
  ⟨M2, stepI_ok (M1 := M1) (x := x) (by rw [hf]; rfl) hg h0 hb, hR⟩
theorem okr1 {M : PM} {y : Int32} {E : String} {f : Option PR} {g : PM → Option PR} (k : Nat) (hR : Rel M) (hk : k < 3) (hf : f = rE E (rf M k)) (hg : g (rf M k) = rI y (rm (rf M k) (zi 1) k)) : ∃ M', stepI (wI1 E f) g = some M' ∧ Rel M' :=
  ⟨_, stepI_no (k := 1) (by rw [hf]; exact if_pos rfl) (by decide) hg rm_thrown, Rel_rf k hk _ hR⟩
theorem okr2 {M : PM} {y : Int32} {E E2 : String} {f : Option PR} {g : PM → Option PR} (k : Nat) (hR : Rel M) (hk : k < 3) (hf : f = rE E (rf M k)) (hg : g (rf M k) = rI y (rm (rf M k) (zi 1) k)) : ∃ M', stepI (wI2 E E2 f) g = some M' ∧ Rel M' :=
  ⟨_, stepI_no (k := 1) (by rw [hf]; exact if_pos rfl) (by decide) hg rm_thrown, Rel_rf k hk _ hR⟩
theorem okr3 {M : PM} {y : Int32} {E E2 : String} {f : Option PR} {g : PM → Option PR} (k : Nat) (hR : Rel M) (hk : k < 3) (hE : E2 ≠ E) (hf : f = rE E2 (rf M k)) (hg : g (rf M k) = rI y (rm (rf M k) (zi 2) k)) : ∃ M', stepI (wI2 E E2 f) g = some M' ∧ Rel M' :=
  ⟨_, stepI_no (k := 2) (by rw [hf]; exact (if_neg hE).trans (if_pos rfl)) (by decide) hg rm_thrown, Rel_rf k hk _ hR⟩
