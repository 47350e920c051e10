theorem rowC {M : PM} {C : Cal} {L O d r : Nat} (hc : WFC C) (c : CalC M C) (hL : L < 4096) (hO : O < 4096) (h2 : mI M 27 2 = zi L) (h3 : mI M 27 3 = zi O) (h4 : mI M 27 4 = zi (tB C L O)) (hd : d ≤ 999999999) (hr : 1 ≤ r ∧ r ≤ 99) : ∃ x, F_X1_firstRow_27 M (zi d) (zi r) = rI (zi x) M ∧ RowF (fd C L O) d r x := by
  have hT := tB_le hc L O
  have hTp := tB_pos hc L O
  obtain ⟨s, s1, s2, s3⟩ := settled_s hc c
  have e0 : F_X1_firstRow_27 M (zi d) (zi r) = F_X1_firstRow_27_33 FUEL M (zi r) (zi ((min (max d s + tB C L O + r) 999999999 : Nat))) (zi ((0 : Nat))) (zi d) := by
    unfold F_X1_firstRow_27 F_J9_max_7cf53
    rw [s1, cI_s]
    have em : (if zi (d : Nat) < zi (s : Nat) then some (Sum.inl (some (Value.int (zi (s : Nat)))), M) else some (Sum.inl (some (Value.int (zi (d : Nat)))), M) : Option PR) = rI (zi ((max d s : Nat))) M := by
      by_cases q : d < s
      · rw [if_pos (by rw [zi_lt (by omega) (by omega)]; omega), show max d s = s by omega]
      · rw [if_neg (by rw [zi_lt (by omega) (by omega)]; omega), show max d s = d by omega]
    rw [em, cI_s, h4, zi_add, zi_add]
    unfold F_J9_min_7cf53
    rw [show (999999999 : Int32) = zi 999999999 from rfl]
    by_cases q : 999999999 < max d s + tB C L O + r
    · rw [if_pos (by rw [zi_lt (by omega) (by omega)]; omega), cI_s, show min (max d s + tB C L O + r) 999999999 = 999999999 by omega]
      rfl
    · rw [if_neg (by rw [zi_lt (by omega) (by omega)]; omega), cI_s, zc (show ((max d s : Nat) : Int) + (tB C L O : Int) + (r : Int) = ((min (max d s + tB C L O + r) 999999999 : Nat) : Int) by omega)]
      rfl
  rw [e0]
  have hB : min (max d s + tB C L O + r) 999999999 ≤ 999999999 := Nat.min_le_right _ _
  generalize hBe : min (max d s + tB C L O + r) 999999999 = B at hB
  have hall : ∀ r0 K f, r0 = 1000000000 - (d + K) → d + K ≤ 1000000000 → (∀ k, k < K → run (fd C L O) d (k + 1) < r) → r0 < f → ∃ x, F_X1_firstRow_27_33 f M (zi r) (zi B) (zi (run (fd C L O) d K : Nat)) (zi ((d + K : Nat))) = rI (zi x) M ∧ RowF (fd C L O) d r x := by
    intro r0
    induction r0 using Nat.strongRecOn with
    | ind r0 ih =>
      intro K f i1 i2 i3 hf
      obtain ⟨f, rfl⟩ : ∃ g, f = g + 1 := ⟨f - 1, by omega⟩
      by_cases q : B < d + K
      · refine ⟨-1, ?_, Or.inr ⟨rfl, fun k hk => ?_⟩⟩
        · rw [F_X1_firstRow_27_33, if_pos (by rw [zi_lt (by omega) (by omega)]; omega)]
          rfl
        · by_cases q2 : B = 999999999
          · exact i3 k (by omega)
          · exact row_never (e := max d s) (T := tB C L O) (B := d + K) hTp (fun x hx => fd_set (e := s) (fun x i hx => tO_past s3 x i hx) (Nat.dvd_refl _) x (by omega)) (by omega) (by omega) (fun k hk => i3 k (by omega)) (by omega) k
      · obtain ⟨n, x, y, b1, b2, b3, b4, b5, b6, b7, b8⟩ := block_s (d := d + K) hc c hL hO h2 h3 (by omega)
        rw [F_X1_firstRow_27_33, if_neg (by rw [zi_lt (by omega) (by omega)]; omega), b1, cI_s, b2, cI_s, b3, cJ_s, b4, cJ_s, lt_z]
        exact rowIn (g := 0) (Q := fun o => ∃ x, o = rI (zi x) M ∧ RowF (fd C L O) d r x) (zi B) ⟨b5, b6⟩ (by omega) hr b8 i3 (fun x hx => ⟨x, rfl, hx⟩) (fun hn => ih (1000000000 - (d + (K + n))) (by omega) (K + n) f rfl (by omega) hn (by omega))
  exact hall (1000000000 - d) 0 FUEL rfl (by omega) (fun k hk => absurd hk (Nat.not_lt_zero k)) (FUEL_gt (by omega))
theorem rw1 {M : PM} {y : Int32} {d : Int} (h : 0 ≤ d ∧ d ≤ 999999999) : F_X11_row_99 M (zi d) y = F_X11_row_99_18 (sI M 99 0 (zi 0)) (zi d) y (zi 0) := by
  unfold F_X11_row_99 F_X11_isDay F_X11_in
  simp (disch := omega) only [lt_z, cI_s, cJ_s, cV_s, bI_s, bI_e, bV_s, bV_e, zl, zi_neg, zi_add, zi_sub, zi_mul, ↓reduceIte, zb0, zb1, bb_and, bb_t, bb_f, zi_ltT, zi_ltF, zi_leT, zi_leF, zi_eqT, zi_eqF, zi_ixT, zi_nat, Int.toNat_natCast, Int.reduceToNat, ltNT, and_self]
theorem ok18 : OK_18 Rel := fun M a1 a2 hR => by
  obtain ⟨w, rfl, hw⟩ := zi_rng a1
  obtain ⟨z, rfl, hz⟩ := zi_rng a2
  have hR2 := hR
  obtain ⟨C, S, W, h1, h2, h3, h4, h5, h6, h7, h8, h9, h10, h11, h12⟩ := hR2
  have hb := h1.1.1
  have hp2 := p2 hb
  have hT := t4_le h1
  unfold c_18 w_row
  by_cases hd : 0 ≤ w ∧ w ≤ 999999999
  · by_cases h : 1 ≤ z ∧ z ≤ 99
    · obtain ⟨d, rfl, hd2⟩ := natOf (z := w) (n := 1000000000) ⟨hd.1, by omega⟩
      obtain ⟨r, rfl, hr2⟩ := natOf (z := z) (n := 100) ⟨by omega, by omega⟩
      obtain ⟨x, x1, x2⟩ := rowC (M := brM M (2 ^ cN C - 1) 0 (tB C (2 ^ cN C - 1) 0)) (d := d) (r := r) (L := 2 ^ cN C - 1) (O := 0) h1 (h2.sm brM_sam.1) (by omega) (by omega) rfl rfl rfl (by omega) (by omega)
      have eall : F_X10_all M (mI M 4 4) = rI (zi ((2 ^ cN C - 1 : Nat))) M := by
        unfold F_X10_all
        simp (disch := omega) only [lt_z, cI_s, bV_s, zl, zi_neg, h2.1.1, zshl, zi_sub]
        rw [zc (show ((2 ^ cN C - 1 : Nat) : Int) = ((2 ^ cN C : Nat) : Int) - 1 by omega)]
        try rfl
      refine okq2 (x := zi x) (M1 := brM M (2 ^ cN C - 1) 0 (tB C (2 ^ cN C - 1) 0)) hR ?_ brM_sam.1 (fun M' hs => ⟨sI M' 99 0 (zi 0), ?_, th0, Sam.th⟩)
      · unfold F_X10_row_0
        rw [needDay_t hd, bV_s, if_neg (by rw [show (1 : Int32) = zi 1 from rfl, zi_lt (by omega) (by omega)]; omega), if_neg (by rw [show (99 : Int32) = zi 99 from rfl, zi_lt (by omega) (by omega)]; omega)]
        unfold F_X10_row_0_22
        rw [show (1 : Int32) = zi 1 from rfl, need_t, bV_s, eall, cI_s, show (0 : Int32) = zi ((0 : Nat) : Int) from rfl, bar_s h1 h2 (by omega) (by omega), cV_s, x1, cI_s]
      · have c : CalM (sI M' 99 0 (zi 0)) C := h3.sm (hs.tr Sam.th.1)
        obtain ⟨q, q1, q2⟩ := rowM h1 c (show d ≤ 999999999 by omega) (show 1 ≤ r ∧ r ≤ 99 by omega)
        have ein : F_X11_in (sI M' 99 0 (zi 0)) (zi r) 1 99 = rI (zi 1) (sI M' 99 0 (zi 0)) := by
          unfold F_X11_in
          simp (disch := omega) only [lt_z, cI_s, cJ_s, cV_s, bI_s, bI_e, bV_s, bV_e, zl, zi_neg, zi_add, zi_sub, zi_mul, ↓reduceIte, zb0, zb1, bb_and, bb_t, bb_f, zi_ltT, zi_ltF, zi_leT, zi_leF, zi_eqT, zi_eqF, zi_ixT, zi_nat, Int.toNat_natCast, Int.reduceToNat, ltNT, and_self]
        have a4 : mA (sI M' 99 0 (zi 0)) 103 (4 : Int32).toNatClampNeg = zi (t4 C) := c.1.2.2.2.2.1
        rw [RowF_one x2 q2, rw1 hd]
        unfold F_X11_row_99_18
        rw [show (0 : Int32) = zi 0 from rfl, bad_f th0, cI_s, if_pos rfl, ein, cI_s, if_neg (by decide)]
        unfold F_X11_row_99_42
        rw [bad_f th0, cI_s, show (0 : Int32) = zi 0 from rfl, if_pos rfl, if_pos (by decide), a4, show (2 : Int32) = zi 2 from rfl, show (100 : Int32) = zi 100 from rfl, zi_mul, zi_add, zc (show 2 * (t4 C : Int) + 100 = ((2 * t4 C + 100 : Nat) : Int) by omega), bound_s (by omega) (by omega), cI_s]
        exact q1
    · refine okr3 (y := zi 0) 2 hR (by decide) (by decide) ?_ ?_
      · unfold F_X10_row_0 F_X10_row_0_21 F_X10_row_0_22
        rw [needDay_t hd, bV_s]
        by_cases q : z < 1
        · rw [if_pos (by rw [show (1 : Int32) = zi 1 from rfl, zi_lt (by omega) (by omega)]; omega), show (0 : Int32) = zi 0 from rfl, need_f, bV_e]
        · rw [if_neg (by rw [show (1 : Int32) = zi 1 from rfl, zi_lt (by omega) (by omega)]; omega), if_pos (by rw [show (99 : Int32) = zi 99 from rfl, zi_lt (by omega) (by omega)]; omega), show (0 : Int32) = zi 0 from rfl, need_f, bV_e]
      · have ein : F_X11_in (sI (rf M 2) 99 0 (zi 0)) (zi z) 1 99 = rI (zi 0) (sI (rf M 2) 99 0 (zi 0)) := by
          unfold F_X11_in
          by_cases q : z < 1
          · simp (disch := omega) only [lt_z, cI_s, cJ_s, cV_s, bI_s, bI_e, bV_s, bV_e, zl, zi_neg, zi_add, zi_sub, zi_mul, ↓reduceIte, zb0, zb1, bb_and, bb_t, bb_f, zi_ltT, zi_ltF, zi_leT, zi_leF, zi_eqT, zi_eqF, zi_ixT, zi_nat, Int.toNat_natCast, Int.reduceToNat, ltNT, and_self]
          · have : 99 < z := by omega
            simp (disch := omega) only [lt_z, cI_s, cJ_s, cV_s, bI_s, bI_e, bV_s, bV_e, zl, zi_neg, zi_add, zi_sub, zi_mul, ↓reduceIte, zb0, zb1, bb_and, bb_t, bb_f, zi_ltT, zi_ltF, zi_leT, zi_leF, zi_eqT, zi_eqF, zi_ixT, zi_nat, Int.toNat_natCast, Int.reduceToNat, ltNT, and_self]
        rw [rw1 hd]
        unfold F_X11_row_99_18
        rw [show (0 : Int32) = zi 0 from rfl, bad_f th0, cI_s, if_pos rfl, ein, cI_s, if_pos rfl]
        unfold F_X11_row_99_42
        rw [show (1 : Int32) = zi 1 from rfl, show (2 : Int32) = zi 2 from rfl, bad_t th0 (by decide) (by decide), cI_s, if_neg (by decide)]
        rfl
  · refine okr2 (y := zi 0) 0 hR (by decide) ?_ ?_
    · unfold F_X10_row_0
      simp (disch := omega) only [lt_z, cI_s, cJ_s, cV_s, bI_s, bI_e, bV_s, bV_e, zl, zi_neg, zi_add, zi_sub, zi_mul, ↓reduceIte, zb0, zb1, bb_and, bb_t, bb_f, zi_ltT, zi_ltF, zi_leT, zi_leF, zi_eqT, zi_eqF, zi_ixT, zi_nat, Int.toNat_natCast, Int.reduceToNat, ltNT, and_self, needDay_f]
    · unfold F_X11_row_99
      rw [show (0 : Int32) = zi 0 from rfl, isDay_f hw hd, cI_s, if_pos rfl]
      unfold F_X11_row_99_18
      rw [show (1 : Int32) = zi 1 from rfl, show (0 : Int32) = zi 0 from rfl, bad_t th0 (by decide) (by decide), cI_s, if_neg (by decide)]
      rfl
