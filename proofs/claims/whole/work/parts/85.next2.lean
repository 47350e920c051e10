theorem nextM {M : PM} {C : Cal} {S : Sta} {W : Wsh} {a : Nat} (hc : WFC C) (hw : WFS C S) (hv : WFW C W) (c : CalM M C) (st : StaM M C S) (ws : WisM M C W) (ha : a ≤ 999999999) : ∃ r N, F_X11_next_99_39 FUEL M (zi (bnd a (hT C W))) (zi a) = rI (zi r) N ∧ Sam M N ∧ mI N 99 0 = mI M 99 0 ∧ Fst (wd C S W) a r := by
  have hTb := hv.2.1
  have hTp := hT_pos hc hv
  have hb1 : bnd a (hT C W) ≤ 999999999 := by unfold bnd; omega
  have hb2 : a ≤ bnd a (hT C W) := by unfold bnd; omega
  have hb3 : bnd a (hT C W) = 999999999 ∨ bnd a (hT C W) = max a 100000 + hT C W := by unfold bnd; omega
  generalize bnd a (hT C W) = e at *
  have h := loopS (σ := Nat × PM) (fun f s => F_X11_next_99_39 f s.2 (zi e) (zi ((a + s.1 : Nat)))) (fun o => ∃ r N, o = rI (zi r) N ∧ Sam M N ∧ mI N 99 0 = mI M 99 0 ∧ Fst (wd C S W) a r) (fun r s => r = e + 1 - (a + s.1) ∧ a + s.1 ≤ e + 1 ∧ Sam M s.2 ∧ mI s.2 99 0 = mI M 99 0 ∧ ∀ i, i < s.1 → wd C S W (a + i) = false) (fun f r sg hI => by
    obtain ⟨j, N⟩ := sg
    obtain ⟨i1, i2, i3, i5, i4⟩ := hI
    simp only at i1 i2 i3 i4 i5
    show (∃ r N', F_X11_next_99_39 (f + 1) N (zi e) (zi ((a + j : Nat))) = rI (zi r) N' ∧ _) ∨ _
    by_cases q1 : a + j = e + 1
    · left
      refine ⟨-1, N, ?_, i3, i5, Or.inr ⟨rfl, fun k hk => ?_⟩⟩
      · rw [F_X11_next_99_39, if_pos (by rw [zi_lt (by omega) (by omega)]; omega)]
        rfl
      · rcases hb3 with h9 | h9
        · exact i4 k (by omega)
        · by_cases q : k < j
          · exact i4 k q
          · refine per2 (g := wd C S W) (T := hT C W) (a := max a 100000) hTp (fun d hd => wd_per hv (fun i hi => by have := hc.2.2.2.1 i hi; omega)) (fun i hi => ?_) (a + k) (by omega)
            have := i4 (max a 100000 - a + i) (by omega)
            rw [show a + (max a 100000 - a + i) = max a 100000 + i by omega] at this
            exact this
    · obtain ⟨K, k1, k2, k3⟩ := isSuch_s (d := a + j) hc hw hv (c.sm i3.1) (st.sm i3.1) (ws.sm i3.1) (by omega)
      rw [F_X11_next_99_39, if_neg (by rw [zi_lt (by omega) (by omega)]; omega), k1, cI_s]
      cases hf : wsB C S W ((a + j : Nat) : Int) (tO C ((a + j : Nat) : Int)) with
      | false =>
        right
        refine ⟨e + 1 - (a + (j + 1)), (j + 1, K), by omega, ⟨rfl, by show a + (j + 1) ≤ e + 1; omega, i3.tr k2, k3.trans i5, fun i hi => ?_⟩, ?_⟩
        · have hi2 : i < j + 1 := hi
          by_cases q2 : i = j
          · rw [q2]; exact hf
          · exact i4 i (by omega)
        · show _ = F_X11_next_99_39 f K (zi e) (zi ((a + (j + 1) : Nat)))
          rw [if_pos (by decide), lt_z, show (1 : Int32) = zi 1 from rfl, zi_add, zc (show ((a + j : Nat) : Int) + 1 = ((a + (j + 1) : Nat) : Int) by omega)]
      | true =>
        left
        refine ⟨((a + j : Nat) : Int), K, ?_, i3.tr k2, k3.trans i5, Or.inl ⟨j, by omega, hf, i4, rfl⟩⟩
        rw [if_neg (by decide)]) (e + 1 - a) (0, M) FUEL ⟨rfl, by show a + 0 ≤ e + 1; omega, Sam.rf, rfl, fun i hi => absurd hi (Nat.not_lt_zero i)⟩ (FUEL_gt (by omega))
  exact h
theorem ok13 : OK_13 Rel := fun M a1 hR => by
  obtain ⟨z, rfl, hz⟩ := zi_rng a1
  have hR2 := hR
  obtain ⟨C, S, W, h1, h2, h3, h4, h5, h6, h7, h8, h9, h10, h11, h12⟩ := hR2
  have hTb := h7.2.1
  unfold c_13 w_next
  by_cases h : 0 ≤ z ∧ z ≤ 999999999
  · obtain ⟨d, rfl, hd⟩ := natOf (z := z) (n := 1000000000) ⟨h.1, by omega⟩
    obtain ⟨r, N, n1, n2, n3⟩ := firstFrom_s (a := d) h1 h4 h7 h2 h5 h8 (by omega)
    refine okq1 (x := zi r) (M1 := N) hR ?_ n2.1 (fun M' hs => ?_)
    · unfold F_X10_next_0
      rw [needDay_t h, bV_s, n1, cI_s]
    · have c : CalM (sI M' 99 0 (zi 0)) C := h3.sm (hs.tr Sam.th.1)
      have w : WisM (sI M' 99 0 (zi 0)) C W := h9.sm (hs.tr Sam.th.1)
      obtain ⟨q, K, k1, k2, k3, k4⟩ := nextM (a := d) h1 h4 h7 c (h6.sm (hs.tr Sam.th.1)) w (by omega)
      refine ⟨K, ?_, k3.trans th0, Sam.th.tr k2⟩
      rw [Fst_one n3 k4]
      unfold F_X11_next_99
      rw [show (0 : Int32) = zi 0 from rfl, isDay_t h, cI_s, if_neg (by decide)]
      unfold F_X11_next_99_18
      rw [bad_f th0, cI_s, if_pos (show zi 0 = 0 from rfl), w.2.1, bound_s (by omega) (by omega), cI_s]
      exact k1
  · refine okr1 (y := zi 0) 0 hR (by decide) ?_ ?_
    · unfold F_X10_next_0
      simp (disch := omega) only [lt_z, cI_s, cJ_s, cV_s, bI_s, bI_e, bV_s, bV_e, zl, zi_neg, zi_add, zi_sub, zi_mul, ↓reduceIte, zb0, zb1, bb_and, bb_t, bb_f, zi_ltT, zi_ltF, zi_leT, zi_leF, zi_eqT, zi_eqF, zi_ixT, zi_nat, Int.toNat_natCast, Int.reduceToNat, ltNT, and_self, needDay_f]
    · unfold F_X11_next_99
      rw [show (0 : Int32) = zi 0 from rfl, isDay_f hz h, cI_s, if_pos rfl]
      unfold F_X11_next_99_18
      rw [show (1 : Int32) = zi 1 from rfl, show (0 : Int32) = zi 0 from rfl, bad_t th0 (by decide) (by decide), cI_s, if_neg (by decide)]
      rfl
