/-! market -/
def bnd (d t : Nat) : Nat := min (max d 100000 + t) 999999999
theorem bound_s {M : PM} {d t : Nat} (hd : d ≤ 999999999) (ht : t ≤ 300000) : F_X11_bound M (zi d) (zi t) = rI (zi (bnd d t)) M := by
  unfold F_X11_bound F_X11_bound_12 bnd
  by_cases q : d ≤ 100000
  · rw [show min (max d 100000 + t) 999999999 = 100000 + t by omega, zc (show ((100000 + t : Nat) : Int) = 100000 + t by omega)]
    simp (disch := omega) only [lt_z, cI_s, cJ_s, cV_s, bI_s, bI_e, bV_s, bV_e, zl, zi_neg, zi_add, zi_sub, zi_mul, ↓reduceIte, zb0, zb1, bb_and, bb_t, bb_f, zi_ltT, zi_ltF, zi_leT, zi_leF, zi_eqT, zi_eqF, zi_ixT, zi_nat, Int.toNat_natCast, Int.reduceToNat, ltNT, and_self]
  · by_cases q2 : d ≤ 999999999 - t
    · rw [show min (max d 100000 + t) 999999999 = d + t by omega, zc (show ((d + t : Nat) : Int) = d + t by omega)]
      simp (disch := omega) only [lt_z, cI_s, cJ_s, cV_s, bI_s, bI_e, bV_s, bV_e, zl, zi_neg, zi_add, zi_sub, zi_mul, ↓reduceIte, zb0, zb1, bb_and, bb_t, bb_f, zi_ltT, zi_ltF, zi_leT, zi_leF, zi_eqT, zi_eqF, zi_ixT, zi_nat, Int.toNat_natCast, Int.reduceToNat, ltNT, and_self]
    · rw [show min (max d 100000 + t) 999999999 = 999999999 by omega, zc (show ((999999999 : Nat) : Int) = 999999999 from rfl)]
      simp (disch := omega) only [lt_z, cI_s, cJ_s, cV_s, bI_s, bI_e, bV_s, bV_e, zl, zi_neg, zi_add, zi_sub, zi_mul, ↓reduceIte, zb0, zb1, bb_and, bb_t, bb_f, zi_ltT, zi_ltF, zi_leT, zi_leF, zi_eqT, zi_eqF, zi_ixT, zi_nat, Int.toNat_natCast, Int.reduceToNat, ltNT, and_self]
theorem tO_set {C : Cal} (hc : WFC C) {d : Nat} (hd : 100000 ≤ d) (i : Nat) : tO C ((d + i : Nat) : Int) = tO C (d : Int) + i := by
  unfold tO
  rw [fb_ct_cong (q := fun i => decide ((cS C i : Int) < (d : Int))) (fun j hj => decide_eq_decide.mpr (by
    have := hc.2.2.2.1 j hj
    omega))]
  omega
/-- once all stills are behind, a turn is enough -/
theorem per_never {C : Cal} {T a : Nat} {g : Int → Bool} (hc : WFC C) (hT : 0 < T) (hg : ∀ t m : Int, g (t + (T : Int) * m) = g t) (ha : 100000 ≤ a) (h : ∀ i, i < T → g (tO C ((a + i : Nat) : Int)) = false) (t : Int) : g t = false := by
  have m1 := Int.emod_nonneg (t - tO C (a : Int)) (b := (T : Int)) (by omega)
  have m2 := Int.emod_lt_of_pos (t - tO C (a : Int)) (b := (T : Int)) (by omega)
  have m3 := Int.emod_add_mul_ediv (t - tO C (a : Int)) (T : Int)
  have := h ((t - tO C (a : Int)) % (T : Int)).toNat (by omega)
  rw [tO_set hc ha, show ((((t - tO C (a : Int)) % (T : Int)).toNat : Nat) : Int) = (t - tO C (a : Int)) % (T : Int) by omega] at this
  rw [← hg _ ((t - tO C (a : Int)) / (T : Int)), show tO C (a : Int) + (t - tO C (a : Int)) % (T : Int) + (T : Int) * ((t - tO C (a : Int)) / (T : Int)) = t by omega] at this
  exact this
theorem fre_per5 {C : Cal} {L O : Nat} (t m : Int) : fre C L O (t + (t5 C : Int) * m) = fre C L O t := by
  obtain ⟨k, hk⟩ := tB_dvd C L O (oN C) (Nat.le_refl _)
  have e : (t5 C : Int) * m = ((tB C L O : Nat) : Int) * ((k : Int) * m) := by
    rw [hk, Int.natCast_mul, Int.mul_assoc]
    rfl
  rw [e]
  exact fre_per t _
theorem marketM {M : PM} {C : Cal} {L O d : Nat} (hc : WFC C) (c : CalM M C) (hL : L < 4096) (hO : O < 4096) (hd : d ≤ 999999999) : ∃ r, F_X11_market_99_73 FUEL M (zi L) (zi O) (zi (bnd d (t5 C))) (zi d) = rI (zi r) M ∧ NthF C L O d 1 r := by
  have hT := hc.2.2.2.2.2
  have hTp := t5_pos hc
  have hb1 : bnd d (t5 C) ≤ 999999999 := by unfold bnd; omega
  have hb2 : d ≤ bnd d (t5 C) := by unfold bnd; omega
  have hb3 : bnd d (t5 C) = 999999999 ∨ bnd d (t5 C) = max d 100000 + t5 C := by unfold bnd; omega
  generalize bnd d (t5 C) = e at *
  refine loopS (σ := Nat) (fun f j => F_X11_market_99_73 f M (zi L) (zi O) (zi e) (zi ((d + j : Nat)))) (fun o => ∃ r, o = rI (zi r) M ∧ NthF C L O d 1 r) (fun r j => r = e + 1 - (d + j) ∧ d + j ≤ e + 1 ∧ ∀ i, i < j → fd C L O (d + i) = false) ?_ (e + 1 - d) 0 FUEL ⟨rfl, by omega, fun i hi => absurd hi (Nat.not_lt_zero i)⟩ (FUEL_gt (by omega))
  rintro f r j ⟨i1, i2, i3⟩
  show (∃ r, F_X11_market_99_73 (f + 1) M (zi L) (zi O) (zi e) (zi ((d + j : Nat))) = rI (zi r) M ∧ _) ∨ _
  by_cases q : d + j = e + 1
  · left
    refine ⟨-1, ?_, Or.inr ⟨rfl, fun k hk hf => ?_⟩⟩
    · rw [F_X11_market_99_73, if_pos (by rw [zi_lt (by omega) (by omega)]; omega)]
      rfl
    · rcases hb3 with h9 | h9
      · rw [i3 k (by omega)] at hf
        exact absurd hf (by decide)
      · have := per_never (a := max d 100000) (g := fre C L O) hc hTp fre_per5 (by omega) (fun i hi => by
          have := i3 (max d 100000 - d + i) (by omega)
          rw [show d + (max d 100000 - d + i) = max d 100000 + i by omega] at this
          exact this) (tO C ((d + k : Nat) : Int))
        unfold fd at hf
        rw [this] at hf
        exact absurd hf (by decide)
  · have h0 := tO_nn hc (d := ((d + j : Nat) : Int)) (by omega)
    have t1 := turnedOn_s (d := ((d + j : Nat) : Int)) hc c.1.2.2.2.1 c.2.2.2.2.2 (by omega)
    have t2 := isTrade_s (t := tO C ((d + j : Nat) : Int)) hc c hL hO (by omega)
    rw [F_X11_market_99_73, if_neg (by rw [zi_lt (by omega) (by omega)]; omega), t1, cI_s, t2, cI_s]
    cases hf : fre C L O (tO C ((d + j : Nat) : Int)) with
    | false =>
      right
      refine ⟨e + 1 - (d + (j + 1)), j + 1, by omega, ⟨rfl, by omega, fun i hi => ?_⟩, ?_⟩
      · by_cases q2 : i = j
        · rw [q2]; exact hf
        · exact i3 i (by omega)
      · rw [if_pos (by decide), lt_z, show (1 : Int32) = zi 1 from rfl, zi_add, zc (show ((d + j : Nat) : Int) + 1 = ((d + (j + 1) : Nat) : Int) by omega)]
    | true =>
      left
      refine ⟨((d + j : Nat) : Int), ?_, Or.inl ⟨j, by omega, hf, by rw [fb_ct_zero.mpr i3], rfl⟩⟩
      rw [if_neg (by decide)]
theorem mk1 {M : PM} {x y z : Int32} {d : Int} (h : 0 ≤ d ∧ d ≤ 999999999) : F_X11_market_99 M (zi d) y z = F_X11_market_99_18 (sI M 99 0 (zi 0)) (zi d) y z (zi 0) := by
  unfold F_X11_market_99
  rw [show (0 : Int32) = zi 0 from rfl, isDay_t h, cI_s, if_neg (by decide)]
theorem ok37 : OK_37 Rel := fun M a1 a2 a3 hR => by
  obtain ⟨w, rfl, hw⟩ := zi_rng a1
  obtain ⟨z, rfl, hz⟩ := zi_rng a2
  obtain ⟨x, rfl, hx⟩ := zi_rng a3
  have hR2 := hR
  obtain ⟨C, S, W, h1, h2, h3, h4, h5, h6, h7, h8, h9, h10, h11, h12⟩ := hR2
  have hb := h1.1.1
  have hb2 : oN C ≤ 12 := by have := h1.1.2.1; omega
  have hp2 := p2 hb
  have hp3 := p2 hb2
  have hT := h1.2.2.2.2.2
  have a0 : mA (sI (rf M 2) 99 0 (zi 0)) 103 0 = zi (cN C) := h3.1.1
  have a2 : mA (sI (rf M 2) 99 0 (zi 0)) 103 1 = zi (oN C) := h3.1.2.1
  unfold c_37 w_market
  by_cases hd : 0 ≤ w ∧ w ≤ 999999999
  · by_cases h : 0 ≤ z ∧ z < (2 ^ cN C : Nat)
    · obtain ⟨L, rfl, hL⟩ := natOf h
      by_cases h' : 0 ≤ x ∧ x < (2 ^ oN C : Nat)
      · obtain ⟨O, rfl, hO⟩ := natOf h'
        obtain ⟨d, rfl, hd2⟩ := natOf (z := w) (n := 1000000000) ⟨hd.1, by omega⟩
        obtain ⟨r, r1, r2⟩ := nthFrom_s (M := brM M L O (tB C L O)) (a := d) (n := 1) h1 (h2.sm brM_sam.1) (by omega) (by omega) rfl rfl rfl (by omega) (by omega)
        refine okq2 (x := zi r) (M1 := brM M L O (tB C L O)) hR ?_ brM_sam.1 (fun M' hs => ⟨sI M' 99 0 (zi 0), ?_, th0, Sam.th⟩)
        · unfold F_X10_market_0
          rw [needDay_t hd, bV_s, needLaws_t h2.1.1 hb h, bV_s, needOthers_t h2.2.1.1 hb2 h', bV_s, bar_s h1 h2 (by omega) (by omega), cV_s, show (1 : Int32) = zi ((1 : Nat) : Int) from rfl, r1, cI_s]
        · have c : CalM (sI M' 99 0 (zi 0)) C := h3.sm (hs.tr Sam.th.1)
          obtain ⟨q, q1, q2⟩ := marketM h1 c (show L < 4096 by omega) (show O < 4096 by omega) (show d ≤ 999999999 by omega)
          rw [NthF_one r2 q2, mk1 (x := zi 0) hd]
          unfold F_X11_market_99_18
          rw [bad_f th0, cI_s, if_pos (show zi 0 = 0 from rfl), areLaws_t c.1.1 hb h, cI_s, if_neg (by decide), areOthers_t c.1.2.1 hb2 h', cI_s, if_neg (by decide)]
          unfold F_X11_market_99_48
          rw [show (0 : Int32) = zi 0 from rfl, bad_f th0, cI_s, if_pos rfl, if_pos (by decide), show mA (sI M' 99 0 (zi 0)) 103 (5 : Int32).toNatClampNeg = zi (t5 C) from c.1.2.2.2.2.2, bound_s (by omega) (by omega), cI_s]
          exact q1
      · refine okr3 (y := zi 0) 2 hR (by decide) (by decide) ?_ ?_
        · unfold F_X10_market_0
          simp (disch := omega) only [lt_z, cI_s, cJ_s, cV_s, bI_s, bI_e, bV_s, bV_e, zl, zi_neg, zi_add, zi_sub, zi_mul, ↓reduceIte, zb0, zb1, bb_and, bb_t, bb_f, zi_ltT, zi_ltF, zi_leT, zi_leF, zi_eqT, zi_eqF, zi_ixT, zi_nat, Int.toNat_natCast, Int.reduceToNat, ltNT, and_self, needDay_t, needLaws_t h2.1.1 hb, needOthers_f h2.2.1.1 hb2]
        · rw [mk1 (x := zi 0) hd]
          unfold F_X11_market_99_18
          rw [bad_f th0, cI_s, if_pos (show zi 0 = 0 from rfl), areLaws_t a0 hb h, cI_s, if_neg (by decide), areOthers_f a2 hb2 hx h', cI_s, if_pos (by decide)]
          unfold F_X11_market_99_43 F_X11_market_99_48
          rw [show (1 : Int32) = zi 1 from rfl, show (2 : Int32) = zi 2 from rfl, bad_t th0 (by decide) (by decide), cI_s, if_neg (by decide)]
          rfl
    · refine okr3 (y := zi 0) 2 hR (by decide) (by decide) ?_ ?_
      · unfold F_X10_market_0
        simp (disch := omega) only [lt_z, cI_s, cJ_s, cV_s, bI_s, bI_e, bV_s, bV_e, zl, zi_neg, zi_add, zi_sub, zi_mul, ↓reduceIte, zb0, zb1, bb_and, bb_t, bb_f, zi_ltT, zi_ltF, zi_leT, zi_leF, zi_eqT, zi_eqF, zi_ixT, zi_nat, Int.toNat_natCast, Int.reduceToNat, ltNT, and_self, needDay_t, needLaws_f h2.1.1 hb]
      · rw [mk1 (x := zi 0) hd]
        unfold F_X11_market_99_18
        rw [bad_f th0, cI_s, if_pos (show zi 0 = 0 from rfl), areLaws_f a0 hb hz h, cI_s, if_pos (by decide)]
        unfold F_X11_market_99_43 F_X11_market_99_48
        rw [show (1 : Int32) = zi 1 from rfl, show (2 : Int32) = zi 2 from rfl, bad_t th0 (by decide) (by decide), cI_s, if_neg (by decide)]
        rfl
  · refine okr2 (y := zi 0) 0 hR (by decide) ?_ ?_
    · unfold F_X10_market_0
      simp (disch := omega) only [lt_z, cI_s, cJ_s, cV_s, bI_s, bI_e, bV_s, bV_e, zl, zi_neg, zi_add, zi_sub, zi_mul, ↓reduceIte, zb0, zb1, bb_and, bb_t, bb_f, zi_ltT, zi_ltF, zi_leT, zi_leF, zi_eqT, zi_eqF, zi_ixT, zi_nat, Int.toNat_natCast, Int.reduceToNat, ltNT, and_self, needDay_f]
    · unfold F_X11_market_99
      rw [show (0 : Int32) = zi 0 from rfl, isDay_f hw hd, cI_s, if_pos rfl]
      unfold F_X11_market_99_18
      rw [show (1 : Int32) = zi 1 from rfl, show (0 : Int32) = zi 0 from rfl, bad_t th0 (by decide) (by decide), cI_s, if_neg (by decide)]
      rfl
