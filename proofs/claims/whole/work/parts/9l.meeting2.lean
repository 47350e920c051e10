/-! meeting: the reference -/
theorem a123_sam {M M1 : PM} {k : Nat} {x : Int32} (h : Sam M M1) : Sam M (sA M1 123 k x) := Sam.a 123 k x (by decide) h
theorem meet66 {M : PM} {g : Nat} {k : PM → Int32 → Int32 → Int32 → Int64 → Int64 → Int32 → Option PR} {x1 x2 x3 x8 : Int32} {x4 x6 : Int64} (hg : g ≤ 24) : ∃ M', F_X11_meeting_99_66 k FUEL M x1 x2 x3 x4 x6 x8 (zi g) (zi 0) = F_X11_meeting_99_90 k FUEL M' x1 x2 x3 x4 x6 x8 (zi g) (zi ((0 : Nat) : Int)) ∧ M'.1 = M.1 ∧ Sam M M' ∧ ∀ r, r < g → mA M' 123 r = zi ((0 : Nat) : Int) := by
  refine loopS (σ := PM × Nat) (fun f s => F_X11_meeting_99_66 k f s.1 x1 x2 x3 x4 x6 x8 (zi g) (zi (s.2 : Nat))) (fun o => ∃ M', o = F_X11_meeting_99_90 k FUEL M' x1 x2 x3 x4 x6 x8 (zi g) (zi ((0 : Nat) : Int)) ∧ M'.1 = M.1 ∧ Sam M M' ∧ ∀ r, r < g → mA M' 123 r = zi ((0 : Nat) : Int)) (fun q s => q = g - s.2 ∧ s.2 ≤ g ∧ s.1.1 = M.1 ∧ Sam M s.1 ∧ ∀ r, r < s.2 → mA s.1 123 r = zi ((0 : Nat) : Int)) ?_ g (M, 0) FUEL ⟨rfl, Nat.zero_le _, rfl, Sam.rf, fun r hr => absurd hr (Nat.not_lt_zero r)⟩ (FUEL_gt (by omega))
  rintro f q ⟨M1, r⟩ ⟨i1, i2, i3, i4, i5⟩
  simp only at i1 i2 i3 i4 i5
  show (∃ M', F_X11_meeting_99_66 k (f + 1) M1 x1 x2 x3 x4 x6 x8 (zi g) (zi (r : Nat)) = _ ∧ _) ∨ _
  rw [F_X11_meeting_99_66]
  by_cases q1 : g ≤ r
  · left
    exact ⟨M1, by rw [if_pos (by rw [zi_le (by omega) (by omega)]; omega)]; rfl, i3, i4, fun r' hr' => i5 r' (by omega)⟩
  · right
    refine ⟨g - (r + 1), (sA M1 123 r (zi ((0 : Nat) : Int)), r + 1), by omega, ⟨rfl, by show r + 1 ≤ g; omega, i3, a123_sam i4, fun r' hr' => ?_⟩, ?_⟩
    · have hr2 : r' < r + 1 := hr'
      by_cases q2 : r' = r
      · rw [q2]
        exact rA_at
      · exact (rA_nk q2).trans (i5 r' (by omega))
    · rw [if_neg (by rw [zi_le (by omega) (by omega)]; omega), if_pos (zi_ixT (by omega) (by omega)), zi_natN (by omega), show (1 : Int32) = zi 1 from rfl, zi_add, lt_z, zc (show (r : Int) + 1 = ((r + 1 : Nat) : Int) by omega)]
      rfl
theorem meet90 {M : PM} {C : Cal} {L g : Nat} {k : PM → Int32 → Int32 → Int32 → Int64 → Int64 → Int32 → Option PR} {x3 x8 : Int32} {x4 x6 : Int64} (hc : WFC C) (c : CalM M C) (hL : L < 4096) (hg : 1 ≤ g ∧ g ≤ 24) (h0 : ∀ r, r < g → mA M 123 r = zi ((0 : Nat) : Int)) : ∃ M', F_X11_meeting_99_90 k FUEL M (zi L) (zi (tA C L)) x3 x4 x6 x8 (zi g) (zi ((0 : Nat) : Int)) = F_X11_meeting_99_134 k FUEL M' (zi L) (zi (tA C L)) x3 x4 x6 x8 (zi g) (zi ((0 : Nat) : Int)) ∧ M'.1 = M.1 ∧ Sam M M' ∧ ∀ r, r < g → mA M' 123 r = zi (fb_ct (bq C L g r) (tA C L)) := by
  have hT : tA C L ≤ 100000 := by have := tB_le hc L 0; rw [tB_0] at this; exact this
  refine loopS (σ := PM × Nat) (fun f s => F_X11_meeting_99_90 k f s.1 (zi L) (zi (tA C L)) x3 x4 x6 x8 (zi g) (zi (s.2 : Nat))) (fun o => ∃ M', o = F_X11_meeting_99_134 k FUEL M' (zi L) (zi (tA C L)) x3 x4 x6 x8 (zi g) (zi ((0 : Nat) : Int)) ∧ M'.1 = M.1 ∧ Sam M M' ∧ ∀ r, r < g → mA M' 123 r = zi (fb_ct (bq C L g r) (tA C L))) (fun q s => q = tA C L - s.2 ∧ s.2 ≤ tA C L ∧ s.1.1 = M.1 ∧ Sam M s.1 ∧ ∀ r, r < g → mA s.1 123 r = zi (fb_ct (bq C L g r) s.2)) ?_ (tA C L) (M, 0) FUEL ⟨rfl, Nat.zero_le _, rfl, Sam.rf, fun r hr => h0 r hr⟩ (FUEL_gt (by omega))
  rintro f q ⟨M1, t⟩ ⟨i1, i2, i3, i4, i5⟩
  simp only at i1 i2 i3 i4 i5
  show (∃ M', F_X11_meeting_99_90 k (f + 1) M1 (zi L) (zi (tA C L)) x3 x4 x6 x8 (zi g) (zi (t : Nat)) = _ ∧ _) ∨ _
  rw [F_X11_meeting_99_90]
  by_cases q1 : tA C L ≤ t
  · left
    refine ⟨M1, by rw [if_pos (by rw [zi_le (by omega) (by omega)]; omega)]; rfl, i3, i4, fun r' hr' => ?_⟩
    rw [i5 r' hr', show t = tA C L by omega]
  · right
    have hmod := Nat.mod_lt t hg.1
    have e2 := ob_and (L := L) (t := (t : Int)) hc hL
    have hfre : fre C L 0 (t : Int) = !anL (cN C) (cW C) (cD C) L (t : Int) := by
      unfold fre
      rw [anL_f (n := oN C) (L := 0) (fun l _ => by rw [Nat.zero_testBit, Bool.false_and]), Bool.or_false]
    have hval : ∀ r, r < g → fb_ct (bq C L g r) (t + 1) = fb_ct (bq C L g r) t + (if r = t % g ∧ anL (cN C) (cW C) (cD C) L (t : Int) = true then 1 else 0) := fun r hr => by
      rw [fb_ct_succ]
      unfold bq
      rw [hfre, Bool.not_not]
      have hh : hb g r (t : Int) = decide (r = t % g) := by
        unfold hb
        refine decide_eq_decide.mpr ?_
        rw [← Int.natCast_emod]
        omega
      rw [hh]
      by_cases q2 : r = t % g
      · rw [decide_eq_true q2, Bool.and_true]
        cases h : anL (cN C) (cW C) (cD C) L (t : Int)
        · rw [if_neg (by decide), if_neg (fun h => absurd h.2 (by decide))]
        · rw [if_pos rfl, if_pos ⟨q2, rfl⟩]
      · rw [decide_eq_false q2, Bool.and_false, if_neg (by decide), if_neg (fun h => q2 h.1)]
    have fin : ∀ b : Nat, b = (if anL (cN C) (cW C) (cD C) L (t : Int) = true then 1 else 0) → ∃ q' s', q' < q ∧ (fun q (s : PM × Nat) => q = tA C L - s.2 ∧ s.2 ≤ tA C L ∧ s.1.1 = M.1 ∧ Sam M s.1 ∧ ∀ r, r < g → mA s.1 123 r = zi (fb_ct (bq C L g r) s.2)) q' s' ∧ F_X11_meeting_99_123 k (F_X11_meeting_99_90 k f) M1 (zi L) (zi (tA C L)) x3 x4 x6 x8 (zi g) (zi (t : Nat)) (zi ((t % g : Nat))) (mA M1 123 (t % g)) (zi b) = (fun f (s : PM × Nat) => F_X11_meeting_99_90 k f s.1 (zi L) (zi (tA C L)) x3 x4 x6 x8 (zi g) (zi (s.2 : Nat))) f s' := fun b hb => by
      refine ⟨tA C L - (t + 1), (sA M1 123 (t % g) (mA M1 123 (t % g) + zi b), t + 1), by omega, ⟨rfl, by show t + 1 ≤ tA C L; omega, i3, a123_sam i4, fun r hr => ?_⟩, ?_⟩
      · show (sA M1 123 (t % g) _).2.2.1 123 r = zi (fb_ct (bq C L g r) (t + 1))
        rw [hval r hr]
        by_cases q2 : r = t % g
        · rw [q2, rA_at, i5 (t % g) hmod, zi_add, hb]
          cases anL (cN C) (cW C) (cD C) L (t : Int)
          · rw [if_neg (by decide), if_neg (fun h => absurd h.2 (by decide))]
            rfl
          · rw [if_pos rfl, if_pos ⟨rfl, rfl⟩]
            rfl
        · rw [rA_nk q2, if_neg (fun h => q2 h.1)]
          exact i5 r hr
      · unfold F_X11_meeting_99_123
        rw [if_pos (zi_ixT (by omega) (by omega)), zi_natN (by omega), show (1 : Int32) = zi 1 from rfl, zi_add, lt_z, zc (show (t : Int) + 1 = ((t + 1 : Nat) : Int) by omega)]
    rw [if_neg (by rw [zi_le (by omega) (by omega)]; omega), if_neg (by rw [show (0 : Int32) = zi 0 from rfl, zi_eq (by omega) (by omega)]; omega), zmodN (by omega) (by omega), if_pos (zi_ixT (by omega) (by omega)), bitsAt_s hc (c.sm i4.1) (by omega), cI_s, zi_natN (by omega), show (0 : Int32) = zi 0 from rfl]
    cases h : anL (cN C) (cW C) (cD C) L (t : Int)
    · rw [h] at e2
      rw [if_pos (e2 ▸ rfl)]
      exact fin 0 (by rw [h]; rfl)
    · rw [h] at e2
      rw [if_neg (fun u => by have := e2 ▸ u; exact absurd this (by decide))]
      exact fin 1 (by rw [h]; rfl)
def denM (T : Nat) (s : Nat × Nat × Nat) : Nat := if s.2.1 = 0 then 1 else T * s.2.2
theorem meet134 {M : PM} {C : Cal} {L w : Nat} {s : Nat × Nat × Nat} {k : PM → Int32 → Int32 → Int32 → Int64 → Int64 → Int32 → Option PR} (hc : WFC C) (hw : 2 ≤ w ∧ w ≤ 24) (hs : MS (tA C L) s) (hm : ∀ r, r < Nat.gcd w (tA C L) → mA M 123 r = zi (fb_ct (bq C L (Nat.gcd w (tA C L)) r) (tA C L))) : F_X11_meeting_99_134 k FUEL M (zi L) (zi (tA C L)) (zi s.1) (zj s.2.1) (zj (denM (tA C L) s)) (zi w) (zi (Nat.gcd w (tA C L))) (zi ((0 : Nat) : Int)) = k M (zi L) (zi (tA C L)) (zi (mrow (ptM C L) s w w).1) (zj (mrow (ptM C L) s w w).2.1) (zj (denM (tA C L) (mrow (ptM C L) s w w))) (zi ((w + 1 : Nat))) := by
  have hT : tA C L ≤ 100000 := by have := tB_le hc L 0; rw [tB_0] at this; exact this
  have hT0 : 0 < tA C L := Nat.pos_of_dvd_of_pos (tA_dvd C L _ (Nat.le_refl _)) (t4_pos hc)
  have hg : 0 < Nat.gcd w (tA C L) := Nat.gcd_pos_of_pos_left _ (by omega)
  have hgw : Nat.gcd w (tA C L) ≤ w := Nat.le_of_dvd (by omega) (Nat.gcd_dvd_left _ _)
  have pd : ∀ d, ptM C L w d = fb_ct (bq C L (Nat.gcd w (tA C L)) (d % Nat.gcd w (tA C L))) (tA C L) * Nat.gcd w (tA C L) := fun r => Nat.mul_comm _ _
  have pl : ∀ d, ptM C L w d ≤ tA C L := fun d => ptM_le hw.1
  generalize Nat.gcd w (tA C L) = g at *
  refine loopU w (fun f r => F_X11_meeting_99_134 k f M (zi L) (zi (tA C L)) (zi (mrow (ptM C L) s w r).1) (zj (mrow (ptM C L) s w r).2.1) (zj (denM (tA C L) (mrow (ptM C L) s w r))) (zi w) (zi g) (zi (r : Nat))) _ (fun f => ?_) (fun f r hr => ?_) 0 FUEL (by omega) (FUEL_gt (by omega))
  · rw [F_X11_meeting_99_134, if_pos (by rw [zi_le (by omega) (by omega)]; omega), show (1 : Int32) = zi 1 from rfl, zi_add, lt_z, zc (show (w : Int) + 1 = ((w + 1 : Nat) : Int) by omega)]
  · obtain ⟨b1, b2, b3, b4⟩ := mrow_MS hs pl hw r (by omega)
    have ep := pd r
    have lp := pl r
    have hmod := Nat.mod_lt r hg
    have hle : fb_ct (bq C L g (r % g)) (tA C L) ≤ tA C L := fb_ct_le _ _
    rw [F_X11_meeting_99_134, if_neg (by rw [zi_le (by omega) (by omega)]; omega), if_neg (by rw [show (0 : Int32) = zi 0 from rfl, zi_eq (by omega) (by omega)]; omega), zmodN (by omega) (by omega), if_pos (zi_ixT (by omega) (by omega)), zi_natN (by omega), hm _ hmod]
    show _ = F_X11_meeting_99_134 k f M (zi L) (zi (tA C L)) (zi (mup (ptM C L) (mrow (ptM C L) s w r) w r).1) (zj (mup (ptM C L) (mrow (ptM C L) s w r) w r).2.1) (zj (denM (tA C L) (mup (ptM C L) (mrow (ptM C L) s w r) w r))) (zi w) (zi g) (zi ((r + 1 : Nat)))
    unfold mup
    generalize mrow (ptM C L) s w r = t at *
    rw [zi_j (by omega), zi_j (by omega), zj_mul, ← Int.natCast_mul, ← ep, lt_z, zi_j (by omega), zi_j (by omega), zj_mul, ← Int.natCast_mul, lt_z, zj_mul, zj_mul, ← Int.natCast_mul, ← Int.natCast_mul]
    generalize ptM C L w r = P at *
    unfold F_X11_meeting_99_200
    rw [show (1 : Int32) = zi 1 from rfl, zi_add, lt_z, zc (show (r : Int) + 1 = ((r + 1 : Nat) : Int) by omega), show (100 : Int32) = zi 100 from rfl, zi_mul, zi_add, lt_z, zc (show 100 * (w : Int) + (r : Int) = ((100 * w + r : Nat) : Int) by omega)]
    have d1 : denM (tA C L) t ≤ 100000 * 24 := by
      unfold denM
      split
      · decide
      · exact mm hT b4
    have m1 : P * denM (tA C L) t ≤ 100000 * (100000 * 24) := mm (by omega) d1
    have m2 : t.2.1 * (tA C L * w) ≤ 100000 * (100000 * 24) := mm (by omega) (mm hT hw.2)
    have key : (t.2.1 * (tA C L * w) < P * denM (tA C L) t) ↔ (t.2.1 * w < P * t.2.2) := by
      unfold denM
      by_cases z : t.2.1 = 0
      · rw [if_pos z, z, Nat.zero_mul, Nat.zero_mul, Nat.mul_one]
        constructor
        · intro h
          exact Nat.mul_pos h (by omega)
        · intro h
          exact Nat.pos_of_mul_pos_right h
      · rw [if_neg z, show t.2.1 * (tA C L * w) = tA C L * (t.2.1 * w) by rw [← Nat.mul_assoc, Nat.mul_comm t.2.1, Nat.mul_assoc], show P * (tA C L * t.2.2) = tA C L * (P * t.2.2) by rw [← Nat.mul_assoc, Nat.mul_comm P, Nat.mul_assoc]]
        exact Nat.mul_lt_mul_left hT0
    by_cases q : t.2.1 * w < P * t.2.2
    · have kq := key.mpr q
      generalize P * denM (tA C L) t = A at *
      generalize t.2.1 * (tA C L * w) = B at *
      have hP0 : P ≠ 0 := by
        intro e
        rw [e, Nat.zero_mul] at q
        exact absurd q (Nat.not_lt_zero _)
      rw [cmp_gt (by omega) (by omega) (by omega), if_pos (by decide), if_pos q]
      have ed : denM (tA C L) (100 * w + r, P, w) = tA C L * w := by
        unfold denM
        rw [if_neg hP0]
      rw [ed]
    · have kq : ¬ t.2.1 * (tA C L * w) < P * denM (tA C L) t := fun h => q (key.mp h)
      rw [if_neg q]
      generalize P * denM (tA C L) t = A at *
      generalize t.2.1 * (tA C L * w) = B at *
      rcases Nat.lt_or_eq_of_le (Nat.le_of_not_lt kq) with u | u
      · rw [cmp_lt (by omega) (by omega) (by omega), if_neg (by decide), lt_z]
      · rw [cmp_eq (by omega), if_neg (by decide), lt_z]
theorem meet48 {M : PM} {C : Cal} {L : Nat} (hc : WFC C) (c : CalM M C) (hL : L < 4096) : ∃ M', F_X11_meeting_99_48 FUEL M (zi L) (zi (tA C L)) (zi 200) (zj 0) (zj 1) (zi 2) = rI (zi (mall (ptM C L) 23).1) M' ∧ M'.1 = M.1 ∧ Sam M M' := by
  have hT : tA C L ≤ 100000 := by have := tB_le hc L 0; rw [tB_0] at this; exact this
  have hP : ∀ w d, 2 ≤ w → w ≤ 24 → ptM C L w d ≤ tA C L := fun w d h _ => ptM_le h
  refine loopS (σ := PM × Nat) (fun f s => F_X11_meeting_99_48 f s.1 (zi L) (zi (tA C L)) (zi (mall (ptM C L) s.2).1) (zj (mall (ptM C L) s.2).2.1) (zj (denM (tA C L) (mall (ptM C L) s.2))) (zi ((s.2 + 2 : Nat)))) (fun o => ∃ M', o = rI (zi (mall (ptM C L) 23).1) M' ∧ M'.1 = M.1 ∧ Sam M M') (fun q s => q = 23 - s.2 ∧ s.2 ≤ 23 ∧ s.1.1 = M.1 ∧ Sam M s.1) ?_ 23 (M, 0) FUEL ⟨rfl, by show 0 ≤ 23; decide, rfl, Sam.rf⟩ (FUEL_gt (by omega))
  rintro f q ⟨M1, k⟩ ⟨i1, i2, i3, i4⟩
  simp only at i1 i2 i3 i4
  show (∃ M', F_X11_meeting_99_48 (f + 1) M1 (zi L) (zi (tA C L)) (zi (mall (ptM C L) k).1) (zj (mall (ptM C L) k).2.1) (zj (denM (tA C L) (mall (ptM C L) k))) (zi ((k + 2 : Nat))) = _ ∧ _) ∨ _
  have hms := mall_MS hP k i2
  rw [F_X11_meeting_99_48]
  by_cases q1 : k = 23
  · left
    exact ⟨M1, by rw [if_pos (by rw [show (24 : Int32) = zi 24 from rfl, zi_lt (by omega) (by omega)]; omega), q1], i3, i4⟩
  · right
    have hg : 0 < Nat.gcd (k + 2) (tA C L) := Nat.gcd_pos_of_pos_left _ (by omega)
    have hgw : Nat.gcd (k + 2) (tA C L) ≤ k + 2 := Nat.le_of_dvd (by omega) (Nat.gcd_dvd_left _ _)
    obtain ⟨M2, a1, a2, a3, a4⟩ := meet66 (M := M1) (g := Nat.gcd (k + 2) (tA C L)) (k := F_X11_meeting_99_48 f) (x1 := zi L) (x2 := zi (tA C L)) (x3 := zi (mall (ptM C L) k).1) (x4 := zj (mall (ptM C L) k).2.1) (x6 := zj (denM (tA C L) (mall (ptM C L) k))) (x8 := zi ((k + 2 : Nat))) (by omega)
    obtain ⟨M3, b1, b2, b3, b4⟩ := meet90 (M := M2) (g := Nat.gcd (k + 2) (tA C L)) (k := F_X11_meeting_99_48 f) (x3 := zi (mall (ptM C L) k).1) (x4 := zj (mall (ptM C L) k).2.1) (x6 := zj (denM (tA C L) (mall (ptM C L) k))) (x8 := zi ((k + 2 : Nat))) hc (c.sm (i4.tr a3).1) hL (by omega) a4
    rw [if_neg (by rw [show (24 : Int32) = zi 24 from rfl, zi_lt (by omega) (by omega)]; omega), common_s (by omega) (by omega), cI_s, show (0 : Int32) = zi 0 from rfl, a1, b1, meet134 hc (by omega) hms b4]
    exact ⟨23 - (k + 1), (M3, k + 1), by omega, ⟨rfl, by show k + 1 ≤ 23; omega, b2.trans (a2.trans i3), (i4.tr a3).tr b3⟩, rfl⟩
theorem ok20 : OK_20 Rel := fun M a1 hR => by
  obtain ⟨z, rfl, hz⟩ := zi_rng a1
  have hR2 := hR
  obtain ⟨C, S, W, h1, h2, h3, h4, h5, h6, h7, h8, h9, h10, h11, h12⟩ := hR2
  have hb := h1.1.1
  have hp2 := p2 hb
  have a0 : mA (sI (rf M 2) 99 0 (zi 0)) 103 0 = zi (cN C) := h3.1.1
  unfold c_20 w_meeting
  by_cases h : 0 ≤ z ∧ z < (2 ^ cN C : Nat)
  · obtain ⟨L, rfl, hL⟩ := natOf h
    have bsm : Sam0 M (brM M L 0 (tB C L 0)) := brM_sam.1
    obtain ⟨M1, r1, r2⟩ := most14 (M := brM M L 0 (tB C L 0)) (L := L) h1 (h2.sm bsm) (by omega) rfl rfl rfl
    refine okq1 (x := zi (mall (ptM C L) 23).1) (M1 := M1) hR ?_ (bsm.tr r2) (fun M' hs => ?_)
    · unfold F_X10_meeting_0
      rw [needLaws_t h2.1.1 hb h, bV_s, show (0 : Int32) = zi ((0 : Nat) : Int) from rfl, bar_s h1 h2 (by omega) (by omega), cV_s, r1, cI_s]
    · have c : CalM (sI M' 99 0 (zi 0)) C := h3.sm (hs.tr Sam.th.1)
      obtain ⟨M2, g1, g2, g3⟩ := meet48 (L := L) h1 c (by omega)
      refine ⟨M2, ?_, by rw [mI, g2]; exact th0, Sam.th.tr g3⟩
      unfold F_X11_meeting_99
      rw [show (0 : Int32) = zi 0 from rfl, areLaws_t c.1.1 hb h, cI_s, if_neg (by decide)]
      unfold F_X11_meeting_99_19
      rw [bad_f th0, cI_s, if_pos (show zi 0 = 0 from rfl), turnOf_s h1 c (by omega), cI_s, lt_z, lt_z]
      exact g1
  · refine okr1 (y := zi 0) 2 hR (by decide) ?_ ?_
    · unfold F_X10_meeting_0
      simp (disch := omega) only [lt_z, cI_s, cJ_s, cV_s, bI_s, bI_e, bV_s, bV_e, zl, zi_neg, zi_add, zi_sub, zi_mul, ↓reduceIte, zb0, zb1, bb_and, bb_t, bb_f, zi_ltT, zi_ltF, zi_leT, zi_leF, zi_eqT, zi_eqF, zi_ixT, zi_nat, Int.toNat_natCast, Int.reduceToNat, ltNT, and_self, needLaws_f h2.1.1 hb]
    · unfold F_X11_meeting_99
      rw [show (0 : Int32) = zi 0 from rfl, areLaws_f a0 hb hz h, cI_s, if_pos rfl]
      unfold F_X11_meeting_99_19
      rw [show (1 : Int32) = zi 1 from rfl, show (2 : Int32) = zi 2 from rfl, bad_t th0 (by decide) (by decide), cI_s, if_neg (by decide)]
      rfl
