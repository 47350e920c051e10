/-! work -/
theorem addWork_s {M : PM} {n : Nat} {x y : Int32} (hn : mI M 16 12 = zi n) (h : n < 8) : F_X3_addWork_16 M x y = rI (zi n) (sI (sA (sA M 25 n x) 26 n y) 16 12 (zi (n + 1))) := by
  have e1 : ∀ q k v, mI (sA M q k v) 16 12 = zi n := fun q k v => hn
  have e2 : ∀ q k v q2 k2 v2, mI (sA (sA M q k v) q2 k2 v2) 16 12 = zi n := fun _ _ _ _ _ _ => hn
  unfold F_X3_addWork_16
  simp (disch := omega) only [lt_z, cI_s, cJ_s, cV_s, bI_s, bI_e, bV_s, bV_e, zl, zi_neg, zi_add, zi_sub, zi_mul, ↓reduceIte, zb0, zb1, bb_and, bb_t, bb_f, zi_ltT, zi_ltF, zi_leT, zi_leF, zi_eqT, zi_eqF, zi_ixT, zi_nat, Int.toNat_natCast, Int.reduceToNat, ltNT, and_self, hn, e1, e2]
  rw [mI, rI_at, zi_sub, Int.add_sub_cancel]
theorem addWork_full {M : PM} {n : Nat} {x y : Int32} (hn : mI M 16 12 = zi n) (h : n = 8) : F_X3_addWork_16 M x y = rI (zi (-1)) M := by
  unfold F_X3_addWork_16
  simp (disch := omega) only [lt_z, cI_s, cJ_s, cV_s, bI_s, bI_e, bV_s, bV_e, zl, zi_neg, zi_add, zi_sub, zi_mul, ↓reduceIte, zb0, zb1, bb_and, bb_t, bb_f, zi_ltT, zi_ltF, zi_leT, zi_leF, zi_eqT, zi_eqF, zi_ixT, zi_nat, Int.toNat_natCast, Int.reduceToNat, ltNT, and_self, hn]
theorem ok29 : OK_29 Rel := fun M a1 a2 hR => by
  obtain ⟨x, rfl, hx⟩ := zi_rng a1
  obtain ⟨z, rfl, hz⟩ := zi_rng a2
  have hR2 := hR
  obtain ⟨C, S, W, h1, h2, h3, h4, h5, h6, h7, h8, h9, h10, h11, h12⟩ := hR2
  have hb := h1.1.1
  have hp2 := p2 hb
  unfold c_29 w_work
  have a0 : mA (sI (rf M 2) 99 0 (zi 0)) 103 0 = zi (cN C) := h3.1.1
  by_cases hd : 1 ≤ x ∧ x ≤ 60
  · obtain ⟨d, rfl, hd2⟩ := natOf (z := x) (n := 61) ⟨by omega, by omega⟩
    by_cases hl : 0 ≤ z ∧ z < (2 ^ cN C : Nat)
    · obtain ⟨l, rfl, hl2⟩ := natOf hl
      have hS := h4.2.2.1.2.2
      by_cases hf : kN S = 8
      · refine okq1 (x := zi (-1)) (M1 := M) hR ?_ Sam0.rf (fun M' hs => ⟨sI M' 99 0 (zi 0), ?_, th0, Sam.th⟩)
        · unfold F_X10_work_0 F_X10_work_0_17
          simp (disch := omega) only [lt_z, cI_s, cJ_s, cV_s, bI_s, bI_e, bV_s, bV_e, zl, zi_neg, zi_add, zi_sub, zi_mul, ↓reduceIte, zb0, zb1, bb_and, bb_t, bb_f, zi_ltT, zi_ltF, zi_leT, zi_leF, zi_eqT, zi_eqF, zi_ixT, zi_nat, Int.toNat_natCast, Int.reduceToNat, ltNT, and_self, need_t, needLaws_t h2.1.1 hb, addWork_full h5.2.1.2.2]
        · have c : CalM (sI M' 99 0 (zi 0)) C := h3.sm (hs.tr Sam.th.1)
          have s : StaM (sI M' 99 0 (zi 0)) C S := h6.sm (hs.tr Sam.th.1)
          unfold F_X11_work_99
          simp (disch := omega) only [lt_z, cI_s, cJ_s, cV_s, bI_s, bI_e, bV_s, bV_e, zl, zi_neg, zi_add, zi_sub, zi_mul, ↓reduceIte, zb0, zb1, bb_and, bb_t, bb_f, zi_ltT, zi_ltF, zi_leT, zi_leF, zi_eqT, zi_eqF, zi_ixT, zi_nat, Int.toNat_natCast, Int.reduceToNat, ltNT, and_self, in_t, areLaws_t c.1.1 hb]
          unfold F_X11_work_99_29
          rw [bad_f th0, cI_s]
          simp (disch := omega) only [lt_z, cI_s, cJ_s, cV_s, bI_s, bI_e, bV_s, bV_e, zl, zi_neg, zi_add, zi_sub, zi_mul, ↓reduceIte, zb0, zb1, bb_and, bb_t, bb_f, zi_ltT, zi_ltF, zi_leT, zi_leF, zi_eqT, zi_eqF, zi_ixT, zi_nat, Int.toNat_natCast, Int.reduceToNat, ltNT, and_self, s.2.1.2.2]
      · have hf2 : kN S < 8 := by omega
        have hfC : F_X10_work_0 M (zi d) (zi l) = rI (zi (kN S)) (sI (sA (sA M 25 (kN S) (zi d)) 26 (kN S) (zi l)) 16 12 (zi (kN S + 1))) := by
          unfold F_X10_work_0 F_X10_work_0_17
          simp (disch := omega) only [lt_z, cI_s, cJ_s, cV_s, bI_s, bI_e, bV_s, bV_e, zl, zi_neg, zi_add, zi_sub, zi_mul, ↓reduceIte, zb0, zb1, bb_and, bb_t, bb_f, zi_ltT, zi_ltF, zi_leT, zi_leF, zi_eqT, zi_eqF, zi_ixT, zi_nat, Int.toNat_natCast, Int.reduceToNat, ltNT, and_self, need_t, needLaws_t h2.1.1 hb, addWork_s h5.2.1.2.2]
        generalize hM1 : sI (sA (sA M 25 (kN S) (zi d)) 26 (kN S) (zi l)) 16 12 (zi (kN S + 1)) = M1 at hfC
        generalize hM2 : sB M1 129 0 (zi (kN S)).toInt64 = M2
        have c : CalM (sI M2 99 0 (zi 0)) C := by rw [← hM2, ← hM1]; exact h3
        have s : StaM (sI M2 99 0 (zi 0)) C S := by rw [← hM2, ← hM1]; exact h6
        refine okm1 (M1 := M1) (x := zi (kN S)) (M2 := sI (sG (sG (sI M2 99 0 (zi 0)) 121 (kN S) 0 (zi d)) 121 (kN S) 1 (zi l)) 99 34 (zi (kN S + 1))) hfC ?_ ?_ ?_ ?_
        · rw [hM2]
          generalize hN : sI M2 99 0 (zi 0) = N at c s
          have t0 : mI N 99 0 = zi 0 := hN ▸ th0
          have e1 : ∀ k v, mI (sG N 121 (kN S) k v) 99 34 = zi (kN S) := fun k v => s.2.1.2.2
          have e2 : ∀ k v k2 v2, mI (sG (sG N 121 (kN S) k v) 121 (kN S) k2 v2) 99 34 = zi (kN S) := fun k v k2 v2 => s.2.1.2.2
          unfold F_X11_work_99
          rw [show (0 : Int32) = zi 0 from rfl, hN]
          simp (disch := omega) only [lt_z, cI_s, cJ_s, cV_s, bI_s, bI_e, bV_s, bV_e, zl, zi_neg, zi_add, zi_sub, zi_mul, ↓reduceIte, zb0, zb1, bb_and, bb_t, bb_f, zi_ltT, zi_ltF, zi_leT, zi_leF, zi_eqT, zi_eqF, zi_ixT, zi_nat, Int.toNat_natCast, Int.reduceToNat, ltNT, and_self, in_t, areLaws_t c.1.1 hb]
          unfold F_X11_work_99_29
          rw [bad_f t0, cI_s]
          simp (disch := omega) only [lt_z, cI_s, cJ_s, cV_s, bI_s, bI_e, bV_s, bV_e, zl, zi_neg, zi_add, zi_sub, zi_mul, ↓reduceIte, zb0, zb1, bb_and, bb_t, bb_f, zi_ltT, zi_ltF, zi_leT, zi_leF, zi_eqT, zi_eqF, zi_ixT, zi_nat, Int.toNat_natCast, Int.reduceToNat, ltNT, and_self, s.2.1.2.2, e1, e2]
          rw [mI, rI_at, zi_sub, Int.add_sub_cancel]
        · show (sI (sG (sG (sI M2 99 0 (zi 0)) 121 (kN S) 0 (zi d)) 121 (kN S) 1 (zi l)) 99 34 (zi (kN S + 1))).1 99 0 = zi 0
          rw [rI_nk (by decide)]
          show (sI M2 99 0 (zi 0)).1 99 0 = zi 0
          exact rI_at
        · rw [hM2]; rfl
        · subst hM2 hM1
          refine Rel_st (S := S) (S' := (aS S, S.2.1, S.2.2.1, (kN S + 1, fun i => if i = kN S then d else kD S i, fun i => if i = kN S then l else kL S i))) h1 h2 h3 h7 h8 h9 h10 h11 h12 ?_ ?_ ?_ (fun p hp q1 q2 => ?_) (fun q hq => ?_) (fun q hq => u1_ne (fun e => by rw [e] at hq; exact absurd hq (by decide))) (fun q i hq => ?_)
          · refine ⟨h4.1, h4.2.1, ⟨h4.2.2.1.1, h4.2.2.1.2.1, hf2⟩, h4.2.2.2.1, h4.2.2.2.2.1, fun i hi => ?_⟩
            show (1 ≤ (if i = kN S then d else kD S i) ∧ (if i = kN S then d else kD S i) ≤ 60) ∧ (if i = kN S then l else kL S i) < 2 ^ cN C
            by_cases e : i = kN S
            · rw [if_pos e, if_pos e]; omega
            · rw [if_neg e, if_neg e]
              have hi2 : i < kN S + 1 := hi
              exact h4.2.2.2.2.2 i (by omega)
          · refine ⟨h5.1, ⟨h5.2.1.1, h5.2.1.2.1, rfl⟩, h5.2.2.1, h5.2.2.2.1, fun i hi => ?_⟩
            show (sA M 25 (kN S) (zi d)).2.2.1 25 i = zi ((if i = kN S then d else kD S i : Nat)) ∧ (sA M 26 (kN S) (zi l)).2.2.1 26 i = zi ((if i = kN S then l else kL S i : Nat))
            by_cases e : i = kN S
            · subst e
              rw [rA_at, rA_at, if_pos rfl, if_pos rfl]
              exact ⟨rfl, rfl⟩
            · have hi2 : i < kN S + 1 := hi
              rw [rA_nk e, rA_nk e, if_neg e, if_neg e]
              exact h5.2.2.2.2 i (by omega)
          · generalize hN : sI (sB (sI (sA (sA M 25 (kN S) (zi d)) 26 (kN S) (zi l)) 16 12 (zi (kN S + 1))) 129 0 (zi (kN S)).toInt64) 99 0 (zi 0) = N at s
            have eG : ∀ q j, q ≠ 121 → mG (sI (sG (sG N 121 (kN S) 0 (zi d)) 121 (kN S) 1 (zi l)) 99 34 (zi (kN S + 1))) q j = mG N q j := fun q j hq => (rG_ne hq).trans (rG_ne hq)
            refine ⟨fun a b ha hb2 => by rw [eG 115 a (by decide)]; exact s.1 a b ha hb2, ⟨s.2.1.1, s.2.1.2.1, rI_at⟩, fun i hi => by rw [eG 119 i (by decide)]; exact s.2.2.1 i hi, fun i hi => by rw [eG 120 i (by decide)]; exact s.2.2.2.1 i hi, fun i hi => ?_⟩
            show (sG (sG N 121 (kN S) 0 (zi d)) 121 (kN S) 1 (zi l)).2.2.2.2 121 i 0 = zi ((if i = kN S then d else kD S i : Nat)) ∧ (sG (sG N 121 (kN S) 0 (zi d)) 121 (kN S) 1 (zi l)).2.2.2.2 121 i 1 = zi ((if i = kN S then l else kL S i : Nat))
            by_cases e : i = kN S
            · subst e
              rw [if_pos rfl, if_pos rfl, rG_at]
              refine ⟨?_, rfl⟩
              rw [rG_nk (by decide), rG_at]
            · have hi2 : i < kN S + 1 := hi
              rw [if_neg e, if_neg e, rG_nr e, rG_nr e]
              exact s.2.2.2.2 i (by omega)
          · exact (u2_ne (nst hp q1 q2 (by decide))).trans ((u2_ne (nst hp q1 q2 (by decide))).trans (u2_ne (nst hp q1 q2 (by decide))))
          · exact (u1_ne (by omega)).trans (u1_ne (by omega))
          · exact (rG_ne (by omega)).trans (rG_ne (by omega))
    · refine okr1 (y := zi 0) 2 hR (by decide) ?_ ?_
      · unfold F_X10_work_0 F_X10_work_0_17
        simp (disch := omega) only [lt_z, cI_s, cJ_s, cV_s, bI_s, bI_e, bV_s, bV_e, zl, zi_neg, zi_add, zi_sub, zi_mul, ↓reduceIte, zb0, zb1, bb_and, bb_t, bb_f, zi_ltT, zi_ltF, zi_leT, zi_leF, zi_eqT, zi_eqF, zi_ixT, zi_nat, Int.toNat_natCast, Int.reduceToNat, ltNT, and_self, need_t, needLaws_f h2.1.1 hb]
      · unfold F_X11_work_99
        simp (disch := omega) only [lt_z, cI_s, cJ_s, cV_s, bI_s, bI_e, bV_s, bV_e, zl, zi_neg, zi_add, zi_sub, zi_mul, ↓reduceIte, zb0, zb1, bb_and, bb_t, bb_f, zi_ltT, zi_ltF, zi_leT, zi_leF, zi_eqT, zi_eqF, zi_ixT, zi_nat, Int.toNat_natCast, Int.reduceToNat, ltNT, and_self, in_t, areLaws_f a0 hb]
        unfold F_X11_work_99_24 F_X11_work_99_29
        rw [show (1 : Int32) = zi 1 from rfl, show (2 : Int32) = zi 2 from rfl, bad_t th0 (by decide) (by decide), cI_s]
        simp (disch := omega) only [lt_z, cI_s, cJ_s, cV_s, bI_s, bI_e, bV_s, bV_e, zl, zi_neg, zi_add, zi_sub, zi_mul, ↓reduceIte, zb0, zb1, bb_and, bb_t, bb_f, zi_ltT, zi_ltF, zi_leT, zi_leF, zi_eqT, zi_eqF, zi_ixT, zi_nat, Int.toNat_natCast, Int.reduceToNat, ltNT, and_self]
        rfl
  · refine okr1 (y := zi 0) 2 hR (by decide) ?_ ?_
    · unfold F_X10_work_0 F_X10_work_0_16 F_X10_work_0_17
      by_cases q : x < 1
      · simp (disch := omega) only [lt_z, cI_s, cJ_s, cV_s, bI_s, bI_e, bV_s, bV_e, zl, zi_neg, zi_add, zi_sub, zi_mul, ↓reduceIte, zb0, zb1, bb_and, bb_t, bb_f, zi_ltT, zi_ltF, zi_leT, zi_leF, zi_eqT, zi_eqF, zi_ixT, zi_nat, Int.toNat_natCast, Int.reduceToNat, ltNT, and_self, need_f]
      · simp (disch := omega) only [lt_z, cI_s, cJ_s, cV_s, bI_s, bI_e, bV_s, bV_e, zl, zi_neg, zi_add, zi_sub, zi_mul, ↓reduceIte, zb0, zb1, bb_and, bb_t, bb_f, zi_ltT, zi_ltF, zi_leT, zi_leF, zi_eqT, zi_eqF, zi_ixT, zi_nat, Int.toNat_natCast, Int.reduceToNat, ltNT, and_self, need_f]
    · unfold F_X11_work_99
      simp (disch := omega) only [lt_z, cI_s, cJ_s, cV_s, bI_s, bI_e, bV_s, bV_e, zl, zi_neg, zi_add, zi_sub, zi_mul, ↓reduceIte, zb0, zb1, bb_and, bb_t, bb_f, zi_ltT, zi_ltF, zi_leT, zi_leF, zi_eqT, zi_eqF, zi_ixT, zi_nat, Int.toNat_natCast, Int.reduceToNat, ltNT, and_self, in_f]
      unfold F_X11_work_99_24 F_X11_work_99_29
      rw [show (1 : Int32) = zi 1 from rfl, show (2 : Int32) = zi 2 from rfl, bad_t th0 (by decide) (by decide), cI_s]
      simp (disch := omega) only [lt_z, cI_s, cJ_s, cV_s, bI_s, bI_e, bV_s, bV_e, zl, zi_neg, zi_add, zi_sub, zi_mul, ↓reduceIte, zb0, zb1, bb_and, bb_t, bb_f, zi_ltT, zi_ltF, zi_leT, zi_leF, zi_eqT, zi_eqF, zi_ixT, zi_nat, Int.toNat_natCast, Int.reduceToNat, ltNT, and_self]
      rfl
