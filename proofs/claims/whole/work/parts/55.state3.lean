/-! did, work -/
theorem addDeed_s {M : PM} {n : Nat} {x y z : Int32} {b : Bool} (hn : mI M 16 9 = zi n) (h : n < 20) : F_X3_addDeed_16 M x y z (bb b) = rI (zi (n + 1)) (sI (sA (sA (sA (sA M 21 n x) 22 n y) 23 n z) 24 n (bb b)) 16 9 (zi (n + 1))) := by
  have e1 : ∀ q k v, mI (sA M q k v) 16 9 = zi n := fun q k v => hn
  have e2 : ∀ q k v q2 k2 v2, mI (sA (sA M q k v) q2 k2 v2) 16 9 = zi n := fun _ _ _ _ _ _ => hn
  have e3 : ∀ q k v q2 k2 v2 q3 k3 v3, mI (sA (sA (sA M q k v) q2 k2 v2) q3 k3 v3) 16 9 = zi n := fun _ _ _ _ _ _ _ _ _ => hn
  have e4 : ∀ q k v q2 k2 v2 q3 k3 v3 q4 k4 v4, mI (sA (sA (sA (sA M q k v) q2 k2 v2) q3 k3 v3) q4 k4 v4) 16 9 = zi n := fun _ _ _ _ _ _ _ _ _ _ _ _ => hn
  unfold F_X3_addDeed_16
  simp (disch := omega) only [lt_z, cI_s, cJ_s, cV_s, bI_s, bI_e, bV_s, bV_e, zl, zi_neg, zi_add, zi_sub, zi_mul, ↓reduceIte, zb0, zb1, bb_and, bb_t, bb_f, zi_ltT, zi_ltF, zi_leT, zi_leF, zi_eqT, zi_eqF, zi_ixT, zi_nat, Int.toNat_natCast, Int.reduceToNat, ltNT, and_self, hn, e1, e2, e3, e4]
  rw [mI, rI_at]
theorem addDeed_full {M : PM} {n : Nat} {x y z b : Int32} (hn : mI M 16 9 = zi n) (h : n = 20) : F_X3_addDeed_16 M x y z b = rI (zi (-1)) M := by
  unfold F_X3_addDeed_16
  simp (disch := omega) only [lt_z, cI_s, cJ_s, cV_s, bI_s, bI_e, bV_s, bV_e, zl, zi_neg, zi_add, zi_sub, zi_mul, ↓reduceIte, zb0, zb1, bb_and, bb_t, bb_f, zi_ltT, zi_ltF, zi_leT, zi_leF, zi_eqT, zi_eqF, zi_ixT, zi_nat, Int.toNat_natCast, Int.reduceToNat, ltNT, and_self, hn]
theorem ok25 : OK_25 Rel := fun M a1 a2 a3 a4 hR => by
  obtain ⟨x, rfl, hx⟩ := zi_rng a1
  obtain ⟨z, rfl, hz⟩ := zi_rng a2
  obtain ⟨y, rfl, hy⟩ := zi_rng a3
  have hR2 := hR
  obtain ⟨C, S, W, h1, h2, h3, h4, h5, h6, h7, h8, h9, h10, h11, h12⟩ := hR2
  have hb := h1.1.1
  have hH := h1.1.2.2.1
  unfold c_25 w_did
  rw [bz_bb]
  generalize (!decide (a4 = 0)) = bo
  by_cases hd : 0 ≤ y ∧ y ≤ 999999999
  · obtain ⟨d, rfl, hd2⟩ := natOf (z := y) (n := 1000000000) ⟨hd.1, by omega⟩
    by_cases hh : 0 ≤ x ∧ x < cH C
    · obtain ⟨h, rfl, hh2⟩ := natOf hh
      by_cases hl : 0 ≤ z ∧ z < cN C
      · obtain ⟨l, rfl, hl2⟩ := natOf hl
        have hS := h4.2.2.1.2.1
        have t1 := turnsOn_s (d := (d : Int)) h1 h2.2.2.2.1.2.1 h2.2.2.2.2 (by omega)
        by_cases hf : dN S = 20
        · refine okq2 (x := zi (-1)) (M1 := M) hR ?_ Sam0.rf (fun M' hs => ⟨sI M' 99 0 (zi 0), ?_, th0, Sam.th⟩)
          · unfold F_X10_did_0
            simp (disch := omega) only [lt_z, cI_s, cJ_s, cV_s, bI_s, bI_e, bV_s, bV_e, zl, zi_neg, zi_add, zi_sub, zi_mul, ↓reduceIte, zb0, zb1, bb_and, bb_t, bb_f, zi_ltT, zi_ltF, zi_leT, zi_leF, zi_eqT, zi_eqF, zi_ixT, zi_nat, Int.toNat_natCast, Int.reduceToNat, ltNT, and_self, needDay_t, needHouse_t h2.2.2.2.1.1, needLaw_t h2.1.1 hb, t1, addDeed_full h5.2.1.2.1]
          · have c : CalM (sI M' 99 0 (zi 0)) C := h3.sm (hs.tr Sam.th.1)
            have s : StaM (sI M' 99 0 (zi 0)) C S := h6.sm (hs.tr Sam.th.1)
            unfold F_X11_did_99
            simp (disch := omega) only [lt_z, cI_s, cJ_s, cV_s, bI_s, bI_e, bV_s, bV_e, zl, zi_neg, zi_add, zi_sub, zi_mul, ↓reduceIte, zb0, zb1, bb_and, bb_t, bb_f, zi_ltT, zi_ltF, zi_leT, zi_leF, zi_eqT, zi_eqF, zi_ixT, zi_nat, Int.toNat_natCast, Int.reduceToNat, ltNT, and_self, isDay_t]
            unfold F_X11_did_99_18
            simp (disch := omega) only [lt_z, cI_s, cJ_s, cV_s, bI_s, bI_e, bV_s, bV_e, zl, zi_neg, zi_add, zi_sub, zi_mul, ↓reduceIte, zb0, zb1, bb_and, bb_t, bb_f, zi_ltT, zi_ltF, zi_leT, zi_leF, zi_eqT, zi_eqF, zi_ixT, zi_nat, Int.toNat_natCast, Int.reduceToNat, ltNT, and_self, bad_f th0, isHouseM_t c.1.2.2.1, isLawM_t c.1.1 hb]
            unfold F_X11_did_99_48
            rw [bad_f th0, cI_s]
            simp (disch := omega) only [lt_z, cI_s, cJ_s, cV_s, bI_s, bI_e, bV_s, bV_e, zl, zi_neg, zi_add, zi_sub, zi_mul, ↓reduceIte, zb0, zb1, bb_and, bb_t, bb_f, zi_ltT, zi_ltF, zi_leT, zi_leF, zi_eqT, zi_eqF, zi_ixT, zi_nat, Int.toNat_natCast, Int.reduceToNat, ltNT, and_self, s.2.1.2.1]
        · have hf2 : dN S < 20 := by omega
          have hfC : F_X10_did_0 M (zi h) (zi l) (zi d) (bb bo) = rI (zi (dN S + 1)) (sI (sA (sA (sA (sA M 21 (dN S) (zi h)) 22 (dN S) (zi l)) 23 (dN S) (zi (tO C d))) 24 (dN S) (bb bo)) 16 9 (zi (dN S + 1))) := by
            unfold F_X10_did_0
            simp (disch := omega) only [lt_z, cI_s, cJ_s, cV_s, bI_s, bI_e, bV_s, bV_e, zl, zi_neg, zi_add, zi_sub, zi_mul, ↓reduceIte, zb0, zb1, bb_and, bb_t, bb_f, zi_ltT, zi_ltF, zi_leT, zi_leF, zi_eqT, zi_eqF, zi_ixT, zi_nat, Int.toNat_natCast, Int.reduceToNat, ltNT, and_self, needDay_t, needHouse_t h2.2.2.2.1.1, needLaw_t h2.1.1 hb, t1, addDeed_s h5.2.1.2.1]
          generalize hM1 : sI (sA (sA (sA (sA M 21 (dN S) (zi h)) 22 (dN S) (zi l)) 23 (dN S) (zi (tO C d))) 24 (dN S) (bb bo)) 16 9 (zi (dN S + 1)) = M1 at hfC
          generalize hM2 : sB M1 129 0 (zi ((dN S : Int) + 1)).toInt64 = M2
          have c : CalM (sI M2 99 0 (zi 0)) C := by rw [← hM2, ← hM1]; exact h3
          have s : StaM (sI M2 99 0 (zi 0)) C S := by rw [← hM2, ← hM1]; exact h6
          refine okm2 (M1 := M1) (x := zi ((dN S : Int) + 1)) (M2 := sI (sG (sG (sG (sG (sI M2 99 0 (zi 0)) 120 (dN S) 0 (zi h)) 120 (dN S) 1 (zi l)) 120 (dN S) 2 (zi d)) 120 (dN S) 3 (bb bo)) 99 33 (zi (dN S + 1))) hfC ?_ ?_ ?_ ?_
          · rw [hM2]
            generalize hN : sI M2 99 0 (zi 0) = N at c s
            have t0 : mI N 99 0 = zi 0 := hN ▸ th0
            have e1 : ∀ k v, mI (sG N 120 (dN S) k v) 99 33 = zi (dN S) := fun k v => s.2.1.2.1
            have e2 : ∀ k v k2 v2, mI (sG (sG N 120 (dN S) k v) 120 (dN S) k2 v2) 99 33 = zi (dN S) := fun k v k2 v2 => s.2.1.2.1
            have e3 : ∀ k v k2 v2 k3 v3, mI (sG (sG (sG N 120 (dN S) k v) 120 (dN S) k2 v2) 120 (dN S) k3 v3) 99 33 = zi (dN S) := fun k v k2 v2 k3 v3 => s.2.1.2.1
            have e4 : ∀ k v k2 v2 k3 v3 k4 v4, mI (sG (sG (sG (sG N 120 (dN S) k v) 120 (dN S) k2 v2) 120 (dN S) k3 v3) 120 (dN S) k4 v4) 99 33 = zi (dN S) := fun k v k2 v2 k3 v3 k4 v4 => s.2.1.2.1
            unfold F_X11_did_99
            rw [show (0 : Int32) = zi 0 from rfl, hN]
            simp (disch := omega) only [lt_z, cI_s, cJ_s, cV_s, bI_s, bI_e, bV_s, bV_e, zl, zi_neg, zi_add, zi_sub, zi_mul, ↓reduceIte, zb0, zb1, bb_and, bb_t, bb_f, zi_ltT, zi_ltF, zi_leT, zi_leF, zi_eqT, zi_eqF, zi_ixT, zi_nat, Int.toNat_natCast, Int.reduceToNat, ltNT, and_self, isDay_t]
            unfold F_X11_did_99_18
            simp (disch := omega) only [lt_z, cI_s, cJ_s, cV_s, bI_s, bI_e, bV_s, bV_e, zl, zi_neg, zi_add, zi_sub, zi_mul, ↓reduceIte, zb0, zb1, bb_and, bb_t, bb_f, zi_ltT, zi_ltF, zi_leT, zi_leF, zi_eqT, zi_eqF, zi_ixT, zi_nat, Int.toNat_natCast, Int.reduceToNat, ltNT, and_self, bad_f t0, isHouseM_t c.1.2.2.1, isLawM_t c.1.1 hb]
            unfold F_X11_did_99_48
            rw [bad_f t0, cI_s]
            cases bo <;> (simp (disch := omega) only [lt_z, cI_s, cJ_s, cV_s, bI_s, bI_e, bV_s, bV_e, zl, zi_neg, zi_add, zi_sub, zi_mul, ↓reduceIte, zb0, zb1, bb_and, bb_t, bb_f, zi_ltT, zi_ltF, zi_leT, zi_leF, zi_eqT, zi_eqF, zi_ixT, zi_nat, Int.toNat_natCast, Int.reduceToNat, ltNT, and_self, s.2.1.2.1, e1, e2, e3, e4]; unfold F_X11_did_99_125; simp (disch := omega) only [lt_z, cI_s, cJ_s, cV_s, bI_s, bI_e, bV_s, bV_e, zl, zi_neg, zi_add, zi_sub, zi_mul, ↓reduceIte, zb0, zb1, bb_and, bb_t, bb_f, zi_ltT, zi_ltF, zi_leT, zi_leF, zi_eqT, zi_eqF, zi_ixT, zi_nat, Int.toNat_natCast, Int.reduceToNat, ltNT, and_self, s.2.1.2.1, e1, e2, e3, e4]; rw [mI, rI_at])
          · show (sI (sG (sG (sG (sG (sI M2 99 0 (zi 0)) 120 (dN S) 0 (zi h)) 120 (dN S) 1 (zi l)) 120 (dN S) 2 (zi d)) 120 (dN S) 3 (bb bo)) 99 33 (zi (dN S + 1))).1 99 0 = zi 0
            rw [rI_nk (by decide)]
            show (sI M2 99 0 (zi 0)).1 99 0 = zi 0
            exact rI_at
          · rw [hM2]; rfl
          · subst hM2 hM1
            refine Rel_st (S := S) (S' := (aS S, S.2.1, (dN S + 1, fun i => if i = dN S then h else dH S i, fun i => if i = dN S then l else dL S i, fun i => if i = dN S then d else dD S i, fun i => if i = dN S then bo else dB S i), S.2.2.2)) h1 h2 h3 h7 h8 h9 h10 h11 h12 ?_ ?_ ?_ (fun p hp q1 q2 => ?_) (fun q hq => ?_) (fun q hq => u1_ne (fun e => by rw [e] at hq; exact absurd hq (by decide))) (fun q i hq => ?_)
            · refine ⟨h4.1, h4.2.1, ⟨h4.2.2.1.1, hf2, h4.2.2.1.2.2⟩, h4.2.2.2.1, fun i hi => ?_, h4.2.2.2.2.2⟩
              show (if i = dN S then h else dH S i) < cH C ∧ (if i = dN S then l else dL S i) < cN C ∧ (if i = dN S then d else dD S i) ≤ 999999999
              by_cases e : i = dN S
              · rw [if_pos e, if_pos e, if_pos e]; omega
              · rw [if_neg e, if_neg e, if_neg e]
                have hi2 : i < dN S + 1 := hi
                exact h4.2.2.2.2.1 i (by omega)
            · refine ⟨h5.1, ⟨h5.2.1.1, rfl, h5.2.1.2.2⟩, h5.2.2.1, fun i hi => ?_, h5.2.2.2.2⟩
              show (sA M 21 (dN S) (zi h)).2.2.1 21 i = zi ((if i = dN S then h else dH S i : Nat)) ∧ (sA M 22 (dN S) (zi l)).2.2.1 22 i = zi ((if i = dN S then l else dL S i : Nat)) ∧ (sA M 23 (dN S) (zi (tO C d))).2.2.1 23 i = zi (tO C ((if i = dN S then d else dD S i : Nat))) ∧ (sA M 24 (dN S) (bb bo)).2.2.1 24 i = bb (if i = dN S then bo else dB S i)
              by_cases e : i = dN S
              · subst e
                rw [rA_at, rA_at, rA_at, rA_at, if_pos rfl, if_pos rfl, if_pos rfl, if_pos rfl]
                exact ⟨rfl, rfl, rfl, rfl⟩
              · have hi2 : i < dN S + 1 := hi
                rw [rA_nk e, rA_nk e, rA_nk e, rA_nk e, if_neg e, if_neg e, if_neg e, if_neg e]
                exact h5.2.2.2.1 i (by omega)
            · generalize hN : sI (sB (sI (sA (sA (sA (sA M 21 (dN S) (zi h)) 22 (dN S) (zi l)) 23 (dN S) (zi (tO C d))) 24 (dN S) (bb bo)) 16 9 (zi (dN S + 1))) 129 0 (zi ((dN S : Int) + 1)).toInt64) 99 0 (zi 0) = N at s
              have eG : ∀ q j, q ≠ 120 → mG (sI (sG (sG (sG (sG N 120 (dN S) 0 (zi h)) 120 (dN S) 1 (zi l)) 120 (dN S) 2 (zi d)) 120 (dN S) 3 (bb bo)) 99 33 (zi (dN S + 1))) q j = mG N q j := fun q j hq => (rG_ne hq).trans ((rG_ne hq).trans ((rG_ne hq).trans (rG_ne hq)))
              refine ⟨fun a b ha hb2 => by rw [eG 115 a (by decide)]; exact s.1 a b ha hb2, ⟨s.2.1.1, rI_at, s.2.1.2.2⟩, fun i hi => by rw [eG 119 i (by decide)]; exact s.2.2.1 i hi, fun i hi => ?_, fun i hi => by rw [eG 121 i (by decide)]; exact s.2.2.2.2 i hi⟩
              show (sG (sG (sG (sG N 120 (dN S) 0 (zi h)) 120 (dN S) 1 (zi l)) 120 (dN S) 2 (zi d)) 120 (dN S) 3 (bb bo)).2.2.2.2 120 i 0 = zi ((if i = dN S then h else dH S i : Nat)) ∧ (sG (sG (sG (sG N 120 (dN S) 0 (zi h)) 120 (dN S) 1 (zi l)) 120 (dN S) 2 (zi d)) 120 (dN S) 3 (bb bo)).2.2.2.2 120 i 1 = zi ((if i = dN S then l else dL S i : Nat)) ∧ (sG (sG (sG (sG N 120 (dN S) 0 (zi h)) 120 (dN S) 1 (zi l)) 120 (dN S) 2 (zi d)) 120 (dN S) 3 (bb bo)).2.2.2.2 120 i 2 = zi ((if i = dN S then d else dD S i : Nat)) ∧ (sG (sG (sG (sG N 120 (dN S) 0 (zi h)) 120 (dN S) 1 (zi l)) 120 (dN S) 2 (zi d)) 120 (dN S) 3 (bb bo)).2.2.2.2 120 i 3 = bb (if i = dN S then bo else dB S i)
              by_cases e : i = dN S
              · subst e
                rw [if_pos rfl, if_pos rfl, if_pos rfl, if_pos rfl, rG_at]
                refine ⟨?_, ?_, ?_, rfl⟩
                · rw [rG_nk (by decide), rG_nk (by decide), rG_nk (by decide), rG_at]
                · rw [rG_nk (by decide), rG_nk (by decide), rG_at]
                · rw [rG_nk (by decide), rG_at]
              · have hi2 : i < dN S + 1 := hi
                rw [if_neg e, if_neg e, if_neg e, if_neg e, rG_nr e, rG_nr e, rG_nr e, rG_nr e]
                exact s.2.2.2.1 i (by omega)
            · exact (u2_ne (nst hp q1 q2 (by decide))).trans ((u2_ne (nst hp q1 q2 (by decide))).trans (u2_ne (nst hp q1 q2 (by decide))))
            · exact (u1_ne (by omega)).trans ((u1_ne (by omega)).trans ((u1_ne (by omega)).trans (u1_ne (by omega))))
            · exact (rG_ne (by omega)).trans ((rG_ne (by omega)).trans ((rG_ne (by omega)).trans (rG_ne (by omega))))
      · refine okr3 (y := zi 0) 1 hR (by decide) (by decide) ?_ ?_
        · unfold F_X10_did_0
          simp (disch := omega) only [lt_z, cI_s, cJ_s, cV_s, bI_s, bI_e, bV_s, bV_e, zl, zi_neg, zi_add, zi_sub, zi_mul, ↓reduceIte, zb0, zb1, bb_and, bb_t, bb_f, zi_ltT, zi_ltF, zi_leT, zi_leF, zi_eqT, zi_eqF, zi_ixT, zi_nat, Int.toNat_natCast, Int.reduceToNat, ltNT, and_self, needDay_t, needHouse_t h2.2.2.2.1.1, needLaw_f h2.1.1 hb]
        · have a0 : mA (sI (rf M 1) 99 0 (zi 0)) 103 0 = zi (cN C) := h3.1.1
          have a2 : mA (sI (rf M 1) 99 0 (zi 0)) 103 2 = zi (cH C) := h3.1.2.2.1
          unfold F_X11_did_99
          simp (disch := omega) only [lt_z, cI_s, cJ_s, cV_s, bI_s, bI_e, bV_s, bV_e, zl, zi_neg, zi_add, zi_sub, zi_mul, ↓reduceIte, zb0, zb1, bb_and, bb_t, bb_f, zi_ltT, zi_ltF, zi_leT, zi_leF, zi_eqT, zi_eqF, zi_ixT, zi_nat, Int.toNat_natCast, Int.reduceToNat, ltNT, and_self, isDay_t]
          unfold F_X11_did_99_18
          simp (disch := omega) only [lt_z, cI_s, cJ_s, cV_s, bI_s, bI_e, bV_s, bV_e, zl, zi_neg, zi_add, zi_sub, zi_mul, ↓reduceIte, zb0, zb1, bb_and, bb_t, bb_f, zi_ltT, zi_ltF, zi_leT, zi_leF, zi_eqT, zi_eqF, zi_ixT, zi_nat, Int.toNat_natCast, Int.reduceToNat, ltNT, and_self, bad_f th0, isHouseM_t a2, isLawM_f a0 hb]
          unfold F_X11_did_99_43 F_X11_did_99_48
          rw [show (1 : Int32) = zi 1 from rfl, show (2 : Int32) = zi 2 from rfl, bad_t th0 (by decide) (by decide), cI_s]
          simp (disch := omega) only [lt_z, cI_s, cJ_s, cV_s, bI_s, bI_e, bV_s, bV_e, zl, zi_neg, zi_add, zi_sub, zi_mul, ↓reduceIte, zb0, zb1, bb_and, bb_t, bb_f, zi_ltT, zi_ltF, zi_leT, zi_leF, zi_eqT, zi_eqF, zi_ixT, zi_nat, Int.toNat_natCast, Int.reduceToNat, ltNT, and_self]
          rfl
    · refine okr3 (y := zi 0) 1 hR (by decide) (by decide) ?_ ?_
      · unfold F_X10_did_0
        simp (disch := omega) only [lt_z, cI_s, cJ_s, cV_s, bI_s, bI_e, bV_s, bV_e, zl, zi_neg, zi_add, zi_sub, zi_mul, ↓reduceIte, zb0, zb1, bb_and, bb_t, bb_f, zi_ltT, zi_ltF, zi_leT, zi_leF, zi_eqT, zi_eqF, zi_ixT, zi_nat, Int.toNat_natCast, Int.reduceToNat, ltNT, and_self, needDay_t, needHouse_f h2.2.2.2.1.1]
      · have a2 : mA (sI (rf M 1) 99 0 (zi 0)) 103 2 = zi (cH C) := h3.1.2.2.1
        unfold F_X11_did_99
        simp (disch := omega) only [lt_z, cI_s, cJ_s, cV_s, bI_s, bI_e, bV_s, bV_e, zl, zi_neg, zi_add, zi_sub, zi_mul, ↓reduceIte, zb0, zb1, bb_and, bb_t, bb_f, zi_ltT, zi_ltF, zi_leT, zi_leF, zi_eqT, zi_eqF, zi_ixT, zi_nat, Int.toNat_natCast, Int.reduceToNat, ltNT, and_self, isDay_t]
        unfold F_X11_did_99_18
        simp (disch := omega) only [lt_z, cI_s, cJ_s, cV_s, bI_s, bI_e, bV_s, bV_e, zl, zi_neg, zi_add, zi_sub, zi_mul, ↓reduceIte, zb0, zb1, bb_and, bb_t, bb_f, zi_ltT, zi_ltF, zi_leT, zi_leF, zi_eqT, zi_eqF, zi_ixT, zi_nat, Int.toNat_natCast, Int.reduceToNat, ltNT, and_self, bad_f th0, isHouseM_f a2]
        unfold F_X11_did_99_43 F_X11_did_99_48
        rw [show (1 : Int32) = zi 1 from rfl, show (2 : Int32) = zi 2 from rfl, bad_t th0 (by decide) (by decide), cI_s]
        simp (disch := omega) only [lt_z, cI_s, cJ_s, cV_s, bI_s, bI_e, bV_s, bV_e, zl, zi_neg, zi_add, zi_sub, zi_mul, ↓reduceIte, zb0, zb1, bb_and, bb_t, bb_f, zi_ltT, zi_ltF, zi_leT, zi_leF, zi_eqT, zi_eqF, zi_ixT, zi_nat, Int.toNat_natCast, Int.reduceToNat, ltNT, and_self]
        rfl
  · refine okr2 (y := zi 0) 0 hR (by decide) ?_ ?_
    · unfold F_X10_did_0
      simp (disch := omega) only [lt_z, cI_s, cJ_s, cV_s, bI_s, bI_e, bV_s, bV_e, zl, zi_neg, zi_add, zi_sub, zi_mul, ↓reduceIte, zb0, zb1, bb_and, bb_t, bb_f, zi_ltT, zi_ltF, zi_leT, zi_leF, zi_eqT, zi_eqF, zi_ixT, zi_nat, Int.toNat_natCast, Int.reduceToNat, ltNT, and_self, needDay_f]
    · unfold F_X11_did_99
      simp (disch := omega) only [lt_z, cI_s, cJ_s, cV_s, bI_s, bI_e, bV_s, bV_e, zl, zi_neg, zi_add, zi_sub, zi_mul, ↓reduceIte, zb0, zb1, bb_and, bb_t, bb_f, zi_ltT, zi_ltF, zi_leT, zi_leF, zi_eqT, zi_eqF, zi_ixT, zi_nat, Int.toNat_natCast, Int.reduceToNat, ltNT, and_self, isDay_f]
      unfold F_X11_did_99_18
      simp (disch := omega) only [lt_z, cI_s, cJ_s, cV_s, bI_s, bI_e, bV_s, bV_e, zl, zi_neg, zi_add, zi_sub, zi_mul, ↓reduceIte, zb0, zb1, bb_and, bb_t, bb_f, zi_ltT, zi_ltF, zi_leT, zi_leF, zi_eqT, zi_eqF, zi_ixT, zi_nat, Int.toNat_natCast, Int.reduceToNat, ltNT, and_self, bad_t th0]
      rfl
