/-! seen, did, work -/
theorem bz_bb (a : Int32) : bz a = bb (!decide (a = 0)) := by
  unfold bz
  by_cases h : a = 0
  · rw [if_pos h, decide_eq_true h]; rfl
  · rw [if_neg h, decide_eq_false h]; rfl
theorem addSight_s {M : PM} {n : Nat} {x y : Int32} {b : Bool} (hn : mI M 16 4 = zi n) (h : n < 20) : F_X3_addSight_16 M x y (bb b) = rI (zi (n + 1)) (sI (sA (sA (sA M 18 n x) 19 n y) 20 n (bb b)) 16 4 (zi (n + 1))) := by
  have e1 : ∀ q k v, mI (sA M q k v) 16 4 = zi n := fun q k v => hn
  have e2 : ∀ q k v q2 k2 v2, mI (sA (sA M q k v) q2 k2 v2) 16 4 = zi n := fun _ _ _ _ _ _ => hn
  have e3 : ∀ q k v q2 k2 v2 q3 k3 v3, mI (sA (sA (sA M q k v) q2 k2 v2) q3 k3 v3) 16 4 = zi n := fun _ _ _ _ _ _ _ _ _ => hn
  unfold F_X3_addSight_16
  simp (disch := omega) only [lt_z, cI_s, cJ_s, cV_s, bI_s, bI_e, bV_s, bV_e, zl, zi_neg, zi_add, zi_sub, zi_mul, ↓reduceIte, zb0, zb1, bb_and, bb_t, bb_f, zi_ltT, zi_ltF, zi_leT, zi_leF, zi_eqT, zi_eqF, zi_ixT, zi_nat, Int.toNat_natCast, Int.reduceToNat, ltNT, and_self, hn, e1, e2, e3]
  rw [mI, rI_at]
theorem addSight_full {M : PM} {n : Nat} {x y z : Int32} (hn : mI M 16 4 = zi n) (h : n = 20) : F_X3_addSight_16 M x y z = rI (zi (-1)) M := by
  unfold F_X3_addSight_16
  simp (disch := omega) only [lt_z, cI_s, cJ_s, cV_s, bI_s, bI_e, bV_s, bV_e, zl, zi_neg, zi_add, zi_sub, zi_mul, ↓reduceIte, zb0, zb1, bb_and, bb_t, bb_f, zi_ltT, zi_ltF, zi_leT, zi_leF, zi_eqT, zi_eqF, zi_ixT, zi_nat, Int.toNat_natCast, Int.reduceToNat, ltNT, and_self, hn]
theorem ok22 : OK_22 Rel := fun M a1 a2 a3 hR => by
  obtain ⟨x, rfl, hx⟩ := zi_rng a1
  obtain ⟨z, rfl, hz⟩ := zi_rng a2
  have hR2 := hR
  obtain ⟨C, S, W, h1, h2, h3, h4, h5, h6, h7, h8, h9, h10, h11, h12⟩ := hR2
  have hb := h1.1.1
  unfold c_22 w_seen
  rw [bz_bb]
  generalize (!decide (a3 = 0)) = bo
  by_cases hl : 0 ≤ x ∧ x < cN C
  · obtain ⟨l, rfl, hl2⟩ := natOf hl
    by_cases hz9 : 0 ≤ z ∧ z < ((10 : Nat) : Int)
    · obtain ⟨g, rfl, hg⟩ := natOf hz9
      have hS := h4.2.2.1.1
      by_cases hf : gN S = 20
      · refine okq2 (x := zi (-1)) (M1 := M) hR ?_ Sam0.rf (fun M' hs => ⟨sI M' 99 0 (zi 0), ?_, th0, Sam.th⟩)
        · unfold F_X10_seen_0 F_X10_seen_0_21
          simp (disch := omega) only [lt_z, cI_s, cJ_s, cV_s, bI_s, bI_e, bV_s, bV_e, zl, zi_neg, zi_add, zi_sub, zi_mul, ↓reduceIte, zb0, zb1, bb_and, bb_t, bb_f, zi_ltT, zi_ltF, zi_leT, zi_leF, zi_eqT, zi_eqF, zi_ixT, zi_nat, Int.toNat_natCast, Int.reduceToNat, ltNT, and_self, needLaw_t h2.1.1 hb, need_t, addSight_full h5.2.1.1]
        · have c : CalM (sI M' 99 0 (zi 0)) C := h3.sm (hs.tr Sam.th.1)
          have s : StaM (sI M' 99 0 (zi 0)) C S := h6.sm (hs.tr Sam.th.1)
          unfold F_X11_seen_99
          simp (disch := omega) only [lt_z, cI_s, cJ_s, cV_s, bI_s, bI_e, bV_s, bV_e, zl, zi_neg, zi_add, zi_sub, zi_mul, ↓reduceIte, zb0, zb1, bb_and, bb_t, bb_f, zi_ltT, zi_ltF, zi_leT, zi_leF, zi_eqT, zi_eqF, zi_ixT, zi_nat, Int.toNat_natCast, Int.reduceToNat, ltNT, and_self, isLawM_t c.1.1 hb]
          unfold F_X11_seen_99_19
          simp (disch := omega) only [lt_z, cI_s, cJ_s, cV_s, bI_s, bI_e, bV_s, bV_e, zl, zi_neg, zi_add, zi_sub, zi_mul, ↓reduceIte, zb0, zb1, bb_and, bb_t, bb_f, zi_ltT, zi_ltF, zi_leT, zi_leF, zi_eqT, zi_eqF, zi_ixT, zi_nat, Int.toNat_natCast, Int.reduceToNat, ltNT, and_self, in_t, bad_f th0]
          unfold F_X11_seen_99_43
          rw [bad_f th0, cI_s]
          simp (disch := omega) only [lt_z, cI_s, cJ_s, cV_s, bI_s, bI_e, bV_s, bV_e, zl, zi_neg, zi_add, zi_sub, zi_mul, ↓reduceIte, zb0, zb1, bb_and, bb_t, bb_f, zi_ltT, zi_ltF, zi_leT, zi_leF, zi_eqT, zi_eqF, zi_ixT, zi_nat, Int.toNat_natCast, Int.reduceToNat, ltNT, and_self, s.2.1.1]
      · have hf2 : gN S < 20 := by omega
        have hfC : F_X10_seen_0 M (zi l) (zi g) (bb bo) = rI (zi (gN S + 1)) (sI (sA (sA (sA M 18 (gN S) (zi l)) 19 (gN S) (zi g)) 20 (gN S) (bb bo)) 16 4 (zi (gN S + 1))) := by
          unfold F_X10_seen_0 F_X10_seen_0_21
          simp (disch := omega) only [lt_z, cI_s, cJ_s, cV_s, bI_s, bI_e, bV_s, bV_e, zl, zi_neg, zi_add, zi_sub, zi_mul, ↓reduceIte, zb0, zb1, bb_and, bb_t, bb_f, zi_ltT, zi_ltF, zi_leT, zi_leF, zi_eqT, zi_eqF, zi_ixT, zi_nat, Int.toNat_natCast, Int.reduceToNat, ltNT, and_self, needLaw_t h2.1.1 hb, need_t, addSight_s h5.2.1.1]
        generalize hM1 : sI (sA (sA (sA M 18 (gN S) (zi l)) 19 (gN S) (zi g)) 20 (gN S) (bb bo)) 16 4 (zi (gN S + 1)) = M1 at hfC
        generalize hM2 : sB M1 129 0 (zi ((gN S : Int) + 1)).toInt64 = M2
        have c : CalM (sI M2 99 0 (zi 0)) C := by rw [← hM2, ← hM1]; exact h3
        have s : StaM (sI M2 99 0 (zi 0)) C S := by rw [← hM2, ← hM1]; exact h6
        refine okm2 (M1 := M1) (x := zi ((gN S : Int) + 1)) (M2 := sI (sG (sG (sG (sI M2 99 0 (zi 0)) 119 (gN S) 0 (zi l)) 119 (gN S) 1 (zi g)) 119 (gN S) 2 (bb bo)) 99 32 (zi (gN S + 1))) hfC ?_ ?_ ?_ ?_
        · rw [hM2]
          generalize hN : sI M2 99 0 (zi 0) = N at c s
          have t0 : mI N 99 0 = zi 0 := hN ▸ th0
          have e1 : ∀ k v, mI (sG N 119 (gN S) k v) 99 32 = zi (gN S) := fun k v => s.2.1.1
          have e2 : ∀ k v k2 v2, mI (sG (sG N 119 (gN S) k v) 119 (gN S) k2 v2) 99 32 = zi (gN S) := fun k v k2 v2 => s.2.1.1
          have e3 : ∀ k v k2 v2 k3 v3, mI (sG (sG (sG N 119 (gN S) k v) 119 (gN S) k2 v2) 119 (gN S) k3 v3) 99 32 = zi (gN S) := fun k v k2 v2 k3 v3 => s.2.1.1
          unfold F_X11_seen_99
          rw [show (0 : Int32) = zi 0 from rfl, hN]
          simp (disch := omega) only [lt_z, cI_s, cJ_s, cV_s, bI_s, bI_e, bV_s, bV_e, zl, zi_neg, zi_add, zi_sub, zi_mul, ↓reduceIte, zb0, zb1, bb_and, bb_t, bb_f, zi_ltT, zi_ltF, zi_leT, zi_leF, zi_eqT, zi_eqF, zi_ixT, zi_nat, Int.toNat_natCast, Int.reduceToNat, ltNT, and_self, isLawM_t c.1.1 hb]
          unfold F_X11_seen_99_19
          simp (disch := omega) only [lt_z, cI_s, cJ_s, cV_s, bI_s, bI_e, bV_s, bV_e, zl, zi_neg, zi_add, zi_sub, zi_mul, ↓reduceIte, zb0, zb1, bb_and, bb_t, bb_f, zi_ltT, zi_ltF, zi_leT, zi_leF, zi_eqT, zi_eqF, zi_ixT, zi_nat, Int.toNat_natCast, Int.reduceToNat, ltNT, and_self, in_t, bad_f t0]
          unfold F_X11_seen_99_43
          rw [bad_f t0, cI_s]
          cases bo <;> (simp (disch := omega) only [lt_z, cI_s, cJ_s, cV_s, bI_s, bI_e, bV_s, bV_e, zl, zi_neg, zi_add, zi_sub, zi_mul, ↓reduceIte, zb0, zb1, bb_and, bb_t, bb_f, zi_ltT, zi_ltF, zi_leT, zi_leF, zi_eqT, zi_eqF, zi_ixT, zi_nat, Int.toNat_natCast, Int.reduceToNat, ltNT, and_self, s.2.1.1, e1, e2, e3]; unfold F_X11_seen_99_107; simp (disch := omega) only [lt_z, cI_s, cJ_s, cV_s, bI_s, bI_e, bV_s, bV_e, zl, zi_neg, zi_add, zi_sub, zi_mul, ↓reduceIte, zb0, zb1, bb_and, bb_t, bb_f, zi_ltT, zi_ltF, zi_leT, zi_leF, zi_eqT, zi_eqF, zi_ixT, zi_nat, Int.toNat_natCast, Int.reduceToNat, ltNT, and_self, s.2.1.1, e1, e2, e3]; rw [mI, rI_at])
        · show (sI (sG (sG (sG (sI M2 99 0 (zi 0)) 119 (gN S) 0 (zi l)) 119 (gN S) 1 (zi g)) 119 (gN S) 2 (bb bo)) 99 32 (zi (gN S + 1))).1 99 0 = zi 0
          rw [rI_nk (by decide)]
          show (sI M2 99 0 (zi 0)).1 99 0 = zi 0
          exact rI_at
        · rw [hM2]; rfl
        · subst hM2 hM1
          refine Rel_st (S := S) (S' := (aS S, (gN S + 1, fun i => if i = gN S then l else gL S i, fun i => if i = gN S then g else gA S i, fun i => if i = gN S then bo else gB S i), S.2.2)) h1 h2 h3 h7 h8 h9 h10 h11 h12 ?_ ?_ ?_ (fun p hp q1 q2 => ?_) (fun q hq => ?_) (fun q hq => u1_ne (fun e => by rw [e] at hq; exact absurd hq (by decide))) (fun q i hq => ?_)
          · refine ⟨h4.1, h4.2.1, ⟨hf2, h4.2.2.1.2⟩, fun i hi => ?_, h4.2.2.2.2⟩
            show (if i = gN S then l else gL S i) < cN C ∧ (if i = gN S then g else gA S i) ≤ 9
            by_cases e : i = gN S
            · rw [if_pos e, if_pos e]; omega
            · rw [if_neg e, if_neg e]
              have hi2 : i < gN S + 1 := hi
              exact h4.2.2.2.1 i (by omega)
          · refine ⟨h5.1, ⟨rfl, h5.2.1.2⟩, fun i hi => ?_, h5.2.2.2⟩
            show (sA M 18 (gN S) (zi l)).2.2.1 18 i = zi ((if i = gN S then l else gL S i : Nat)) ∧ (sA M 19 (gN S) (zi g)).2.2.1 19 i = zi ((if i = gN S then g else gA S i : Nat)) ∧ (sA M 20 (gN S) (bb bo)).2.2.1 20 i = bb (if i = gN S then bo else gB S i)
            by_cases e : i = gN S
            · subst e
              rw [rA_at, rA_at, rA_at, if_pos rfl, if_pos rfl, if_pos rfl]
              exact ⟨rfl, rfl, rfl⟩
            · have hi2 : i < gN S + 1 := hi
              rw [rA_nk e, rA_nk e, rA_nk e, if_neg e, if_neg e, if_neg e]
              exact h5.2.2.1 i (by omega)
          · generalize hN : sI (sB (sI (sA (sA (sA M 18 (gN S) (zi l)) 19 (gN S) (zi g)) 20 (gN S) (bb bo)) 16 4 (zi (gN S + 1))) 129 0 (zi ((gN S : Int) + 1)).toInt64) 99 0 (zi 0) = N at s
            have eG : ∀ q j, q ≠ 119 → mG (sI (sG (sG (sG N 119 (gN S) 0 (zi l)) 119 (gN S) 1 (zi g)) 119 (gN S) 2 (bb bo)) 99 32 (zi (gN S + 1))) q j = mG N q j := fun q j hq => (rG_ne hq).trans ((rG_ne hq).trans (rG_ne hq))
            refine ⟨fun a b ha hb2 => by rw [eG 115 a (by decide)]; exact s.1 a b ha hb2, ⟨rI_at, s.2.1.2⟩, fun i hi => ?_, fun i hi => by rw [eG 120 i (by decide)]; exact s.2.2.2.1 i hi, fun i hi => by rw [eG 121 i (by decide)]; exact s.2.2.2.2 i hi⟩
            show (sG (sG (sG N 119 (gN S) 0 (zi l)) 119 (gN S) 1 (zi g)) 119 (gN S) 2 (bb bo)).2.2.2.2 119 i 0 = zi ((if i = gN S then l else gL S i : Nat)) ∧ (sG (sG (sG N 119 (gN S) 0 (zi l)) 119 (gN S) 1 (zi g)) 119 (gN S) 2 (bb bo)).2.2.2.2 119 i 1 = zi ((if i = gN S then g else gA S i : Nat)) ∧ (sG (sG (sG N 119 (gN S) 0 (zi l)) 119 (gN S) 1 (zi g)) 119 (gN S) 2 (bb bo)).2.2.2.2 119 i 2 = bb (if i = gN S then bo else gB S i)
            by_cases e : i = gN S
            · subst e
              rw [if_pos rfl, if_pos rfl, if_pos rfl, rG_nk (by decide), rG_nk (by decide), rG_at, rG_nk (by decide), rG_at, rG_at]
              exact ⟨rfl, rfl, rfl⟩
            · have hi2 : i < gN S + 1 := hi
              rw [if_neg e, if_neg e, if_neg e, rG_nr e, rG_nr e, rG_nr e]
              exact s.2.2.1 i (by omega)
          · exact (u2_ne (nst hp q1 q2 (by decide))).trans ((u2_ne (nst hp q1 q2 (by decide))).trans (u2_ne (nst hp q1 q2 (by decide))))
          · exact (u1_ne (by omega)).trans ((u1_ne (by omega)).trans (u1_ne (by omega)))
          · exact (rG_ne (by omega)).trans ((rG_ne (by omega)).trans (rG_ne (by omega)))
    · refine okr3 (y := zi 0) 2 hR (by decide) (by decide) ?_ ?_
      · unfold F_X10_seen_0 F_X10_seen_0_20 F_X10_seen_0_21
        by_cases q : z < 0
        · simp (disch := omega) only [lt_z, cI_s, cJ_s, cV_s, bI_s, bI_e, bV_s, bV_e, zl, zi_neg, zi_add, zi_sub, zi_mul, ↓reduceIte, zb0, zb1, bb_and, bb_t, bb_f, zi_ltT, zi_ltF, zi_leT, zi_leF, zi_eqT, zi_eqF, zi_ixT, zi_nat, Int.toNat_natCast, Int.reduceToNat, ltNT, and_self, needLaw_t h2.1.1 hb, need_f]
        · simp (disch := omega) only [lt_z, cI_s, cJ_s, cV_s, bI_s, bI_e, bV_s, bV_e, zl, zi_neg, zi_add, zi_sub, zi_mul, ↓reduceIte, zb0, zb1, bb_and, bb_t, bb_f, zi_ltT, zi_ltF, zi_leT, zi_leF, zi_eqT, zi_eqF, zi_ixT, zi_nat, Int.toNat_natCast, Int.reduceToNat, ltNT, and_self, needLaw_t h2.1.1 hb, need_f]
      · have a0 : mA (sI (rf M 2) 99 0 (zi 0)) 103 0 = zi (cN C) := h3.1.1
        unfold F_X11_seen_99
        simp (disch := omega) only [lt_z, cI_s, cJ_s, cV_s, bI_s, bI_e, bV_s, bV_e, zl, zi_neg, zi_add, zi_sub, zi_mul, ↓reduceIte, zb0, zb1, bb_and, bb_t, bb_f, zi_ltT, zi_ltF, zi_leT, zi_leF, zi_eqT, zi_eqF, zi_ixT, zi_nat, Int.toNat_natCast, Int.reduceToNat, ltNT, and_self, isLawM_t a0 hb]
        unfold F_X11_seen_99_19
        simp (disch := omega) only [lt_z, cI_s, cJ_s, cV_s, bI_s, bI_e, bV_s, bV_e, zl, zi_neg, zi_add, zi_sub, zi_mul, ↓reduceIte, zb0, zb1, bb_and, bb_t, bb_f, zi_ltT, zi_ltF, zi_leT, zi_leF, zi_eqT, zi_eqF, zi_ixT, zi_nat, Int.toNat_natCast, Int.reduceToNat, ltNT, and_self, in_f, bad_f th0]
        unfold F_X11_seen_99_43
        rw [show (1 : Int32) = zi 1 from rfl, show (2 : Int32) = zi 2 from rfl, bad_t th0 (by decide) (by decide), cI_s]
        simp (disch := omega) only [lt_z, cI_s, cJ_s, cV_s, bI_s, bI_e, bV_s, bV_e, zl, zi_neg, zi_add, zi_sub, zi_mul, ↓reduceIte, zb0, zb1, bb_and, bb_t, bb_f, zi_ltT, zi_ltF, zi_leT, zi_leF, zi_eqT, zi_eqF, zi_ixT, zi_nat, Int.toNat_natCast, Int.reduceToNat, ltNT, and_self]
        rfl
  · refine okr2 (y := zi 0) 1 hR (by decide) ?_ ?_
    · unfold F_X10_seen_0
      simp (disch := omega) only [lt_z, cI_s, cJ_s, cV_s, bI_s, bI_e, bV_s, bV_e, zl, zi_neg, zi_add, zi_sub, zi_mul, ↓reduceIte, zb0, zb1, bb_and, bb_t, bb_f, zi_ltT, zi_ltF, zi_leT, zi_leF, zi_eqT, zi_eqF, zi_ixT, zi_nat, Int.toNat_natCast, Int.reduceToNat, ltNT, and_self, needLaw_f h2.1.1 hb]
    · have a0 : mA (sI (rf M 1) 99 0 (zi 0)) 103 0 = zi (cN C) := h3.1.1
      unfold F_X11_seen_99
      simp (disch := omega) only [lt_z, cI_s, cJ_s, cV_s, bI_s, bI_e, bV_s, bV_e, zl, zi_neg, zi_add, zi_sub, zi_mul, ↓reduceIte, zb0, zb1, bb_and, bb_t, bb_f, zi_ltT, zi_ltF, zi_leT, zi_leF, zi_eqT, zi_eqF, zi_ixT, zi_nat, Int.toNat_natCast, Int.reduceToNat, ltNT, and_self, isLawM_f a0 hb]
      unfold F_X11_seen_99_19
      simp (disch := omega) only [lt_z, cI_s, cJ_s, cV_s, bI_s, bI_e, bV_s, bV_e, zl, zi_neg, zi_add, zi_sub, zi_mul, ↓reduceIte, zb0, zb1, bb_and, bb_t, bb_f, zi_ltT, zi_ltF, zi_leT, zi_leF, zi_eqT, zi_eqF, zi_ixT, zi_nat, Int.toNat_natCast, Int.reduceToNat, ltNT, and_self, bad_t th0]
      rfl
