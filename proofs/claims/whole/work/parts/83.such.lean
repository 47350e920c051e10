/-! such -/
theorem stepZ_ok {w : Option (Int32 × PM)} {g : PM → Option PR} {M1 M2 : PM} {x : Int32} (hw : w = some (0, sB M1 129 (0 : Int32).toNatClampNeg (if x = 0 then 0 else 1))) (hg : g (sB M1 129 (0 : Int32).toNatClampNeg (if x = 0 then 0 else 1)) = rI x M2) (h0 : mI M2 99 0 = 0) (hb : M2.2.2.2.1 129 = (sB M1 129 (0 : Int32).toNatClampNeg (if x = 0 then 0 else 1)).2.2.2.1 129) : stepZ w g = some M2 := by
  subst hw
  unfold stepZ
  simp only [hg]
  unfold F_X11_thrown_99
  refine if_pos ⟨h0, fun _ => ?_⟩
  show M2.2.2.2.1 129 _ = _
  rw [hb]
  rw [rB_sB, if_pos rfl, if_pos rfl]
theorem stepZ_no {w : Option (Int32 × PM)} {g : PM → Option PR} {M1 M2 : PM} {k y : Int32} (hw : w = some (k, M1)) (hk : k ≠ 0) (hg : g M1 = rI y M2) (h0 : mI M2 99 0 = k) : stepZ w g = some M2 := by
  subst hw
  unfold stepZ
  simp only [hg]
  unfold F_X11_thrown_99
  exact if_pos ⟨h0, fun e => absurd e hk⟩
theorem bit0 (y : Int64) : (lg_cmp (y &&& (1 : Int64)) (0 : Int64) = 0) ↔ lb y 0 = false := by
  have key : y &&& (1 : Int64) = 0 ↔ lb y 0 = false := by
    constructor
    · intro h
      have := congrArg (fun z => lb z 0) h
      simp only [lb_and, lb_0] at this
      rw [show lb 1 0 = true by decide, Bool.and_true] at this
      exact this
    · intro h
      refine lb_ext (fun i hi => ?_)
      rw [lb_and, lb_0]
      by_cases e : i = 0
      · rw [e, h, Bool.false_and]
      · rw [(by decide +kernel : ∀ i, i < 64 → i ≠ 0 → lb 1 i = false) i hi e, Bool.and_false]
  rw [← key]
  unfold lg_cmp
  constructor
  · intro h9
    split at h9
    · exact absurd h9 (by decide)
    · split at h9
      · assumption
      · exact absurd h9 (by decide)
  · intro h
    rw [h]
    exact lg_cmp_self 0
theorem ok12 : OK_12 Rel := fun M a1 hR => by
  obtain ⟨z, rfl, hz⟩ := zi_rng a1
  have hR2 := hR
  obtain ⟨C, S, W, h1, h2, h3, h4, h5, h6, h7, h8, h9, h10, h11, h12⟩ := hR2
  unfold c_12 w_such
  by_cases h : 0 ≤ z ∧ z ≤ 999999999
  · obtain ⟨d, rfl, hd⟩ := natOf (z := z) (n := 1000000000) ⟨h.1, by omega⟩
    have h0 := tO_nn h1 h.1
    obtain ⟨N, y, n1, n2, n3⟩ := wishFrom_s (d := (d : Int)) (t := tO C (d : Int)) h1 h4 h7 h2 h5 h8 (by omega) (by omega)
    have n4 := n3 0 (by decide)
    rw [show (d : Int) + ((0 : Nat) : Int) = d by omega, show tO C (d : Int) + ((0 : Nat) : Int) = tO C (d : Int) by omega] at n4
    have hf : F_X10_such_0 M (zi d) = rI (bb (wsB C S W d (tO C d))) N := by
      unfold F_X10_such_0
      rw [needDay_t h, bV_s, turnsOn_s h1 h2.2.2.2.1.2.1 h2.2.2.2.2 (by omega), cI_s, n1, cJ_s]
      cases hq : wsB C S W d (tO C d)
      · rw [if_pos ((bit0 y).mpr (n4.trans hq))]
        rfl
      · rw [if_neg (fun e => by rw [(bit0 y).mp e] at n4; rw [hq] at n4; exact absurd n4 (by decide))]
        rfl
    have hs0 : Sam0 M (sB N 129 (0 : Int32).toNatClampNeg (if bb (wsB C S W d (tO C d)) = 0 then 0 else 1)) := n2.1.tr (Sam0.out _ _)
    have c : CalM (sI (sB N 129 (0 : Int32).toNatClampNeg (if bb (wsB C S W d (tO C d)) = 0 then 0 else 1)) 99 0 (zi 0)) C := h3.sm (hs0.tr Sam.th.1)
    obtain ⟨K, k1, k2, k3⟩ := isSuch_s (d := d) h1 h4 h7 c (h6.sm (hs0.tr Sam.th.1)) (h9.sm (hs0.tr Sam.th.1)) (by omega)
    refine ⟨K, stepZ_ok (M1 := N) (x := bb (wsB C S W d (tO C d))) (by rw [hf]; rfl) ?_ (k3.trans th0) k2.2, hR.sm ((hs0.tr Sam.th.1).tr k2.1)⟩
    unfold F_X11_such_99
    rw [show (0 : Int32) = zi 0 from rfl, isDay_t h, cI_s, if_neg (by decide)]
    unfold F_X11_such_99_18
    rw [bad_f th0, cI_s, if_pos (show zi 0 = 0 from rfl)]
    have k1' := k1
    rw [show (0 : Int32) = zi 0 from rfl] at k1'
    rw [k1', cI_s]
    exact if_pos (bb_and _)
  · refine ⟨_, stepZ_no (k := 1) (M1 := rf M 0) (y := zi 0) (M2 := rm (rf M 0) (zi 1) 0) ?_ (by decide) ?_ rm_thrown, Rel_rf 0 (by decide) _ hR⟩
    · have : F_X10_such_0 M (zi z) = rE nIOB (rf M 0) := by
        unfold F_X10_such_0
        simp (disch := omega) only [lt_z, cI_s, cJ_s, cV_s, bI_s, bI_e, bV_s, bV_e, zl, zi_neg, zi_add, zi_sub, zi_mul, ↓reduceIte, zb0, zb1, bb_and, bb_t, bb_f, zi_ltT, zi_ltF, zi_leT, zi_leF, zi_eqT, zi_eqF, zi_ixT, zi_nat, Int.toNat_natCast, Int.reduceToNat, ltNT, and_self, needDay_f]
      rw [this]
      show (if nIOB = nIOB then some ((1 : Int32), rf M 0) else none) = _
      exact if_pos rfl
    · unfold F_X11_such_99
      rw [show (0 : Int32) = zi 0 from rfl, isDay_f hz h, cI_s, if_pos rfl]
      unfold F_X11_such_99_18
      rw [show (1 : Int32) = zi 1 from rfl, show (0 : Int32) = zi 0 from rfl, bad_t th0 (by decide) (by decide), cI_s, if_neg (by decide)]
      rfl
