theorem togetherC {M : PM} {C : Cal} {L : Nat} (hc : WFC C) (c : CalC M C) (hL : L < 4096) : ∃ r, F_X2_firstDayOfAll_4 M (zi L) = rI (zi r) M ∧ FsT (fun t => sol C L (cN C) (t : Nat)) (t4 C) r := by
  have hn := hc.1.1
  have a1 := c.1.1
  have hbd := fun k hk => Nat.le_trans (Nat.le_of_dvd (t4_pos hc) (tA_dvd C L k hk)) (t4_le hc)
  unfold F_X2_firstDayOfAll_4
  refine loopS (σ := Nat × Nat) (fun f s => F_X2_firstDayOfAll_4_7 f M (zi L) (zi (s.2 : Nat)) (zi (lcs 1 (fun l => L.testBit l) (cW C) s.1 : Nat)) (zi (s.1 : Nat))) (fun o => ∃ r, o = rI (zi r) M ∧ FsT (fun t => sol C L (cN C) (t : Nat)) (t4 C) r) (fun r s => s.1 ≤ cN C ∧ r = cN C - s.1 ∧ s.2 < lcs 1 (fun l => L.testBit l) (cW C) s.1 ∧ sol C L s.1 (s.2 : Nat) = true ∧ ∀ t : Nat, sol C L s.1 (t : Nat) = true → s.2 ≤ t ∧ lcs 1 (fun l => L.testBit l) (cW C) s.1 ∣ (t - s.2)) ?_ (cN C) (0, 0) FUEL ⟨Nat.zero_le _, rfl, by show 0 < 1; decide, rfl, fun t _ => ⟨Nat.zero_le _, Nat.one_dvd _⟩⟩ (FUEL_gt (by omega))
  rintro f r ⟨l, x⟩ ⟨h1, h2, h3, h4, h5⟩
  simp only at h1 h2 h3 h4 h5
  have hTl := hbd l h1
  show (∃ r, F_X2_firstDayOfAll_4_7 (f + 1) M (zi L) (zi (x : Nat)) (zi (lcs 1 (fun l => L.testBit l) (cW C) l : Nat)) (zi (l : Nat)) = rI (zi r) M ∧ _) ∨ _
  by_cases hl : l = cN C
  · left
    subst hl
    refine ⟨(x : Int), ?_, Or.inl ⟨x, Nat.lt_of_lt_of_le h3 (Nat.le_of_dvd (t4_pos hc) (tA_dvd C L _ (Nat.le_refl _))), h4, fun j hj => ?_, rfl⟩⟩
    · rw [F_X2_firstDayOfAll_4_7, a1, if_pos (by rw [zi_le (by omega) (by omega)]; omega)]
    · cases hq : sol C L (cN C) (j : Nat)
      · exact hq
      · have := (h5 j hq).1
        omega
  · have hln : l < cN C := by omega
    have hw := hc.2.1 l hln
    rw [F_X2_firstDayOfAll_4_7, a1, if_neg (by rw [zi_le (by omega) (by omega)]; omega), isIn_s (by omega) (by omega), cI_s]
    cases hb1 : L.testBit l with
    | false =>
      right
      have elc : lcs 1 (fun l => L.testBit l) (cW C) (l + 1) = lcs 1 (fun l => L.testBit l) (cW C) l := by rw [lcs, if_neg (by rw [hb1]; decide)]
      have es : ∀ t : Int, sol C L (l + 1) t = sol C L l t := fun t => by rw [sol_succ, hb1, Bool.false_and]; exact Bool.and_true _
      refine ⟨cN C - (l + 1), (l + 1, x), by omega, ⟨by show l + 1 ≤ cN C; omega, rfl, by show x < lcs 1 (fun l => L.testBit l) (cW C) (l + 1); rw [elc]; exact h3, (es _).trans h4, fun t ht => by show x ≤ t ∧ lcs 1 (fun l => L.testBit l) (cW C) (l + 1) ∣ (t - x); rw [elc]; exact h5 t ((es _).symm.trans ht)⟩, ?_⟩
      show _ = F_X2_firstDayOfAll_4_7 f M (zi L) (zi (x : Nat)) (zi (lcs 1 (fun l => L.testBit l) (cW C) (l + 1) : Nat)) (zi ((l + 1 : Nat)))
      rw [if_pos (by decide), elc]
      unfold F_X2_firstDayOfAll_4_84
      rw [lt_z, show (1 : Int32) = zi 1 from rfl, zi_add, zc (show (l : Int) + 1 = ((l + 1 : Nat) : Int) by omega)]
    | true =>
      rw [if_neg (by decide)]
      have elc : lcs 1 (fun l => L.testBit l) (cW C) (l + 1) = Nat.lcm (lcs 1 (fun l => L.testBit l) (cW C) l) (cW C l) := by rw [lcs, if_pos hb1]
      have es : ∀ t : Int, sol C L (l + 1) t = (sol C L l t && hb (cW C l) (cD C l) t) := fun t => by rw [sol_succ, hb1, Bool.true_and, Bool.not_not]
      have hper := fun (t : Int) (m : Int) => sol_per (C := C) (L := L) (k := l) (t := t) m
      have hper2 := fun (t : Int) (m : Int) => sol_per (C := C) (L := L) (k := l + 1) (t := t) m
      rw [elc] at hper2
      have hpos : 0 < lcs 1 (fun l => L.testBit l) (cW C) l := by omega
      rcases inner28 (L := L) (k := F_X2_firstDayOfAll_4_7 f) hc c hln h3 hTl with ⟨m, m1, m2, m3, m4⟩ | ⟨m3, m4⟩
      · right
        generalize lcs 1 (fun l => L.testBit l) (cW C) l = T at *
        have key : ∀ t : Nat, sol C L (l + 1) (t : Nat) = true → x + T * m ≤ t ∧ Nat.lcm T (cW C l) ∣ (t - (x + T * m)) := fun t ht => by
          rw [es] at ht
          have ht2 : sol C L l (t : Nat) = true ∧ hb (cW C l) (cD C l) (t : Nat) = true := by simpa using ht
          obtain ⟨k1, q, k2⟩ := h5 t ht2.1
          have et : t = x + T * q := by omega
          have hmq : m ≤ q := by
            rcases Nat.lt_or_ge q m with hlt | hge
            · have := m3 q hlt
              rw [← et, ht2.2] at this
              exact absurd this (by decide)
            · exact hge
          have hle : T * m ≤ T * q := Nat.mul_le_mul_left T hmq
          refine ⟨by omega, Nat.lcm_dvd ⟨q - m, by rw [Nat.mul_sub]; omega⟩ ?_⟩
          have a2 : (t : Int) % (cW C l : Int) = (cD C l : Int) := of_decide_eq_true ht2.2
          have a3 : ((x + T * m : Nat) : Int) % (cW C l : Int) = (cD C l : Int) := of_decide_eq_true m2
          have a4 : ((t : Int) - ((x + T * m : Nat) : Int)) % (cW C l : Int) = 0 := (Int.emod_eq_emod_iff_emod_sub_eq_zero).mp (a2.trans a3.symm)
          have a5 : (cW C l : Int) ∣ ((t - (x + T * m) : Nat) : Int) := by
            rw [show ((t - (x + T * m) : Nat) : Int) = (t : Int) - ((x + T * m : Nat) : Int) by omega]
            exact Int.dvd_of_emod_eq_zero a4
          exact Int.ofNat_dvd.mp a5
        have hsx : sol C L (l + 1) ((x + T * m : Nat) : Int) = true := by
          rw [es, m2, Bool.and_true, Int.natCast_add, Int.natCast_mul, hper]
          exact h4
        have hlp : 0 < Nat.lcm T (cW C l) := Nat.lcm_pos hpos (by omega)
        refine ⟨cN C - (l + 1), (l + 1, x + T * m), by omega, ⟨by show l + 1 ≤ cN C; omega, rfl, ?_, hsx, fun t ht => ?_⟩, ?_⟩
        · show x + T * m < lcs 1 (fun l => L.testBit l) (cW C) (l + 1)
          rw [elc]
          rcases Nat.lt_or_ge (x + T * m) (Nat.lcm T (cW C l)) with q | q
          · exact q
          · exfalso
            have := hper2 ((x + T * m : Nat) : Int) (-1)
            rw [hsx, show ((x + T * m : Nat) : Int) + ((Nat.lcm T (cW C l) : Nat) : Int) * -1 = ((x + T * m - Nat.lcm T (cW C l) : Nat) : Int) by omega] at this
            have := (key _ this).1
            omega
        · show x + T * m ≤ t ∧ lcs 1 (fun l => L.testBit l) (cW C) (l + 1) ∣ (t - (x + T * m))
          rw [elc]
          exact key t ht
        · show F_X2_firstDayOfAll_4_28 _ FUEL M _ _ _ _ _ = F_X2_firstDayOfAll_4_7 f M (zi L) (zi ((x + T * m : Nat))) (zi (lcs 1 (fun l => L.testBit l) (cW C) (l + 1) : Nat)) (zi ((l + 1 : Nat)))
          rw [elc, show (0 : Int32) = zi 0 from rfl]
          exact m4
      · left
        refine ⟨-1, by rw [show (0 : Int32) = zi 0 from rfl]; exact m4, Or.inr ⟨rfl, fun k hk => ?_⟩⟩
        cases hq : sol C L (cN C) (k : Nat) with
        | false => exact hq
        | true =>
          exfalso
          have hq2 := sol_mono (k := l + 1) (by omega) hq
          rw [es] at hq2
          have ht2 : sol C L l (k : Nat) = true ∧ hb (cW C l) (cD C l) (k : Nat) = true := by simpa using hq2
          obtain ⟨k1, q, k2⟩ := h5 k ht2.1
          generalize lcs 1 (fun l => L.testBit l) (cW C) l = T at *
          have et : k = x + T * q := by omega
          have e2 := m3 (q % cW C l) (Nat.mod_lt _ (by omega))
          have e3 := hb_per (w := cW C l) (d := cD C l) (T := cW C l) (t := ((x + T * (q % cW C l) : Nat) : Int)) (m := ((T * (q / cW C l) : Nat) : Int)) (Nat.dvd_refl _)
          have e4 : ((x + T * (q % cW C l) : Nat) : Int) + ((cW C l : Nat) : Int) * ((T * (q / cW C l) : Nat) : Int) = (k : Int) := by
            have e5 : T * q = T * (q % cW C l) + cW C l * (T * (q / cW C l)) := by
              conv => lhs; rw [← Nat.mod_add_div q (cW C l)]
              rw [Nat.mul_add, Nat.mul_left_comm]
            rw [← Int.natCast_mul, ← Int.natCast_add, et, e5, Nat.add_assoc]
          rw [e4, e2, ht2.2] at e3
          exact absurd e3 (by decide)
theorem sol_bits {C : Cal} {L : Nat} {t : Int} (hc : WFC C) (hL : L < 2 ^ cN C) : (ob (fun l => hb (cW C l) (cD C l) t) (cN C) &&& zi L = zi L) = (sol C L (cN C) t = true) := by
  have hn := hc.1.1
  have hp2 := p2 hn
  rw [ob_zi _ _ (by omega), zand]
  have hlt : obN (fun l => hb (cW C l) (cD C l) t) (cN C) &&& L < 4096 := Nat.lt_of_le_of_lt Nat.and_le_right (by omega)
  rw [zi_eq (by omega) (by omega)]
  refine propext ⟨fun h => ?_, fun h => ?_⟩
  · have h2 : obN (fun l => hb (cW C l) (cD C l) t) (cN C) &&& L = L := by omega
    refine noB_t (fun l hl => ?_)
    cases hb1 : L.testBit l with
    | false => rfl
    | true =>
      have := congrArg (fun z => Nat.testBit z l) h2
      simp only [Nat.testBit_and, obN_bit, hb1, decide_eq_true hl, Bool.true_and, Bool.and_true] at this
      rw [this]
      rfl
  · have h2 : obN (fun l => hb (cW C l) (cD C l) t) (cN C) &&& L = L := by
      refine Nat.eq_of_testBit_eq (fun l => ?_)
      rw [Nat.testBit_and, obN_bit]
      cases hb1 : L.testBit l with
      | false => rw [Bool.and_false]
      | true =>
        have hl : l < cN C := by
          rcases Nat.lt_or_ge l (cN C) with q | q
          · exact q
          · rw [Nat.testBit_lt_two_pow (Nat.lt_of_lt_of_le hL (Nat.pow_le_pow_right (by decide) q))] at hb1
            exact absurd hb1 (by decide)
        have h3 := fb_ct_zero.mp (of_decide_eq_true h) l hl
        simp only [hb1, Bool.true_and, Bool.not_eq_false'] at h3
        rw [decide_eq_true hl, h3]
        rfl
    rw [h2]
theorem togetherM {M : PM} {C : Cal} {L : Nat} (hc : WFC C) (c : CalM M C) (hL : L < 2 ^ cN C) : ∃ r, F_X11_together_99_42 FUEL M (zi L) (zi 0) = rI (zi r) M ∧ FsT (fun t => sol C L (cN C) (t : Nat)) (t4 C) r := by
  have hT := t4_le hc
  have a1 := c.1.2.2.2.2.1
  refine loopI (t4 C) (fun f i => F_X11_together_99_42 f M (zi L) (zi (i : Nat))) (fun o => ∃ r, o = rI (zi r) M ∧ FsT (fun t => sol C L (cN C) (t : Nat)) (t4 C) r) (fun i => ∀ j, j < i → sol C L (cN C) (j : Nat) = false) (fun f hI => ?_) (fun f i hi hI => ?_) 0 FUEL (Nat.zero_le _) (fun j hj => absurd hj (Nat.not_lt_zero j)) (FUEL_gt (by omega))
  · refine ⟨-1, ?_, Or.inr ⟨rfl, hI⟩⟩
    rw [F_X11_together_99_42, if_pos (by decide), show mA M 103 (4 : Int32).toNatClampNeg = zi (t4 C) from a1, if_pos (by rw [zi_le (by omega) (by omega)]; omega)]
    rfl
  · have e := bitsAt_s (t := (i : Int)) hc c (by omega)
    have e2 := sol_bits (t := (i : Int)) hc hL
    show (∃ r, F_X11_together_99_42 (f + 1) M (zi L) (zi (i : Nat)) = rI (zi r) M ∧ _) ∨ (_ ∧ F_X11_together_99_42 (f + 1) M (zi L) (zi (i : Nat)) = F_X11_together_99_42 f M (zi L) (zi ((i + 1 : Nat))))
    rw [F_X11_together_99_42, if_pos (by decide), show mA M 103 (4 : Int32).toNatClampNeg = zi (t4 C) from a1, if_neg (by rw [zi_le (by omega) (by omega)]; omega), e, cI_s]
    cases hq : sol C L (cN C) (i : Nat) with
    | false =>
      right
      refine ⟨fun j hj => ?_, ?_⟩
      · by_cases q : j = i
        · rw [q]; exact hq
        · exact hI j (by omega)
      · rw [if_neg (by rw [e2, hq]; decide), lt_z, show (1 : Int32) = zi 1 from rfl, zi_add, zc (show (i : Int) + 1 = ((i + 1 : Nat) : Int) by omega)]
    | true =>
      left
      refine ⟨(i : Int), ?_, Or.inl ⟨i, hi, hq, hI, rfl⟩⟩
      rw [if_pos (by rw [e2]; exact hq)]
theorem sol_nev {C : Cal} {L k : Nat} (hn : cN C ≤ 12) (h : nevV C L ≠ -1) (t : Int) : sol C L (cN C) t = false := by
  cases hq : sol C L (cN C) t with
  | false => rfl
  | true =>
    exfalso
    apply h
    have h3 := fb_ct_zero.mp (of_decide_eq_true hq)
    refine nevV_eq (fun a b hab hb => ?_)
    unfold nev
    cases h1 : L.testBit a with
    | false => rfl
    | true =>
      cases h2 : L.testBit b with
      | false => rfl
      | true =>
        have ha2 := h3 a (by omega)
        have hb2 := h3 b hb
        simp only [h1, h2, Bool.true_and, Bool.not_eq_false'] at ha2 hb2
        cases hm : mee (cW C a) (cD C a) (cW C b) (cD C b) with
        | true => rfl
        | false =>
          have := crt_no hm t
          rw [ha2, hb2] at this
          exact absurd this (by decide)
theorem ok15 : OK_15 Rel := fun M a1 hR => by
  obtain ⟨z, rfl, hz⟩ := zi_rng a1
  have hR2 := hR
  obtain ⟨C, S, W, h1, h2, h3, h4, h5, h6, h7, h8, h9, h10, h11, h12⟩ := hR2
  have hb := h1.1.1
  have hp2 := p2 hb
  unfold c_15 w_together
  by_cases h : 0 ≤ z ∧ z < (2 ^ cN C : Nat)
  · obtain ⟨L, rfl, hL⟩ := natOf h
    obtain ⟨r, r1, r2⟩ := togetherC h1 h2 (show L < 4096 by omega)
    refine okq1 (x := zi r) (M1 := M) hR ?_ Sam0.rf (fun M' hs => ⟨sI M' 99 0 (zi 0), ?_, th0, Sam.th⟩)
    · unfold F_X10_together_0
      rw [needLaws_t h2.1.1 hb h, bV_s, r1, cI_s]
    · have c : CalM (sI M' 99 0 (zi 0)) C := h3.sm (hs.tr Sam.th.1)
      have nv := neverM h1 c (show L < 4096 by omega)
      have nr := nevV_rng C L hb
      unfold F_X11_together_99
      rw [show (0 : Int32) = zi 0 from rfl, areLaws_t c.1.1 hb h, cI_s, if_neg (by decide)]
      unfold F_X11_together_99_19
      rw [bad_f th0, cI_s, if_pos (show zi 0 = 0 from rfl), nv, cI_s, show (-1 : Int32) = zi (-1) from rfl]
      by_cases e : nevV C L = -1
      · obtain ⟨q, q1, q2⟩ := togetherM h1 c hL
        rw [if_pos (by rw [e]), FsT_one r2 q2, show (0 : Int32) = zi 0 from rfl]
        exact q1
      · have : r = -1 := FsT_one r2 (Or.inr ⟨rfl, fun k _ => sol_nev (k := 0) hb e _⟩)
        rw [if_neg (by rw [zi_eq (by omega) (by omega)]; exact e), this]
  · refine okr1 (y := zi 0) 2 hR (by decide) ?_ ?_
    · unfold F_X10_together_0
      simp (disch := omega) only [lt_z, cI_s, cJ_s, cV_s, bI_s, bI_e, bV_s, bV_e, zl, zi_neg, zi_add, zi_sub, zi_mul, ↓reduceIte, zb0, zb1, bb_and, bb_t, bb_f, zi_ltT, zi_ltF, zi_leT, zi_leF, zi_eqT, zi_eqF, zi_ixT, zi_nat, Int.toNat_natCast, Int.reduceToNat, ltNT, and_self, needLaws_f h2.1.1 hb]
    · have a0 : mA (sI (rf M 2) 99 0 (zi 0)) 103 0 = zi (cN C) := h3.1.1
      unfold F_X11_together_99
      rw [show (0 : Int32) = zi 0 from rfl, areLaws_f a0 hb hz h, cI_s, if_pos rfl]
      unfold F_X11_together_99_19
      rw [show (1 : Int32) = zi 1 from rfl, show (2 : Int32) = zi 2 from rfl, bad_t th0 (by decide) (by decide), cI_s, if_neg (by decide)]
      rfl
