/-! done -/
theorem both_s {M : PM} {a b : Nat} (ha : a ≤ 100000) (hb : 0 < b ∧ b ≤ 99) (hl : Nat.lcm a b ≤ 100000) : F_X11_both M (zi a) (zi b) = rI (zi (Nat.lcm a b)) M := by
  have hg := gcd_pos (a := a) hb.1
  have hl2 := gcd_le (a := a) hb.1
  have e : ((Nat.lcm a b : Nat) : Int) = (a : Int) / (Nat.gcd a b : Int) * (b : Int) := by rw [← lcm_eq hb.1, Int.natCast_mul, Int.natCast_ediv]
  have hr : (a : Int) / (Nat.gcd a b : Int) * (b : Int) ≤ 100000 := by omega
  have hr0 : 0 ≤ (a : Int) / (Nat.gcd a b : Int) * (b : Int) := by omega
  unfold F_X11_both
  rw [common_s (by omega) (by omega), cI_s, e, zi_div (by omega) (by omega), zi_mul]
  generalize (a : Int) / (Nat.gcd a b : Int) * (b : Int) = v at *
  simp (disch := omega) only [lt_z, cI_s, cJ_s, cV_s, bI_s, bI_e, bV_s, bV_e, zl, zi_neg, zi_add, zi_sub, zi_mul, ↓reduceIte, zb0, zb1, bb_and, bb_t, bb_f, zi_ltT, zi_ltF, zi_leT, zi_leF, zi_eqT, zi_eqF, zi_ixT, zi_nat, Int.toNat_natCast, Int.reduceToNat, ltNT, and_self]
theorem turnOf_s {M : PM} {C : Cal} {L : Nat} (hc : WFC C) (c : CalM M C) (hL : L < 4096) : F_X11_turnOf_99 M (zi L) = rI (zi (tA C L)) M := by
  have hn := hc.1.1
  have a1 := c.1.1
  have hbd := fun k hk => Nat.le_trans (Nat.le_of_dvd (t4_pos hc) (tA_dvd C L k hk)) (t4_le hc)
  unfold F_X11_turnOf_99
  exact loopU (cN C) (fun f l => F_X11_turnOf_99_4 f M (zi L) (zi (lcs 1 (fun l => L.testBit l) (cW C) l : Nat)) (zi (l : Nat))) _ (fun f => by
      rw [F_X11_turnOf_99_4]
      simp (disch := omega) only [lt_z, cI_s, cJ_s, cV_s, bI_s, bI_e, bV_s, bV_e, zl, zi_neg, zi_add, zi_sub, zi_mul, ↓reduceIte, zb0, zb1, bb_and, bb_t, bb_f, zi_ltT, zi_ltF, zi_leT, zi_leF, zi_eqT, zi_eqF, zi_ixT, zi_nat, Int.toNat_natCast, Int.reduceToNat, ltNT, and_self, a1]
      rfl) (fun f l hl => by
      have hw := hc.2.1 l hl
      have a2l := c.2.1 l hl
      have hbl := hbd l (by omega)
      have hbs := hbd (l + 1) (by omega)
      rw [F_X11_turnOf_99_4, zc (show ((l + 1 : Nat) : Int) = l + 1 by omega)]
      rw [lcs] at hbs ⊢
      unfold F_X11_turnOf_99_37
      cases hb1 : L.testBit l
      · rw [if_neg (by decide : ¬ false = true)]
        simp (disch := omega) only [lt_z, cI_s, cJ_s, cV_s, bI_s, bI_e, bV_s, bV_e, zl, zi_neg, zi_add, zi_sub, zi_mul, ↓reduceIte, zb0, zb1, bb_and, bb_t, bb_f, zi_ltT, zi_ltF, zi_leT, zi_leF, zi_eqT, zi_eqF, zi_ixT, zi_nat, Int.toNat_natCast, Int.reduceToNat, ltNT, and_self, a1, zbit1, hb1]
      · rw [hb1, if_pos rfl] at hbs
        rw [if_pos rfl]
        simp (disch := omega) only [lt_z, cI_s, cJ_s, cV_s, bI_s, bI_e, bV_s, bV_e, zl, zi_neg, zi_add, zi_sub, zi_mul, ↓reduceIte, zb0, zb1, bb_and, bb_t, bb_f, zi_ltT, zi_ltF, zi_leT, zi_leF, zi_eqT, zi_eqF, zi_ixT, zi_nat, Int.toNat_natCast, Int.reduceToNat, ltNT, and_self, a1, zbit1, hb1, a2l, both_s]) 0 FUEL (by omega) (FUEL_gt (by omega))
theorem fd_0 (C : Cal) (L d : Nat) : fd C L 0 d = !anL (cN C) (cW C) (cD C) L (tO C (d : Int)) := by
  unfold fd fre
  rw [anL_f (n := oN C) (L := 0) (fun l _ => by rw [Nat.zero_testBit, Bool.false_and]), Bool.or_false]
theorem tB_0 (C : Cal) (L : Nat) : tB C L 0 = tA C L := by
  unfold tB
  generalize oN C = n
  induction n with
  | zero => rfl
  | succ n ih => rw [lcs, if_neg (by rw [Nat.zero_testBit]; decide)]; exact ih
theorem isFree_s {M : PM} {C : Cal} {L d : Nat} (hc : WFC C) (c : CalM M C) (hL : L < 4096) (hd : d ≤ 1000000000) : F_X11_isFree_99 M (zi d) (zi L) = rI (bb (fd C L 0 d)) M := by
  have h0 := tO_nn hc (d := (d : Int)) (by omega)
  have t1 := turnedOn_s (d := (d : Int)) hc c.1.2.2.2.1 c.2.2.2.2.2 (by omega)
  have t2 := bitsAt_s (t := tO C (d : Int)) hc c (by omega)
  have e2 := ob_and (L := L) (t := tO C (d : Int)) hc hL
  unfold F_X11_isFree_99
  rw [t1, cI_s, t2, cI_s, fd_0]
  cases h : anL (cN C) (cW C) (cD C) L (tO C (d : Int))
  · rw [h] at e2
    simp (disch := omega) only [lt_z, cI_s, cJ_s, cV_s, bI_s, bI_e, bV_s, bV_e, zl, zi_neg, zi_add, zi_sub, zi_mul, ↓reduceIte, zb0, zb1, bb_and, bb_t, bb_f, zi_ltT, zi_ltF, zi_leT, zi_leF, zi_eqT, zi_eqF, zi_ixT, zi_nat, Int.toNat_natCast, Int.reduceToNat, ltNT, and_self, e2, Bool.not_false]
  · rw [h] at e2
    simp (disch := omega) only [lt_z, cI_s, cJ_s, cV_s, bI_s, bI_e, bV_s, bV_e, zl, zi_neg, zi_add, zi_sub, zi_mul, ↓reduceIte, zb0, zb1, bb_and, bb_t, bb_f, zi_ltT, zi_ltF, zi_leT, zi_leF, zi_eqT, zi_eqF, zi_ixT, zi_nat, Int.toNat_natCast, Int.reduceToNat, ltNT, and_self, e2, Bool.not_true, Bool.true_eq_false]
theorem doneOf_s {M : PM} {C : Cal} {S : Sta} {w a : Nat} (hc : WFC C) (hw : WFS C S) (c : CalM M C) (st : StaM M C S) (hk : w < kN S) (ha : a ≤ 1000000000) : ∃ r, F_X11_doneOf_99 M (zi w) (zi a) = rI (zi r) M ∧ NthF C (kL S w) 0 a (kD S w) r := by
  have hn := hc.1.1
  have hp2 := p2 hn
  have h8 := hw.2.2.1.2.2
  obtain ⟨w1, w2⟩ := hw.2.2.2.2.2 w hk
  obtain ⟨s1, s2⟩ := st.2.2.2.2 w hk
  have hT : tA C (kL S w) ≤ 100000 := Nat.le_trans (Nat.le_of_dvd (t4_pos hc) (tA_dvd C (kL S w) _ (Nat.le_refl _))) (t4_le hc)
  have e0 : F_X11_doneOf_99 M (zi w) (zi a) = F_X11_doneOf_99_29 FUEL M (zi w) (zi (kD S w)) (zi 0) (zi (tA C (kL S w))) (zi a) := by
    unfold F_X11_doneOf_99
    have t1 := turnOf_s hc c (show kL S w < 4096 by omega)
    have s1' : mG M 121 (zi (w : Int)).toNatClampNeg (0 : Int32).toNatClampNeg = zi (kD S w) := by rw [zi_natN (by omega)]; exact s1
    have s2' : mG M 121 (zi (w : Int)).toNatClampNeg (1 : Int32).toNatClampNeg = zi (kL S w) := by rw [zi_natN (by omega)]; exact s2
    rw [s1', s2', if_pos (zi_ixT (by omega) (by omega)), if_pos ⟨by rw [zi_natN (by omega)]; omega, by decide⟩, lt_z, if_pos (zi_ixT (by omega) (by omega)), if_pos ⟨by rw [zi_natN (by omega)]; omega, by decide⟩, t1, cI_s, show (0 : Int32) = zi 0 from rfl]
  rw [e0]
  generalize hLg : kL S w = L at *
  generalize hNg : kD S w = n at *
  refine loopS (σ := Nat × Nat × Nat) (fun f s => F_X11_doneOf_99_29 f M (zi w) (zi (s.2.1 : Nat)) (zi (s.2.2 : Nat)) (zi (tA C L)) (zi ((a + s.1 : Nat)))) (fun o => ∃ r, o = rI (zi r) M ∧ NthF C L 0 a n r) (fun r s => r = 1000000000 - (a + s.1) ∧ a + s.1 ≤ 1000000000 ∧ 1 ≤ s.2.1 ∧ fb_ct (fun i => fd C L 0 (a + i)) s.1 + s.2.1 = n ∧ s.2.2 ≤ tA C L + 10 ∧ s.2.2 ≤ s.1 ∧ ∀ i, s.1 - s.2.2 ≤ i → i < s.1 → fd C L 0 (a + i) = false) ?_ (1000000000 - a) (0, n, 0) FUEL ⟨rfl, ha, w1.1, by show 0 + n = n; omega, by show 0 ≤ tA C L + 10; omega, Nat.le_refl 0, fun i h5 h6 => absurd h6 (Nat.not_lt_zero i)⟩ (FUEL_gt (by omega))
  rintro f r ⟨j, m, z⟩ ⟨i1, i2, i3, i4, i5, i6, i8⟩
  simp only at i1 i2 i3 i4 i5 i6 i8
  have below : ∀ k, k < j → fd C L 0 (a + k) = true → fb_ct (fun i => fd C L 0 (a + i)) k + 1 ≠ n := fun k hk hf => by
    have := ct_lt_of (p := fun i => fd C L 0 (a + i)) hk hf
    omega
  show (∃ r, F_X11_doneOf_99_29 (f + 1) M (zi w) (zi m) (zi z) (zi (tA C L)) (zi ((a + j : Nat))) = rI (zi r) M ∧ _) ∨ _
  by_cases q1 : 999999999 < a + j
  · left
    refine ⟨-1, ?_, Or.inr ⟨rfl, fun k hk hf => below k (by omega) hf⟩⟩
    rw [F_X11_doneOf_99_29, if_pos (by rw [show (999999999 : Int32) = zi 999999999 from rfl, zi_lt (by omega) (by omega)]; omega)]
    rfl
  · have hfr := isFree_s (d := a + j) hc c (show L < 4096 by omega) (by omega)
    have s2' : mG M 121 (zi (w : Int)).toNatClampNeg (1 : Int32).toNatClampNeg = zi L := by rw [zi_natN (by omega)]; exact s2
    rw [F_X11_doneOf_99_29, if_neg (by rw [show (999999999 : Int32) = zi 999999999 from rfl, zi_lt (by omega) (by omega)]; omega), if_neg (by rw [show (0 : Int32) = zi 0 from rfl, zi_lt (by omega) (by omega)]; omega), if_pos (zi_ixT (by omega) (by omega)), if_pos ⟨by rw [zi_natN (by omega)]; omega, by decide⟩, s2', hfr, cI_s]
    unfold F_X11_doneOf_99_86
    cases hf : fd C L 0 (a + j) with
    | false =>
      rw [if_pos (by decide), lt_z, show (1 : Int32) = zi 1 from rfl, show (10 : Int32) = zi 10 from rfl, zi_add, zi_add]
      have run : ∀ i, j + 1 - (z + 1) ≤ i → i < j + 1 → fd C L 0 (a + i) = false := fun i h5 h6 => by
        by_cases q5 : i = j
        · rw [q5]; exact hf
        · exact i8 i (by omega) (by omega)
      by_cases q3 : z + 1 ≤ tA C L + 10
      · right
        refine ⟨1000000000 - (a + (j + 1)), (j + 1, m, z + 1), by omega, ⟨rfl, by show a + (j + 1) ≤ 1000000000; omega, i3, by show fb_ct (fun i => fd C L 0 (a + i)) (j + 1) + m = n; rw [ctF (p := fun i => fd C L 0 (a + i)) hf]; exact i4, q3, by show z + 1 ≤ j + 1; omega, run⟩, ?_⟩
        show _ = F_X11_doneOf_99_29 f M (zi w) (zi m) (zi ((z + 1 : Nat))) (zi (tA C L)) (zi ((a + (j + 1) : Nat)))
        rw [if_pos (by rw [zi_le (by omega) (by omega)]; omega), lt_z, zi_add, zc (show ((a + j : Nat) : Int) + 1 = ((a + (j + 1) : Nat) : Int) by omega), zc (show (z : Int) + 1 = ((z + 1 : Nat) : Int) by omega)]
      · left
        have hnev := fd_never (L := L) (O := 0) (a := a + (j - z)) (n := z + 1) hc (by rw [tB_0]; omega) (fun i hi => by rw [show a + (j - z) + i = a + (j - z + i) by omega]; exact run _ (by omega) (by omega))
        refine ⟨-1, ?_, Or.inr ⟨rfl, fun k hk hf => by rw [hnev] at hf; exact absurd hf (by decide)⟩⟩
        rw [if_neg (by rw [zi_le (by omega) (by omega)]; omega)]
        rfl
    | true =>
      rw [if_neg (by decide), lt_z, show (-1 : Int32) = zi (-1) from rfl, zi_add]
      by_cases q3 : m = 1
      · left
        refine ⟨((a + j : Nat) : Int), ?_, Or.inl ⟨j, by omega, hf, by omega, rfl⟩⟩
        rw [if_pos (by rw [q3]; decide)]
      · right
        refine ⟨1000000000 - (a + (j + 1)), (j + 1, m - 1, 0), by omega, ⟨rfl, by show a + (j + 1) ≤ 1000000000; omega, by show 1 ≤ m - 1; omega, by show fb_ct (fun i => fd C L 0 (a + i)) (j + 1) + (m - 1) = n; rw [ctT (p := fun i => fd C L 0 (a + i)) hf]; omega, Nat.zero_le _, Nat.zero_le _, fun i h5 h6 => by have h5' : j + 1 - 0 ≤ i := h5; have h6' : i < j + 1 := h6; omega⟩, ?_⟩
        show _ = F_X11_doneOf_99_29 f M (zi w) (zi ((m - 1 : Nat))) (zi ((0 : Nat) : Int)) (zi (tA C L)) (zi ((a + (j + 1) : Nat)))
        rw [if_neg (by rw [show (0 : Int32) = zi 0 from rfl, zi_eq (by omega) (by omega)]; omega), lt_z, show (1 : Int32) = zi 1 from rfl, show (0 : Int32) = zi 0 from rfl, zi_add, zc (show ((a + j : Nat) : Int) + 1 = ((a + (j + 1) : Nat) : Int) by omega), zc (show (m : Int) + -1 = ((m - 1 : Nat) : Int) by omega)]
        rfl
theorem isWorkC_t {M : PM} {n w : Nat} (hn : mI M 16 12 = zi n) (h8 : n ≤ 8) (h : w < n) : F_X9_isWork_89 M (zi w) = rI (zi 1) M := by
  unfold F_X9_isWork_89
  simp (disch := omega) only [lt_z, cI_s, cJ_s, cV_s, bI_s, bI_e, bV_s, bV_e, zl, zi_neg, zi_add, zi_sub, zi_mul, ↓reduceIte, zb0, zb1, bb_and, bb_t, bb_f, zi_ltT, zi_ltF, zi_leT, zi_leF, zi_eqT, zi_eqF, zi_ixT, zi_nat, Int.toNat_natCast, Int.reduceToNat, ltNT, and_self, hn]
theorem endOf_s {M : PM} {C : Cal} {S : Sta} {w a : Nat} (hc : WFC C) (hw : WFS C S) (c : CalC M C) (st : StaC M C S 16) (hk : w < kN S) (ha : a ≤ 1000000000) : ∃ r, F_X9_endOf_89 M (zi w) (zi a) = rI (zi r) (brM M (kL S w) 0 (tB C (kL S w) 0)) ∧ NthF C (kL S w) 0 a (kD S w) r := by
  have hp2 := p2 hc.1.1
  have h8 := hw.2.2.1.2.2
  obtain ⟨w1, w2⟩ := hw.2.2.2.2.2 w hk
  obtain ⟨s1, s2⟩ := st.2.2.2.2 w hk
  obtain ⟨r, r1, r2⟩ := nthFrom_s (M := brM M (kL S w) 0 (tB C (kL S w) 0)) (L := kL S w) (O := 0) (a := a) (n := kD S w) hc (c.sm brM_sam.1) (by omega) (by omega) rfl rfl rfl ha (by omega)
  refine ⟨r, ?_, r2⟩
  have s2' : mA M 26 (zi (w : Int)).toNatClampNeg = zi (kL S w) := by rw [zi_natN (by omega)]; exact s2
  have s1' : mA (brM M (kL S w) 0 (tB C (kL S w) 0)) 25 (zi (w : Int)).toNatClampNeg = zi (kD S w) := by rw [zi_natN (by omega)]; exact s1
  have hb := bar_s (L := kL S w) (O := 0) hc c (by omega) (by omega)
  unfold F_X9_endOf_89
  rw [isWorkC_t st.2.1.2.2 h8 hk, cI_s, if_neg (by decide), if_pos (zi_ixT (by omega) (by omega)), s2', show (0 : Int32) = zi ((0 : Nat) : Int) from rfl, hb, cV_s, if_pos (zi_ixT (by omega) (by omega)), s1', r1, cI_s]
theorem ok30 : OK_30 Rel := fun M a1 a2 hR => by
  obtain ⟨x, rfl, hx⟩ := zi_rng a1
  obtain ⟨z, rfl, hz⟩ := zi_rng a2
  have hR2 := hR
  obtain ⟨C, S, W, h1, h2, h3, h4, h5, h6, h7, h8, h9, h10, h11, h12⟩ := hR2
  have hb := h1.1.1
  have hk8 := h4.2.2.1.2.2
  unfold c_30 w_done
  by_cases hd : 0 ≤ z ∧ z ≤ 999999999
  · by_cases hw : 0 ≤ x ∧ x < kN S
    · obtain ⟨w, rfl, hw2⟩ := natOf hw
      obtain ⟨d, rfl, hd2⟩ := natOf (z := z) (n := 1000000000) ⟨hd.1, by omega⟩
      obtain ⟨r, r1, r2⟩ := endOf_s (a := d) h1 h4 h2 h5 hw2 (by omega)
      refine okq2 (x := zi r) (M1 := brM M (kL S w) 0 (tB C (kL S w) 0)) hR ?_ brM_sam.1 (fun M' hs => ⟨sI M' 99 0 (zi 0), ?_, th0, Sam.th⟩)
      · unfold F_X10_done_0
        rw [needDay_t hd, bV_s, needWork_t h5.2.1.2.2 (by omega) hw, bV_s, r1, cI_s]
      · have c : CalM (sI M' 99 0 (zi 0)) C := h3.sm (hs.tr Sam.th.1)
        have s : StaM (sI M' 99 0 (zi 0)) C S := h6.sm (hs.tr Sam.th.1)
        obtain ⟨q, q1, q2⟩ := doneOf_s (a := d) h1 h4 c s hw2 (by omega)
        rw [NthF_one r2 q2]
        unfold F_X11_done_99
        rw [show (0 : Int32) = zi 0 from rfl, isDay_t hd, cI_s, if_neg (by decide)]
        unfold F_X11_done_99_18
        rw [show (0 : Int32) = zi 0 from rfl, bad_f th0, cI_s, if_pos rfl, isWorkM_t s.2.1.2.2 (by omega) hw, cI_s, if_neg (by decide)]
        unfold F_X11_done_99_40
        rw [bad_f th0, cI_s, if_pos (show zi 0 = 0 from rfl), q1, cI_s]
    · refine okr3 (y := zi 0) 1 hR (by decide) (by decide) ?_ ?_
      · unfold F_X10_done_0
        simp (disch := omega) only [lt_z, cI_s, cJ_s, cV_s, bI_s, bI_e, bV_s, bV_e, zl, zi_neg, zi_add, zi_sub, zi_mul, ↓reduceIte, zb0, zb1, bb_and, bb_t, bb_f, zi_ltT, zi_ltF, zi_leT, zi_leF, zi_eqT, zi_eqF, zi_ixT, zi_nat, Int.toNat_natCast, Int.reduceToNat, ltNT, and_self, needDay_t, needWork_f h5.2.1.2.2]
      · have s : mI (sI (rf M 1) 99 0 (zi 0)) 99 34 = zi (kN S) := h6.2.1.2.2
        unfold F_X11_done_99
        rw [show (0 : Int32) = zi 0 from rfl, isDay_t hd, cI_s, if_neg (by decide)]
        unfold F_X11_done_99_18
        rw [show (0 : Int32) = zi 0 from rfl, bad_f th0, cI_s, if_pos rfl, isWorkM_f s (by omega) hx hw, cI_s, if_pos rfl]
        unfold F_X11_done_99_40
        rw [show (1 : Int32) = zi 1 from rfl, show (2 : Int32) = zi 2 from rfl, bad_t th0 (by decide) (by decide), cI_s, if_neg (by decide)]
        rfl
  · refine okr2 (y := zi 0) 0 hR (by decide) ?_ ?_
    · unfold F_X10_done_0
      simp (disch := omega) only [lt_z, cI_s, cJ_s, cV_s, bI_s, bI_e, bV_s, bV_e, zl, zi_neg, zi_add, zi_sub, zi_mul, ↓reduceIte, zb0, zb1, bb_and, bb_t, bb_f, zi_ltT, zi_ltF, zi_leT, zi_leF, zi_eqT, zi_eqF, zi_ixT, zi_nat, Int.toNat_natCast, Int.reduceToNat, ltNT, and_self, needDay_f]
    · unfold F_X11_done_99
      rw [show (0 : Int32) = zi 0 from rfl, isDay_f hz hd, cI_s, if_pos rfl]
      unfold F_X11_done_99_18
      rw [show (1 : Int32) = zi 1 from rfl, show (0 : Int32) = zi 0 from rfl, bad_t th0 (by decide) (by decide), cI_s, if_neg (by decide)]
      rfl
