/-! fits, look -/
def ftV (C : Cal) (S : Sta) (x : Int) : Int := if x = 0 then (fb_ct (fun t => ftF C S (t : Nat)) (t4 C) : Int) else if x = 1 then frN (fun t => ftF C S (t : Nat)) (t4 C) else lsN (fun t => ftF C S (t : Nat)) (t4 C)
theorem fitsM {M : PM} {C : Cal} {S : Sta} {x : Int} (hc : WFC C) (w : WFS C S) (c : CalM M C) (st : StaM M C S) (hx : x = 0 ∨ x = 1 ∨ x = 2) : F_X11_fits_99_40 FUEL M (zi x) (zi 0) (zi (-1)) (zi (-1)) (zi 0) = rI (zi (ftV C S x)) M := by
  have hT := t4_le hc
  have a1 := c.1.2.2.2.2.1
  exact loopU (t4 C) (fun f i => F_X11_fits_99_40 f M (zi x) (zi (fb_ct (fun t => ftF C S (t : Nat)) i : Nat)) (zi (frN (fun t => ftF C S (t : Nat)) i)) (zi (lsN (fun t => ftF C S (t : Nat)) i)) (zi (i : Nat))) _ (fun f => by
      rw [F_X11_fits_99_40]
      unfold ftV
      generalize fb_ct (fun t => ftF C S (t : Nat)) (t4 C) = n1
      rcases hx with rfl | rfl | rfl <;> simp (disch := omega) only [lt_z, cI_s, cJ_s, cV_s, bI_s, bI_e, bV_s, bV_e, zl, zi_neg, zi_add, zi_sub, zi_mul, ↓reduceIte, zb0, zb1, bb_and, bb_t, bb_f, zi_ltT, zi_ltF, zi_leT, zi_leF, zi_eqT, zi_eqF, zi_ixT, zi_nat, Int.toNat_natCast, Int.reduceToNat, ltNT, and_self, a1, Int.reduceEq]) (fun f i hi => by
      have e := isFit_s (t := i) hc w c st (by omega)
      have hr := frN_rng (fun t => ftF C S (t : Nat)) i
      rw [F_X11_fits_99_40, zc (show ((i + 1 : Nat) : Int) = i + 1 by omega), e, cI_s, frN_succ, lsN]
      unfold F_X11_fits_99_77 F_X11_fits_99_82
      cases h : ftF C S i
      · rw [ctF (p := fun t : Nat => ftF C S (t : Nat)) h, if_neg (by decide : ¬ false = true), if_neg (by decide : ¬ false = true)]
        simp (disch := omega) only [lt_z, cI_s, cJ_s, cV_s, bI_s, bI_e, bV_s, bV_e, zl, zi_neg, zi_add, zi_sub, zi_mul, ↓reduceIte, zb0, zb1, bb_and, bb_t, bb_f, zi_ltT, zi_ltF, zi_leT, zi_leF, zi_eqT, zi_eqF, zi_ixT, zi_nat, Int.toNat_natCast, Int.reduceToNat, ltNT, and_self, a1]
      · rw [ctT (p := fun t : Nat => ftF C S (t : Nat)) h, if_pos rfl, if_pos rfl, zc (show ((fb_ct (fun t : Nat => ftF C S (t : Nat)) i + 1 : Nat) : Int) = (fb_ct (fun t : Nat => ftF C S (t : Nat)) i : Nat) + 1 by omega)]
        by_cases q : frN (fun t => ftF C S (t : Nat)) i = -1
        · rw [if_pos q]
          simp (disch := omega) only [lt_z, cI_s, cJ_s, cV_s, bI_s, bI_e, bV_s, bV_e, zl, zi_neg, zi_add, zi_sub, zi_mul, ↓reduceIte, zb0, zb1, bb_and, bb_t, bb_f, zi_ltT, zi_ltF, zi_leT, zi_leF, zi_eqT, zi_eqF, zi_ixT, zi_nat, Int.toNat_natCast, Int.reduceToNat, ltNT, and_self, a1]
        · rw [if_neg q]
          simp (disch := omega) only [lt_z, cI_s, cJ_s, cV_s, bI_s, bI_e, bV_s, bV_e, zl, zi_neg, zi_add, zi_sub, zi_mul, ↓reduceIte, zb0, zb1, bb_and, bb_t, bb_f, zi_ltT, zi_ltF, zi_leT, zi_leF, zi_eqT, zi_eqF, zi_ixT, zi_nat, Int.toNat_natCast, Int.reduceToNat, ltNT, and_self, a1]) 0 FUEL (by omega) (FUEL_gt (by omega))
theorem ok23 : OK_23 Rel := fun M a1 hR => by
  obtain ⟨z, rfl, hz⟩ := zi_rng a1
  have hR2 := hR
  obtain ⟨C, S, W, h1, h2, h3, h4, h5, h6, h7, h8, h9, h10, h11, h12⟩ := hR2
  unfold c_23 w_fits
  by_cases h : z = 0 ∨ z = 1 ∨ z = 2
  · obtain ⟨N, n1, n2, n3⟩ := survey_s h1 h4 h2 h5
    refine okq1 (x := zi (ftV C S z)) (M1 := N) hR ?_ n2.1 (fun M' hs => ⟨sI M' 99 0 (zi 0), ?_, th0, Sam.th⟩)
    · unfold F_X10_fits_0 F_X10_fits_0_15 ftV
      obtain ⟨v1, v2, v3, -⟩ := n3
      generalize fb_ct (fun t => ftF C S (t : Nat)) (t4 C) = k1 at *
      rcases h with rfl | rfl | rfl <;> simp (disch := omega) only [lt_z, cI_s, cJ_s, cV_s, bI_s, bI_e, bV_s, bV_e, zl, zi_neg, zi_add, zi_sub, zi_mul, ↓reduceIte, zb0, zb1, bb_and, bb_t, bb_f, zi_ltT, zi_ltF, zi_leT, zi_leF, zi_eqT, zi_eqF, zi_ixT, zi_nat, Int.toNat_natCast, Int.reduceToNat, ltNT, and_self, need_t, n1, v1, v2, v3, Int.reduceEq]
    · have c : CalM (sI M' 99 0 (zi 0)) C := h3.sm (hs.tr Sam.th.1)
      have s : StaM (sI M' 99 0 (zi 0)) C S := h6.sm (hs.tr Sam.th.1)
      unfold F_X11_fits_99
      simp (disch := omega) only [lt_z, cI_s, cJ_s, cV_s, bI_s, bI_e, bV_s, bV_e, zl, zi_neg, zi_add, zi_sub, zi_mul, ↓reduceIte, zb0, zb1, bb_and, bb_t, bb_f, zi_ltT, zi_ltF, zi_leT, zi_leF, zi_eqT, zi_eqF, zi_ixT, zi_nat, Int.toNat_natCast, Int.reduceToNat, ltNT, and_self, in_t]
      unfold F_X11_fits_99_20
      rw [bad_f th0, cI_s]
      exact fitsM h1 h4 c s h
  · refine okr1 (y := zi 0) 2 hR (by decide) ?_ ?_
    · unfold F_X10_fits_0 F_X10_fits_0_14 F_X10_fits_0_15
      by_cases q : z < 0
      · simp (disch := omega) only [lt_z, cI_s, cJ_s, cV_s, bI_s, bI_e, bV_s, bV_e, zl, zi_neg, zi_add, zi_sub, zi_mul, ↓reduceIte, zb0, zb1, bb_and, bb_t, bb_f, zi_ltT, zi_ltF, zi_leT, zi_leF, zi_eqT, zi_eqF, zi_ixT, zi_nat, Int.toNat_natCast, Int.reduceToNat, ltNT, and_self, need_f]
      · simp (disch := omega) only [lt_z, cI_s, cJ_s, cV_s, bI_s, bI_e, bV_s, bV_e, zl, zi_neg, zi_add, zi_sub, zi_mul, ↓reduceIte, zb0, zb1, bb_and, bb_t, bb_f, zi_ltT, zi_ltF, zi_leT, zi_leF, zi_eqT, zi_eqF, zi_ixT, zi_nat, Int.toNat_natCast, Int.reduceToNat, ltNT, and_self, need_f]
    · unfold F_X11_fits_99
      simp (disch := omega) only [lt_z, cI_s, cJ_s, cV_s, bI_s, bI_e, bV_s, bV_e, zl, zi_neg, zi_add, zi_sub, zi_mul, ↓reduceIte, zb0, zb1, bb_and, bb_t, bb_f, zi_ltT, zi_ltF, zi_leT, zi_leF, zi_eqT, zi_eqF, zi_ixT, zi_nat, Int.toNat_natCast, Int.reduceToNat, ltNT, and_self, in_f]
      unfold F_X11_fits_99_20
      simp (disch := omega) only [lt_z, cI_s, cJ_s, cV_s, bI_s, bI_e, bV_s, bV_e, zl, zi_neg, zi_add, zi_sub, zi_mul, ↓reduceIte, zb0, zb1, bb_and, bb_t, bb_f, zi_ltT, zi_ltF, zi_leT, zi_leF, zi_eqT, zi_eqF, zi_ixT, zi_nat, Int.toNat_natCast, Int.reduceToNat, ltNT, and_self, bad_t th0]
      rfl
/-- the most that may be left after a look on law l -/
def wrs (n : Nat) (g : Nat → Nat) (l : Nat) : Int := if (n : Int) - g l ≤ g l then (g l : Int) else (n : Int) - g l
/-- the first law with the least such -/
def tel (n : Nat) (g : Nat → Nat) : Nat → Int × Int
  | 0 => (-1, 0)
  | l + 1 => if (tel n g l).1 = -1 ∨ wrs n g l < (tel n g l).2 then ((l : Int), wrs n g l) else tel n g l
theorem tel_ok (n : Nat) (g : Nat → Nat) : ∀ l, (l = 0 → (tel n g l).1 = -1) ∧ (0 < l → ∃ k : Nat, k < l ∧ (tel n g l).1 = k ∧ (tel n g l).2 = wrs n g k)
  | 0 => ⟨fun _ => rfl, fun h => absurd h (by decide)⟩
  | l + 1 => by
    obtain ⟨i1, i2⟩ := tel_ok n g l
    refine ⟨fun h => absurd h (by omega), fun _ => ?_⟩
    rw [tel]
    by_cases q : (tel n g l).1 = -1 ∨ wrs n g l < (tel n g l).2
    · rw [if_pos q]
      exact ⟨l, by omega, rfl, rfl⟩
    · rw [if_neg q]
      by_cases e : l = 0
      · exact absurd (Or.inl (i1 e)) q
      · obtain ⟨k, k1, k2⟩ := i2 (by omega)
        exact ⟨k, by omega, k2⟩
theorem leftAtWorst_s {M : PM} {n : Nat} {g : Nat → Nat} {l : Nat} (hl : l < 12) (h3 : mI M 93 3 = zi n) (h4 : mA M 94 l = zi (g l)) (hn : n ≤ 100000) (hg : g l ≤ 100000) : F_X5_leftAtWorst_93 M (zi l) = rI (zi (wrs n g l)) M := by
  unfold F_X5_leftAtWorst_93 F_J9_max_7cf53 wrs
  by_cases q : (n : Int) - g l ≤ g l
  · rw [if_pos q]
    simp (disch := omega) only [lt_z, cI_s, cJ_s, cV_s, bI_s, bI_e, bV_s, bV_e, zl, zi_neg, zi_add, zi_sub, zi_mul, ↓reduceIte, zb0, zb1, bb_and, bb_t, bb_f, zi_ltT, zi_ltF, zi_leT, zi_leF, zi_eqT, zi_eqF, zi_ixT, zi_nat, Int.toNat_natCast, Int.reduceToNat, ltNT, and_self, h3, h4]
  · rw [if_neg q]
    simp (disch := omega) only [lt_z, cI_s, cJ_s, cV_s, bI_s, bI_e, bV_s, bV_e, zl, zi_neg, zi_add, zi_sub, zi_mul, ↓reduceIte, zb0, zb1, bb_and, bb_t, bb_f, zi_ltT, zi_ltF, zi_leT, zi_leF, zi_eqT, zi_eqF, zi_ixT, zi_nat, Int.toNat_natCast, Int.reduceToNat, ltNT, and_self, h3, h4]
theorem wrs_rng {n : Nat} {g : Nat → Nat} {l : Nat} (hn : n ≤ 100000) (hg : g l ≤ 100000) : -100001 ≤ wrs n g l ∧ wrs n g l ≤ 100000 := by
  unfold wrs
  split <;> omega
theorem telling_s {M : PM} {N n : Nat} {g : Nat → Nat} (hN : N ≤ 12) (h0 : mI M 4 4 = zi N) (h3 : mI M 93 3 = zi n) (h4 : ∀ l, l < N → mA M 94 l = zi (g l)) (hn : n ≤ 100000) (hg : ∀ l, l < N → g l ≤ 100000) : F_X5_tellingLaw_93 M = rI (zi (tel n g N).1) M := by
  unfold F_X5_tellingLaw_93
  exact loopU N (fun f l => F_X5_tellingLaw_93_4 f M (zi (tel n g l).1) (zi (l : Nat))) _ (fun f => by
      rw [F_X5_tellingLaw_93_4]
      simp (disch := omega) only [lt_z, cI_s, cJ_s, cV_s, bI_s, bI_e, bV_s, bV_e, zl, zi_neg, zi_add, zi_sub, zi_mul, ↓reduceIte, zb0, zb1, bb_and, bb_t, bb_f, zi_ltT, zi_ltF, zi_leT, zi_leF, zi_eqT, zi_eqF, zi_ixT, zi_nat, Int.toNat_natCast, Int.reduceToNat, ltNT, and_self, h0]) (fun f l hl => by
      have r1 := wrs_rng (l := l) hn (hg l hl)
      have b1 := leftAtWorst_s (M := M) (g := g) (l := l) (by omega) h3 (h4 l hl) hn (hg l hl)
      obtain ⟨i1, i2⟩ := tel_ok n g l
      rw [F_X5_tellingLaw_93_4, zc (show ((l + 1 : Nat) : Int) = l + 1 by omega), tel]
      unfold F_X5_tellingLaw_93_36 F_X5_tellingLaw_93_38
      by_cases e : l = 0
      · have := i1 e
        rw [if_pos (Or.inl this)]
        generalize tel n g l = a at *
        simp (disch := omega) only [lt_z, cI_s, cJ_s, cV_s, bI_s, bI_e, bV_s, bV_e, zl, zi_neg, zi_add, zi_sub, zi_mul, ↓reduceIte, zb0, zb1, bb_and, bb_t, bb_f, zi_ltT, zi_ltF, zi_leT, zi_leF, zi_eqT, zi_eqF, zi_ixT, zi_nat, Int.toNat_natCast, Int.reduceToNat, ltNT, and_self, h0]
      · obtain ⟨k, k1, k2, k3⟩ := i2 (by omega)
        have r2 := wrs_rng (l := k) hn (hg k (by omega))
        have b2 := leftAtWorst_s (M := M) (g := g) (l := k) (by omega) h3 (h4 k (by omega)) hn (hg k (by omega))
        rw [k2, k3, b1, cI_s, b2, cI_s]
        generalize wrs n g l = v1 at *
        generalize wrs n g k = v2 at *
        by_cases q : v1 < v2
        · rw [if_pos (Or.inr q)]
          simp (disch := omega) only [lt_z, cI_s, cJ_s, cV_s, bI_s, bI_e, bV_s, bV_e, zl, zi_neg, zi_add, zi_sub, zi_mul, ↓reduceIte, zb0, zb1, bb_and, bb_t, bb_f, zi_ltT, zi_ltF, zi_leT, zi_leF, zi_eqT, zi_eqF, zi_ixT, zi_nat, Int.toNat_natCast, Int.reduceToNat, ltNT, and_self, h0]
        · rw [if_neg (show ¬ ((k : Int) = -1 ∨ v1 < v2) by omega), k2]
          simp (disch := omega) only [lt_z, cI_s, cJ_s, cV_s, bI_s, bI_e, bV_s, bV_e, zl, zi_neg, zi_add, zi_sub, zi_mul, ↓reduceIte, zb0, zb1, bb_and, bb_t, bb_f, zi_ltT, zi_ltF, zi_leT, zi_leF, zi_eqT, zi_eqF, zi_ixT, zi_nat, Int.toNat_natCast, Int.reduceToNat, ltNT, and_self, h0]) 0 FUEL (by omega) (FUEL_gt (by omega))
def lkV (n N : Nat) (g : Nat → Nat) (x : Int) : Int := if x = 0 then (tel n g N).1 else if (tel n g N).1 = -1 then (n : Int) else (tel n g N).2
theorem lookC {M : PM} {N n : Nat} {g : Nat → Nat} {x : Int} (hx : x = 0 ∨ x = 1) (hN : N ≤ 12) (h0 : mI M 4 4 = zi N) (h3 : mI M 93 3 = zi n) (h4 : ∀ l, l < N → mA M 94 l = zi (g l)) (hn : n ≤ 100000) (hg : ∀ l, l < N → g l ≤ 100000) : (cI (F_X5_tellingLaw_93 M) fun v670 M669 => (if zi x = 0 then some (.inl (some (.int v670)), M669) else cI (F_X5_leftAtWorst_93 M669 v670) fun v672 M671 => some (.inl (some (.int v672)), M671))) = rI (zi (lkV n N g x)) M := by
  rw [telling_s hN h0 h3 h4 hn hg, cI_s]
  unfold lkV
  rcases hx with rfl | rfl
  · rw [if_pos rfl, if_pos (by decide)]
  · rw [if_neg (by decide : ¬ (1 : Int) = 0), if_neg (by decide)]
    obtain ⟨i1, i2⟩ := tel_ok n g N
    by_cases e : N = 0
    · rw [i1 e, if_pos rfl]
      unfold F_X5_leftAtWorst_93
      rw [if_pos (by decide), cI_s, h3]
    · obtain ⟨k, k1, k2, k3⟩ := i2 (by omega)
      rw [k2, k3, if_neg (by omega), leftAtWorst_s (g := g) (by omega) h3 (h4 k (by omega)) hn (hg k (by omega)), cI_s]
theorem look145 {M : PM} {C : Cal} {n : Nat} {g : Nat → Nat} {x : Int} (hc : WFC C) (c : CalM M C) (hx : x = 0 ∨ x = 1) (h4 : ∀ l, l < cN C → mA M 126 l = zi (g l)) (hn : n ≤ 100000) (hg : ∀ l, l < cN C → g l ≤ 100000) : F_X11_look_99_145 FUEL M (zi x) (zi n) (zi (-1)) (zi 0) (zi 0) = rI (zi (lkV n (cN C) g x)) M := by
  have hN := hc.1.1
  have a1 := c.1.1
  exact loopU (cN C) (fun f l => F_X11_look_99_145 f M (zi x) (zi n) (zi (tel n g l).1) (zi (tel n g l).2) (zi (l : Nat))) _ (fun f => by
      obtain ⟨i1, i2⟩ := tel_ok n g (cN C)
      have hr : -1 ≤ (tel n g (cN C)).1 ∧ (tel n g (cN C)).1 < 20 := by
        by_cases e : cN C = 0
        · rw [i1 e]; omega
        · obtain ⟨k, k1, k2, -⟩ := i2 (by omega)
          rw [k2]; omega
      rw [F_X11_look_99_145]
      unfold lkV
      generalize tel n g (cN C) = a at *
      rcases hx with rfl | rfl
      · simp (disch := omega) only [lt_z, cI_s, cJ_s, cV_s, bI_s, bI_e, bV_s, bV_e, zl, zi_neg, zi_add, zi_sub, zi_mul, ↓reduceIte, zb0, zb1, bb_and, bb_t, bb_f, zi_ltT, zi_ltF, zi_leT, zi_leF, zi_eqT, zi_eqF, zi_ixT, zi_nat, Int.toNat_natCast, Int.reduceToNat, ltNT, and_self, a1]
      · rw [if_neg (by decide : ¬ (1 : Int) = 0)]
        by_cases q : a.1 = -1
        · rw [if_pos q]; simp (disch := omega) only [lt_z, cI_s, cJ_s, cV_s, bI_s, bI_e, bV_s, bV_e, zl, zi_neg, zi_add, zi_sub, zi_mul, ↓reduceIte, zb0, zb1, bb_and, bb_t, bb_f, zi_ltT, zi_ltF, zi_leT, zi_leF, zi_eqT, zi_eqF, zi_ixT, zi_nat, Int.toNat_natCast, Int.reduceToNat, ltNT, and_self, a1]
        · rw [if_neg q]; simp (disch := omega) only [lt_z, cI_s, cJ_s, cV_s, bI_s, bI_e, bV_s, bV_e, zl, zi_neg, zi_add, zi_sub, zi_mul, ↓reduceIte, zb0, zb1, bb_and, bb_t, bb_f, zi_ltT, zi_ltF, zi_leT, zi_leF, zi_eqT, zi_eqF, zi_ixT, zi_nat, Int.toNat_natCast, Int.reduceToNat, ltNT, and_self, a1]) (fun f l hl => by
      have r1 := wrs_rng (l := l) hn (hg l hl)
      have hgl := hg l hl
      have h4l := h4 l hl
      obtain ⟨i1, i2⟩ := tel_ok n g l
      have hr : (-1 ≤ (tel n g l).1 ∧ (tel n g l).1 < 20) ∧ -100001 ≤ (tel n g l).2 ∧ (tel n g l).2 ≤ 100000 := by
        by_cases e : l = 0
        · subst e
          show (-1 ≤ (-1 : Int) ∧ (-1 : Int) < 20) ∧ -100001 ≤ (0 : Int) ∧ (0 : Int) ≤ 100000
          omega
        · obtain ⟨k, k1, k2, k3⟩ := i2 (by omega)
          have := wrs_rng (l := k) hn (hg k (by omega))
          rw [k2, k3]; omega
      have hw : wrs n g l = if (n : Int) - g l ≤ g l then (g l : Int) else (n : Int) - g l := rfl
      rw [F_X11_look_99_145, zc (show ((l + 1 : Nat) : Int) = l + 1 by omega), tel]
      unfold F_X11_look_99_194 F_X11_look_99_211 F_X11_look_99_218
      generalize tel n g l = a at *
      by_cases q0 : (g l : Int) ≤ (n : Int) - g l
      · have hw2 : wrs n g l = (n : Int) - g l := by rw [hw]; split <;> omega
        rw [hw2] at r1 ⊢
        by_cases q1 : a.1 = -1
        · rw [if_pos (Or.inl q1)]; simp (disch := omega) only [lt_z, cI_s, cJ_s, cV_s, bI_s, bI_e, bV_s, bV_e, zl, zi_neg, zi_add, zi_sub, zi_mul, ↓reduceIte, zb0, zb1, bb_and, bb_t, bb_f, zi_ltT, zi_ltF, zi_leT, zi_leF, zi_eqT, zi_eqF, zi_ixT, zi_nat, Int.toNat_natCast, Int.reduceToNat, ltNT, and_self, a1, h4l]
        · by_cases q2 : (n : Int) - g l < a.2
          · rw [if_pos (Or.inr q2)]; simp (disch := omega) only [lt_z, cI_s, cJ_s, cV_s, bI_s, bI_e, bV_s, bV_e, zl, zi_neg, zi_add, zi_sub, zi_mul, ↓reduceIte, zb0, zb1, bb_and, bb_t, bb_f, zi_ltT, zi_ltF, zi_leT, zi_leF, zi_eqT, zi_eqF, zi_ixT, zi_nat, Int.toNat_natCast, Int.reduceToNat, ltNT, and_self, a1, h4l]
          · rw [if_neg (by omega : ¬ (a.1 = -1 ∨ (n : Int) - g l < a.2))]; simp (disch := omega) only [lt_z, cI_s, cJ_s, cV_s, bI_s, bI_e, bV_s, bV_e, zl, zi_neg, zi_add, zi_sub, zi_mul, ↓reduceIte, zb0, zb1, bb_and, bb_t, bb_f, zi_ltT, zi_ltF, zi_leT, zi_leF, zi_eqT, zi_eqF, zi_ixT, zi_nat, Int.toNat_natCast, Int.reduceToNat, ltNT, and_self, a1, h4l]
      · have hw2 : wrs n g l = (g l : Int) := by rw [hw]; split <;> omega
        rw [hw2] at r1 ⊢
        by_cases q1 : a.1 = -1
        · rw [if_pos (Or.inl q1)]; simp (disch := omega) only [lt_z, cI_s, cJ_s, cV_s, bI_s, bI_e, bV_s, bV_e, zl, zi_neg, zi_add, zi_sub, zi_mul, ↓reduceIte, zb0, zb1, bb_and, bb_t, bb_f, zi_ltT, zi_ltF, zi_leT, zi_leF, zi_eqT, zi_eqF, zi_ixT, zi_nat, Int.toNat_natCast, Int.reduceToNat, ltNT, and_self, a1, h4l]
        · by_cases q2 : (g l : Int) < a.2
          · rw [if_pos (Or.inr q2)]; simp (disch := omega) only [lt_z, cI_s, cJ_s, cV_s, bI_s, bI_e, bV_s, bV_e, zl, zi_neg, zi_add, zi_sub, zi_mul, ↓reduceIte, zb0, zb1, bb_and, bb_t, bb_f, zi_ltT, zi_ltF, zi_leT, zi_leF, zi_eqT, zi_eqF, zi_ixT, zi_nat, Int.toNat_natCast, Int.reduceToNat, ltNT, and_self, a1, h4l]
          · rw [if_neg (by omega : ¬ (a.1 = -1 ∨ (g l : Int) < a.2))]; simp (disch := omega) only [lt_z, cI_s, cJ_s, cV_s, bI_s, bI_e, bV_s, bV_e, zl, zi_neg, zi_add, zi_sub, zi_mul, ↓reduceIte, zb0, zb1, bb_and, bb_t, bb_f, zi_ltT, zi_ltF, zi_leT, zi_leF, zi_eqT, zi_eqF, zi_ixT, zi_nat, Int.toNat_natCast, Int.reduceToNat, ltNT, and_self, a1, h4l]) 0 FUEL (by omega) (FUEL_gt (by omega))
theorem look93 {M : PM} {C : Cal} {t : Nat} {a b d e : Int32} {k : PM → Int32 → Int32 → Int32 → Int32 → Int32 → Option PR} (hc : WFC C) (c : CalM M C) (ht : t < 1000000) : ∃ N, F_X11_look_99_93 k FUEL M a b d e (zi t) (zi 0) = k N a b d e (zi (t + 1)) ∧ Sam M N ∧ mI N 99 0 = mI M 99 0 ∧ ∀ l, l < cN C → mA N 126 l = mA M 126 l + zi ((if hb (cW C l) (cD C l) t = true then 1 else 0 : Nat)) := by
  have hn := hc.1.1
  have h := loopS (σ := Nat × PM) (fun f s => F_X11_look_99_93 k f s.2 a b d e (zi t) (zi (s.1 : Nat))) (fun o => ∃ N, o = k N a b d e (zi (t + 1)) ∧ Sam M N ∧ mI N 99 0 = mI M 99 0 ∧ ∀ l, l < cN C → mA N 126 l = mA M 126 l + zi ((if hb (cW C l) (cD C l) t = true then 1 else 0 : Nat))) (fun r s => s.1 ≤ cN C ∧ r = cN C - s.1 ∧ Sam M s.2 ∧ mI s.2 99 0 = mI M 99 0 ∧ (∀ l, l < s.1 → mA s.2 126 l = mA M 126 l + zi ((if hb (cW C l) (cD C l) t = true then 1 else 0 : Nat))) ∧ ∀ l, s.1 ≤ l → mA s.2 126 l = mA M 126 l) (fun f r s hI => by
    obtain ⟨j, N⟩ := s
    obtain ⟨h1, h2, h3, h9, h5, h6⟩ := hI
    simp only at h1 h2 h3 h9 h5 h6
    have cn := c.sm h3.1
    have a1 := cn.1.1
    by_cases hj : j = cN C
    · left
      subst hj
      refine ⟨N, ?_, h3, h9, h5⟩
      show F_X11_look_99_93 k (f + 1) N a b d e (zi t) (zi (cN C)) = _
      rw [F_X11_look_99_93]
      unfold F_X11_look_99_136
      simp (disch := omega) only [lt_z, cI_s, cJ_s, cV_s, bI_s, bI_e, bV_s, bV_e, zl, zi_neg, zi_add, zi_sub, zi_mul, ↓reduceIte, zb0, zb1, bb_and, bb_t, bb_f, zi_ltT, zi_ltF, zi_leT, zi_leF, zi_eqT, zi_eqF, zi_ixT, zi_nat, Int.toNat_natCast, Int.reduceToNat, ltNT, and_self, a1]
    · right
      have hjn : j < cN C := by omega
      have hh := holdsAt_s (t := (t : Int)) hc cn hjn (by omega)
      refine ⟨cN C - (j + 1), (j + 1, sA N 126 j (mA M 126 j + zi ((if hb (cW C j) (cD C j) t = true then 1 else 0 : Nat)))), by omega, ⟨by show j + 1 ≤ cN C; omega, rfl, Sam.a 126 j _ (by decide) h3, h9, fun l hl => ?_, fun l hl => ?_⟩, ?_⟩
      · show (sA N 126 j _).2.2.1 126 l = _
        by_cases q : l = j
        · rw [q, rA_at]
        · rw [rA_nk q]
          exact h5 l (by have : l < j + 1 := hl; omega)
      · show (sA N 126 j _).2.2.1 126 l = _
        have : j + 1 ≤ l := hl
        rw [rA_nk (by omega)]
        exact h6 l (by omega)
      · show F_X11_look_99_93 k (f + 1) N a b d e (zi t) (zi j) = F_X11_look_99_93 k f (sA N 126 j (mA M 126 j + zi ((if hb (cW C j) (cD C j) t = true then 1 else 0 : Nat)))) a b d e (zi t) (zi ((j + 1 : Nat)))
        rw [F_X11_look_99_93, zc (show ((j + 1 : Nat) : Int) = j + 1 by omega), hh, cI_s, ← h6 j (Nat.le_refl _)]
        unfold F_X11_look_99_128
        cases hb (cW C j) (cD C j) t
        · rw [if_neg (by decide : ¬ false = true)]
          simp (disch := omega) only [lt_z, zl, ↓reduceIte, bb_f, zi_ltT, zi_ltF, zi_leT, zi_leF, zi_eqT, zi_eqF, zi_ixT, zi_nat, Int.toNat_natCast, Int.reduceToNat, ltNT, and_self, a1, zi_add]
          rfl
        · rw [if_pos rfl]
          simp (disch := omega) only [lt_z, zl, ↓reduceIte, bb_t, zi_ltT, zi_ltF, zi_leT, zi_leF, zi_eqT, zi_eqF, zi_ixT, zi_nat, Int.toNat_natCast, Int.reduceToNat, ltNT, and_self, a1, zi_add]
          rfl) (cN C) (0, M) FUEL ⟨Nat.zero_le _, rfl, Sam.rf, rfl, fun l hl => absurd hl (Nat.not_lt_zero l), fun _ _ => rfl⟩ (FUEL_gt (by omega))
  exact h
theorem look64 {M : PM} {C : Cal} {S : Sta} {x : Int} (hc : WFC C) (w : WFS C S) (c : CalM M C) (st : StaM M C S) (hx : x = 0 ∨ x = 1) (h0 : ∀ l, l < cN C → mA M 126 l = zi 0) : ∃ N, F_X11_look_99_64 FUEL M (zi x) (zi 0) (zi (-1)) (zi 0) (zi 0) = rI (zi (lkV (fb_ct (fun t => ftF C S (t : Nat)) (t4 C)) (cN C) (fun l => fb_ct (fun t => ftF C S (t : Nat) && hb (cW C l) (cD C l) (t : Nat)) (t4 C)) x)) N ∧ Sam M N ∧ mI N 99 0 = mI M 99 0 := by
  have hT := t4_le hc
  have h := loopS (σ := Nat × PM) (fun f s => F_X11_look_99_64 f s.2 (zi x) (zi (fb_ct (fun t => ftF C S (t : Nat)) s.1 : Nat)) (zi (-1)) (zi 0) (zi (s.1 : Nat))) (fun o => ∃ N, o = rI (zi (lkV (fb_ct (fun t => ftF C S (t : Nat)) (t4 C)) (cN C) (fun l => fb_ct (fun t => ftF C S (t : Nat) && hb (cW C l) (cD C l) (t : Nat)) (t4 C)) x)) N ∧ Sam M N ∧ mI N 99 0 = mI M 99 0) (fun r s => s.1 ≤ t4 C ∧ r = t4 C - s.1 ∧ Sam M s.2 ∧ mI s.2 99 0 = mI M 99 0 ∧ ∀ l, l < cN C → mA s.2 126 l = zi (fb_ct (fun t => ftF C S (t : Nat) && hb (cW C l) (cD C l) (t : Nat)) s.1)) (fun f r s hI => by
    obtain ⟨t, N⟩ := s
    obtain ⟨h1, h2, h3, h9, h5⟩ := hI
    simp only at h1 h2 h3 h9 h5
    have cn := c.sm h3.1
    have sn := st.sm h3.1
    have a1 := cn.1.2.2.2.2.1
    by_cases ht : t = t4 C
    · left
      subst ht
      refine ⟨N, ?_, h3, h9⟩
      show F_X11_look_99_64 (f + 1) N (zi x) (zi (fb_ct (fun t => ftF C S (t : Nat)) (t4 C) : Nat)) (zi (-1)) (zi 0) (zi (t4 C)) = _
      rw [F_X11_look_99_64, if_pos (by decide), if_pos (by show mA N 103 4 ≤ zi (t4 C); rw [a1, zi_le (by omega) (by omega)]; omega)]
      exact look145 hc cn hx h5 (Nat.le_trans (fb_ct_le _ _) hT) (fun l hl => Nat.le_trans (fb_ct_le _ _) hT)
    · right
      have htn : t < t4 C := by omega
      have hf := isFit_s (t := t) hc w cn sn (by omega)
      have hneg : ¬ mA N 103 4 ≤ zi t := by rw [a1, zi_le (by omega) (by omega)]; omega
      cases hq : ftF C S t with
      | false =>
        rw [hq] at hf
        refine ⟨t4 C - (t + 1), (t + 1, N), by omega, ⟨by show t + 1 ≤ t4 C; omega, rfl, h3, h9, fun l hl => ?_⟩, ?_⟩
        · show mA N 126 l = zi (fb_ct (fun t => ftF C S (t : Nat) && hb (cW C l) (cD C l) (t : Nat)) (t + 1))
          rw [ctF (p := fun t : Nat => ftF C S (t : Nat) && hb (cW C l) (cD C l) (t : Nat)) (by show (ftF C S (t : Nat) && _) = false; rw [hq, Bool.false_and])]
          exact h5 l hl
        · show F_X11_look_99_64 (f + 1) N (zi x) (zi (fb_ct (fun t => ftF C S (t : Nat)) t : Nat)) (zi (-1)) (zi 0) (zi t) = F_X11_look_99_64 f N (zi x) (zi (fb_ct (fun t => ftF C S (t : Nat)) (t + 1) : Nat)) (zi (-1)) (zi 0) (zi ((t + 1 : Nat)))
          rw [F_X11_look_99_64, ctF (p := fun t : Nat => ftF C S (t : Nat)) hq, hf, cI_s, zc (show ((t + 1 : Nat) : Int) = t + 1 by omega)]
          unfold F_X11_look_99_136
          simp (disch := omega) only [lt_z, cI_s, cJ_s, cV_s, bI_s, bI_e, bV_s, bV_e, zl, zi_neg, zi_add, zi_sub, zi_mul, ↓reduceIte, zb0, zb1, bb_and, bb_t, bb_f, zi_ltT, zi_ltF, zi_leT, zi_leF, zi_eqT, zi_eqF, zi_ixT, zi_nat, Int.toNat_natCast, Int.reduceToNat, ltNT, and_self, a1]
      | true =>
        rw [hq] at hf
        obtain ⟨K, k1, k2, k3, k4⟩ := look93 (t := t) (a := zi x) (b := zi ((fb_ct (fun t => ftF C S (t : Nat)) (t + 1) : Nat))) (d := zi (-1)) (e := zi 0) (k := F_X11_look_99_64 f) hc cn (by omega)
        refine ⟨t4 C - (t + 1), (t + 1, K), by omega, ⟨by show t + 1 ≤ t4 C; omega, rfl, h3.tr k2, k3.trans h9, fun l hl => ?_⟩, ?_⟩
        · show mA K 126 l = zi (fb_ct (fun t => ftF C S (t : Nat) && hb (cW C l) (cD C l) (t : Nat)) (t + 1))
          rw [k4 l hl, h5 l hl, zi_add, ← Int.natCast_add, fb_ct_succ]
          show zi ((fb_ct (fun t => ftF C S (t : Nat) && hb (cW C l) (cD C l) (t : Nat)) t + (if hb (cW C l) (cD C l) t = true then 1 else 0) : Nat)) = zi ((fb_ct (fun t => ftF C S (t : Nat) && hb (cW C l) (cD C l) (t : Nat)) t + (if (ftF C S (t : Nat) && hb (cW C l) (cD C l) (t : Nat)) = true then 1 else 0) : Nat))
          rw [hq, Bool.true_and]
        · show F_X11_look_99_64 (f + 1) N (zi x) (zi (fb_ct (fun t => ftF C S (t : Nat)) t : Nat)) (zi (-1)) (zi 0) (zi t) = F_X11_look_99_64 f K (zi x) (zi (fb_ct (fun t => ftF C S (t : Nat)) (t + 1) : Nat)) (zi (-1)) (zi 0) (zi ((t + 1 : Nat)))
          rw [zc (show ((t + 1 : Nat) : Int) = t + 1 by omega), ← k1, F_X11_look_99_64, ctT (p := fun t : Nat => ftF C S (t : Nat)) hq, hf, cI_s, zc (show ((fb_ct (fun t : Nat => ftF C S (t : Nat)) t + 1 : Nat) : Int) = (fb_ct (fun t : Nat => ftF C S (t : Nat)) t : Nat) + 1 by omega)]
          generalize fb_ct (fun t : Nat => ftF C S (t : Nat)) t = n1
          simp (disch := omega) only [lt_z, cI_s, cJ_s, cV_s, bI_s, bI_e, bV_s, bV_e, zl, zi_neg, zi_add, zi_sub, zi_mul, ↓reduceIte, zb0, zb1, bb_and, bb_t, bb_f, zi_ltT, zi_ltF, zi_leT, zi_leF, zi_eqT, zi_eqF, zi_ixT, zi_nat, Int.toNat_natCast, Int.reduceToNat, ltNT, and_self, a1]) (t4 C) (0, M) FUEL ⟨Nat.zero_le _, rfl, Sam.rf, rfl, h0⟩ (FUEL_gt (by omega))
  exact h
theorem look40 {M : PM} {C : Cal} {S : Sta} {x : Int} (hc : WFC C) (w : WFS C S) (c : CalM M C) (st : StaM M C S) (hx : x = 0 ∨ x = 1) : ∃ N, F_X11_look_99_40 FUEL M (zi x) (zi 0) (zi (-1)) (zi 0) (zi 0) = rI (zi (lkV (fb_ct (fun t => ftF C S (t : Nat)) (t4 C)) (cN C) (fun l => fb_ct (fun t => ftF C S (t : Nat) && hb (cW C l) (cD C l) (t : Nat)) (t4 C)) x)) N ∧ Sam M N ∧ mI N 99 0 = mI M 99 0 := by
  have hn := hc.1.1
  have h := loopS (σ := Nat × PM) (fun f s => F_X11_look_99_40 f s.2 (zi x) (zi 0) (zi (-1)) (zi 0) (zi (s.1 : Nat))) (fun o => ∃ N, o = rI (zi (lkV (fb_ct (fun t => ftF C S (t : Nat)) (t4 C)) (cN C) (fun l => fb_ct (fun t => ftF C S (t : Nat) && hb (cW C l) (cD C l) (t : Nat)) (t4 C)) x)) N ∧ Sam M N ∧ mI N 99 0 = mI M 99 0) (fun r s => s.1 ≤ 12 ∧ r = 12 - s.1 ∧ Sam M s.2 ∧ mI s.2 99 0 = mI M 99 0 ∧ ∀ l, l < s.1 → mA s.2 126 l = zi 0) (fun f r s hI => by
    obtain ⟨a, N⟩ := s
    obtain ⟨h1, h2, h3, h4, h5⟩ := hI
    simp only at h1 h2 h3 h4 h5
    by_cases e : a = 12
    · left
      subst e
      obtain ⟨K, k1, k2, k3⟩ := look64 hc w (c.sm h3.1) (st.sm h3.1) hx (fun l hl => h5 l (by omega))
      refine ⟨K, ?_, h3.tr k2, k3.trans h4⟩
      show F_X11_look_99_40 (f + 1) N (zi x) (zi 0) (zi (-1)) (zi 0) (zi (12 : Nat)) = _
      rw [F_X11_look_99_40, if_pos (by decide)]
      exact k1
    · right
      refine ⟨12 - (a + 1), (a + 1, sA N 126 a (zi 0)), by omega, ⟨by show a + 1 ≤ 12; omega, rfl, Sam.a 126 a _ (by decide) h3, h4, fun l hl => ?_⟩, ?_⟩
      · show (sA N 126 a (zi 0)).2.2.1 126 l = zi 0
        by_cases q : l = a
        · rw [q, rA_at]
        · rw [rA_nk q]
          exact h5 l (by have : l < a + 1 := hl; omega)
      · show F_X11_look_99_40 (f + 1) N (zi x) (zi 0) (zi (-1)) (zi 0) (zi a) = F_X11_look_99_40 f (sA N 126 a (zi 0)) (zi x) (zi 0) (zi (-1)) (zi 0) (zi ((a + 1 : Nat)))
        rw [F_X11_look_99_40, zc (show ((a + 1 : Nat) : Int) = a + 1 by omega)]
        simp (disch := omega) only [lt_z, cI_s, cJ_s, cV_s, bI_s, bI_e, bV_s, bV_e, zl, zi_neg, zi_add, zi_sub, zi_mul, ↓reduceIte, zb0, zb1, bb_and, bb_t, bb_f, zi_ltT, zi_ltF, zi_leT, zi_leF, zi_eqT, zi_eqF, zi_ixT, zi_nat, Int.toNat_natCast, Int.reduceToNat, ltNT, and_self]) 12 (0, M) FUEL ⟨by show 0 ≤ 12; omega, rfl, Sam.rf, rfl, fun l hl => absurd hl (Nat.not_lt_zero l)⟩ (FUEL_gt (by omega))
  exact h
theorem lk1 {M : PM} {z : Int} (h : z = 0 ∨ z = 1) : F_X11_look_99 M (zi z) = F_X11_look_99_20 (sI M 99 0 (zi 0)) (zi z) (zi 0) := by
  unfold F_X11_look_99
  rw [show (0 : Int32) = zi 0 from rfl, show (1 : Int32) = zi 1 from rfl, in_t (by omega) (by omega), cI_s, if_neg (by decide)]
theorem lk2 {N : PM} {z : Int} (h0 : mI N 99 0 = zi 0) : F_X11_look_99_20 N (zi z) (zi 0) = F_X11_look_99_40 FUEL N (zi z) (zi 0) (zi (-1)) (zi 0) (zi 0) := by
  unfold F_X11_look_99_20
  rw [bad_f h0, cI_s, if_pos (show zi 0 = 0 from rfl), show (-1 : Int32) = zi (-1) from rfl, show (0 : Int32) = zi 0 from rfl]
theorem ok24 : OK_24 Rel := fun M a1 hR => by
  obtain ⟨z, rfl, hz⟩ := zi_rng a1
  have hR2 := hR
  obtain ⟨C, S, W, h1, h2, h3, h4, h5, h6, h7, h8, h9, h10, h11, h12⟩ := hR2
  have hT := t4_le h1
  unfold c_24 w_look
  by_cases h : z = 0 ∨ z = 1
  · obtain ⟨N, n1, n2, n3⟩ := survey_s h1 h4 h2 h5
    obtain ⟨v1, v2, v3, v4⟩ := n3
    have l1 := lookC h h1.1.1 (h2.sm n2.1).1.1 v1 v4 (Nat.le_trans (fb_ct_le _ _) hT) (fun l hl => Nat.le_trans (fb_ct_le _ _) hT)
    have l2 := fun (M' : PM) (hs : Sam0 M M') => look40 h1 h4 (h3.sm (hs.tr Sam.th.1)) (h6.sm (hs.tr Sam.th.1)) h
    generalize lkV (fb_ct (fun t => ftF C S (t : Nat)) (t4 C)) (cN C) (fun l => fb_ct (fun t => ftF C S (t : Nat) && hb (cW C l) (cD C l) (t : Nat)) (t4 C)) z = V at l1 l2
    clear v1 v2 v3 v4
    refine okq1 (x := zi V) (M1 := N) hR ?_ n2.1 (fun M' hs => ?_)
    · unfold F_X10_look_0
      rw [needEither_t h, bV_s, n1, cV_s]
      exact l1
    · obtain ⟨K, k1, k2, k3⟩ := l2 M' hs
      refine ⟨K, ?_, k3.trans th0, Sam.th.tr k2⟩
      rw [lk1 h, lk2 th0]
      exact k1
  · refine okr1 (y := zi 0) 2 hR (by decide) ?_ ?_
    · unfold F_X10_look_0
      simp (disch := omega) only [lt_z, cI_s, cJ_s, cV_s, bI_s, bI_e, bV_s, bV_e, zl, zi_neg, zi_add, zi_sub, zi_mul, ↓reduceIte, zb0, zb1, bb_and, bb_t, bb_f, zi_ltT, zi_ltF, zi_leT, zi_leF, zi_eqT, zi_eqF, zi_ixT, zi_nat, Int.toNat_natCast, Int.reduceToNat, ltNT, and_self, needEither_f]
    · unfold F_X11_look_99
      simp (disch := omega) only [lt_z, cI_s, cJ_s, cV_s, bI_s, bI_e, bV_s, bV_e, zl, zi_neg, zi_add, zi_sub, zi_mul, ↓reduceIte, zb0, zb1, bb_and, bb_t, bb_f, zi_ltT, zi_ltF, zi_leT, zi_leF, zi_eqT, zi_eqF, zi_ixT, zi_nat, Int.toNat_natCast, Int.reduceToNat, ltNT, and_self, in_f]
      unfold F_X11_look_99_20
      simp (disch := omega) only [lt_z, cI_s, cJ_s, cV_s, bI_s, bI_e, bV_s, bV_e, zl, zi_neg, zi_add, zi_sub, zi_mul, ↓reduceIte, zb0, zb1, bb_and, bb_t, bb_f, zi_ltT, zi_ltF, zi_leT, zi_leF, zi_eqT, zi_eqF, zi_ixT, zi_nat, Int.toNat_natCast, Int.reduceToNat, ltNT, and_self, bad_t th0]
      rfl
