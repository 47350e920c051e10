theorem frN_succ (p : Nat → Bool) (n : Nat) : frN p (n + 1) = if p n = true then (if frN p n = -1 then (n : Int) else frN p n) else frN p n := by
  by_cases e : frN p n = -1
  · have h := frN_0 e
    by_cases hp : p n = true
    · rw [if_pos hp, if_pos e]
      exact frN_at (by omega) hp h
    · rw [if_neg hp, e]
      refine frN_none (fun j hj => ?_)
      by_cases q : j = n
      · rw [q]; exact Bool.eq_false_iff.mpr hp
      · exact h j (by omega)
  · rw [if_neg e, frN_keep e (by omega : n ≤ n + 1)]
    split <;> rfl
theorem Srv_skip {C : Cal} {p : Nat → Bool} {a T : Nat} {N : PM} (ha : a < T) (h : ∀ i, i < 64 → (p (a + i) && decide ((i : Int) < (T : Int) - a)) = false) (hv : Srv C p a N) : Srv C p (min (a + 64) T) N := by
  have hz : ∀ j, a ≤ j → j < min (a + 64) T → p j = false := fun j h1 h2 => by
    have := h (j - a) (by omega)
    rw [show a + (j - a) = j by omega, decide_eq_true (by omega), Bool.and_true] at this
    exact this
  have hc : ∀ q : Nat → Bool, (∀ j, a ≤ j → j < min (a + 64) T → q j = false) → fb_ct q (min (a + 64) T) = fb_ct q a := fun q hq => by
    have e := fb_ct_split q a (min (a + 64) T - a)
    rw [show a + (min (a + 64) T - a) = min (a + 64) T by omega] at e
    rw [e, fb_ct_zero.mpr (fun k hk => hq (a + k) (by omega) (by omega))]
    rfl
  obtain ⟨v1, v2, v3, v4⟩ := hv
  refine ⟨by rw [hc p hz]; exact v1, ?_, by rw [lsN_none (n := a) (by omega) hz]; exact v3, fun l hl => ?_⟩
  · by_cases e : frN p a = -1
    · have hn := frN_0 e
      rw [frN_none (n := min (a + 64) T) (fun j hj => by
        by_cases q : j < a
        · exact hn j q
        · exact hz j (by omega) hj), ← e]
      exact v2
    · rw [frN_keep e (by omega)]
      exact v2
  · rw [hc (fun t => p t && hb (cW C l) (cD C l) (t : Nat)) (fun j h1 h2 => by show (p j && _) = false; rw [hz j h1 h2, Bool.false_and])]
    exact v4 l hl
theorem lb_zero {x : Int64} (h : fb_ct (lb x) 64 = 0) : x = 0 := lb_ext (fun i hi => by rw [fb_ct_zero.mp h i hi, lb_0])
theorem survey41 {M : PM} {C : Cal} {S : Sta} (hc : WFC C) (w : WFS C S) (c : CalC M C) (st : StaC M C S 16) (hv : Srv C (fun t => ftF C S (t : Nat)) 0 M) : ∃ N, F_X5_survey_93_41 FUEL M (zi 0) = rV N ∧ Sam M N ∧ Srv C (fun t => ftF C S (t : Nat)) (t4 C) N := by
  have hT := t4_le hc
  have h := loopS (σ := Nat × PM) (fun f s => F_X5_survey_93_41 f s.2 (zi (s.1 : Nat))) (fun o => ∃ N, o = rV N ∧ Sam M N ∧ Srv C (fun t => ftF C S (t : Nat)) (t4 C) N) (fun r s => r = t4 C - s.1 ∧ s.1 ≤ t4 C + 64 ∧ Sam M s.2 ∧ Srv C (fun t => ftF C S (t : Nat)) (min s.1 (t4 C)) s.2) (fun f r s hI => by
    obtain ⟨a, N⟩ := s
    obtain ⟨h1, h2, h3, h4⟩ := hI
    simp only at h1 h2 h3 h4
    have cn := c.sm h3.1
    have sn := st.sm h3.1 (Or.inl rfl)
    have a1 := cn.2.2.2.1.2.2.1
    by_cases e : t4 C ≤ a
    · left
      rw [show min a (t4 C) = t4 C by omega] at h4
      refine ⟨N, ?_, h3, h4⟩
      show F_X5_survey_93_41 (f + 1) N (zi a) = _
      rw [F_X5_survey_93_41]
      simp (disch := omega) only [lt_z, cI_s, cJ_s, cV_s, bI_s, bI_e, bV_s, bV_e, zl, zi_neg, zi_add, zi_sub, zi_mul, ↓reduceIte, zb0, zb1, bb_and, bb_t, bb_f, zi_ltT, zi_ltF, zi_leT, zi_leF, zi_eqT, zi_eqF, zi_ixT, zi_nat, Int.toNat_natCast, Int.reduceToNat, ltNT, and_self, a1]
    · right
      rw [show min a (t4 C) = a by omega] at h4
      obtain ⟨x, x1, x2⟩ := fitting_s (M := N) (t := (a : Int)) hc w cn sn (by omega)
      obtain ⟨y, y1, y2⟩ := low_s (M := N) (b := (t4 C : Int) - a) (by omega)
      have z2 : ∀ i, i < 64 → lb (x &&& y) i = ((fun t : Nat => ftF C S (t : Nat)) (a + i) && decide ((i : Int) < (t4 C : Int) - a)) := fun i hi => by rw [lb_and, x2 i hi, y2 i hi, ← Int.natCast_add]
      have st1 : ∀ o, F_X5_survey_93_41 (f + 1) N (zi a) = (if lg_cmp (x &&& y) (0 : Int64) = 0 then F_X5_survey_93_83 (F_X5_survey_93_41 f) N (zi a) else cV (F_X5_note_93 N (zi a) (x &&& y)) fun M656 => F_X5_survey_93_83 (F_X5_survey_93_41 f) M656 (zi a)) ∨ o := fun o => Or.inl (by
        rw [F_X5_survey_93_41, x1, cJ_s, a1, zi_sub, y1, cJ_s, lt_z, if_neg (by rw [zi_le (by omega) (by omega)]; omega)])
      have st2 := (st1 False).resolve_right id
      have st3 : ∀ K : PM, F_X5_survey_93_83 (F_X5_survey_93_41 f) K (zi a) = F_X5_survey_93_41 f K (zi ((a + 64 : Nat))) := fun K => by
        unfold F_X5_survey_93_83
        rw [zc (show ((a + 64 : Nat) : Int) = a + 64 by omega)]
        simp (disch := omega) only [lt_z, cI_s, cJ_s, cV_s, bI_s, bI_e, bV_s, bV_e, zl, zi_neg, zi_add, zi_sub, zi_mul, ↓reduceIte, zb0, zb1, bb_and, bb_t, bb_f, zi_ltT, zi_ltF, zi_leT, zi_leF, zi_eqT, zi_eqF, zi_ixT, zi_nat, Int.toNat_natCast, Int.reduceToNat, ltNT, and_self]
      by_cases q : fb_ct (lb (x &&& y)) 64 = 0
      · refine ⟨t4 C - (a + 64), (a + 64, N), by omega, ⟨rfl, by show a + 64 ≤ t4 C + 64; omega, h3, Srv_skip (by omega) (fun i hi => by rw [← z2 i hi]; exact fb_ct_zero.mp q i hi) h4⟩, ?_⟩
        show F_X5_survey_93_41 (f + 1) N (zi a) = F_X5_survey_93_41 f N (zi ((a + 64 : Nat)))
        rw [st2, if_pos (by rw [lb_zero q]; exact lg_cmp_self 0)]
        exact st3 N
      · obtain ⟨K, k1, k2, k3⟩ := note_s (x := x &&& y) (a := a) (T := t4 C) hc cn (by omega) hT h4 z2 (by omega)
        refine ⟨t4 C - (a + 64), (a + 64, K), by omega, ⟨rfl, by show a + 64 ≤ t4 C + 64; omega, h3.tr k2, k3⟩, ?_⟩
        show F_X5_survey_93_41 (f + 1) N (zi a) = F_X5_survey_93_41 f K (zi ((a + 64 : Nat)))
        have hne : ¬ lg_cmp (x &&& y) (0 : Int64) = 0 := fun h9 => by
          have : x &&& y = 0 := by
            unfold lg_cmp at h9
            split at h9
            · exact absurd h9 (by decide)
            · split at h9
              · assumption
              · exact absurd h9 (by decide)
          rw [this] at q
          exact q (fb_ct_zero.mpr (fun k _ => lb_0 k))
        rw [st2, if_neg hne, k1, cV_s]
        exact st3 K) (t4 C) (0, M) FUEL ⟨by show t4 C = t4 C - 0; omega, by show 0 ≤ t4 C + 64; omega, Sam.rf, by show Srv C _ (min 0 (t4 C)) M; rw [Nat.zero_min]; exact hv⟩ (FUEL_gt (by omega))
  exact h
theorem survey_s {M : PM} {C : Cal} {S : Sta} (hc : WFC C) (w : WFS C S) (c : CalC M C) (st : StaC M C S 16) : ∃ N, F_X5_survey_93 M = rV N ∧ Sam M N ∧ Srv C (fun t => ftF C S (t : Nat)) (t4 C) N := by
  have hn := hc.1.1
  unfold F_X5_survey_93
  generalize hM0 : sI (sI (sI M 93 3 0) 93 4 (-1)) 93 5 (-1) = M0
  have s0 : Sam M M0 := by rw [← hM0]; exact Sam.i 93 5 _ (by decide) (Sam.i 93 4 _ (by decide) (Sam.i 93 3 _ (by decide) Sam.rf))
  have h := loopS (σ := Nat × PM) (fun f s => F_X5_survey_93_17 f s.2 (zi (s.1 : Nat))) (fun o => ∃ N, o = rV N ∧ Sam M N ∧ Srv C (fun t => ftF C S (t : Nat)) (t4 C) N) (fun r s => s.1 ≤ 12 ∧ r = 12 - s.1 ∧ Sam M s.2 ∧ (∀ k, mI s.2 93 k = mI M0 93 k) ∧ ∀ l, l < s.1 → mA s.2 94 l = zi 0) (fun f r s hI => by
    obtain ⟨a, N⟩ := s
    obtain ⟨h1, h2, h3, h4, h5⟩ := hI
    simp only at h1 h2 h3 h4 h5
    by_cases e : a = 12
    · left
      subst e
      obtain ⟨K, k1, k2, k3⟩ := survey41 hc w (c.sm h3.1) (st.sm h3.1 (Or.inl rfl)) ⟨by rw [h4 3, ← hM0]; rfl, by rw [h4 4, ← hM0]; rfl, by rw [h4 5, ← hM0]; rfl, fun l hl => by rw [h5 l (by omega)]; rfl⟩
      refine ⟨K, ?_, h3.tr k2, k3⟩
      show F_X5_survey_93_17 (f + 1) N (zi (12 : Nat)) = _
      rw [F_X5_survey_93_17, if_pos (by decide)]
      exact k1
    · right
      refine ⟨12 - (a + 1), (a + 1, sA N 94 a (zi 0)), by omega, ⟨by show a + 1 ≤ 12; omega, rfl, Sam.a 94 a _ (by decide) h3, h4, fun l hl => ?_⟩, ?_⟩
      · show (sA N 94 a (zi 0)).2.2.1 94 l = zi 0
        by_cases q : l = a
        · rw [q, rA_at]
        · rw [rA_nk q]
          exact h5 l (by have : l < a + 1 := hl; omega)
      · show F_X5_survey_93_17 (f + 1) N (zi a) = F_X5_survey_93_17 f (sA N 94 a (zi 0)) (zi ((a + 1 : Nat)))
        rw [F_X5_survey_93_17, zc (show ((a + 1 : Nat) : Int) = a + 1 by omega)]
        simp (disch := omega) only [lt_z, cI_s, cJ_s, cV_s, bI_s, bI_e, bV_s, bV_e, zl, zi_neg, zi_add, zi_sub, zi_mul, ↓reduceIte, zb0, zb1, bb_and, bb_t, bb_f, zi_ltT, zi_ltF, zi_leT, zi_leF, zi_eqT, zi_eqF, zi_ixT, zi_nat, Int.toNat_natCast, Int.reduceToNat, ltNT, and_self]) 12 (0, M0) FUEL ⟨by show 0 ≤ 12; omega, rfl, s0, fun _ => rfl, fun l hl => absurd hl (Nat.not_lt_zero l)⟩ (FUEL_gt (by omega))
  exact h
theorem tmod_w {a w : Int} (hw : 0 < w) : (a.tmod w + w) % w = a % w := by
  have h1 := Int.tmod_lt_of_pos a hw
  have h2 := Int.lt_tmod_of_pos a hw
  have h3 := emod_tmod (a := a) hw
  by_cases h : 0 ≤ a.tmod w
  · rw [h3, if_pos h, Int.add_emod_right, Int.emod_eq_of_lt h h1]
  · rw [h3, if_neg h, Int.emod_eq_of_lt (by omega) (by omega)]
theorem isFit_s {M : PM} {C : Cal} {S : Sta} {t : Nat} (hc : WFC C) (w : WFS C S) (c : CalM M C) (st : StaM M C S) (ht : t < 1000000000) : F_X11_isFit_99 M (zi t) = rI (bb (ftF C S t)) M := by
  have hn := hc.1.1
  have hd := w.2.2.1.1
  have a1 := st.2.1.1
  unfold F_X11_isFit_99 ftF
  refine loopI (gN S) (fun f i => F_X11_isFit_99_2 f M (zi t) (zi (i : Nat))) (fun o => o = rI (bb (noB (ftP C S t) (gN S))) M) (fun i => ∀ k, k < i → ftP C S t k = false) (fun f hI => ?_) (fun f i hi hI => ?_) 0 FUEL (by omega) (fun k hk => by omega) (FUEL_gt (by omega))
  · rw [F_X11_isFit_99_2, noB_t hI]
    simp (disch := omega) only [lt_z, cI_s, cJ_s, cV_s, bI_s, bI_e, bV_s, bV_e, zl, zi_neg, zi_add, zi_sub, zi_mul, ↓reduceIte, zb0, zb1, bb_and, bb_t, bb_f, zi_ltT, zi_ltF, zi_leT, zi_leF, zi_eqT, zi_eqF, zi_ixT, zi_nat, Int.toNat_natCast, Int.reduceToNat, ltNT, and_self, a1]
  · show (F_X11_isFit_99_2 (f + 1) M (zi t) (zi i) = _) ∨ (_ ∧ F_X11_isFit_99_2 (f + 1) M (zi t) (zi i) = F_X11_isFit_99_2 f M (zi t) (zi ((i + 1 : Nat))))
    obtain ⟨d1, d2, d3⟩ := st.2.2.1 i hi
    obtain ⟨w1, w2⟩ := w.2.2.2.1 i hi
    have hw := hc.2.1 _ w1
    have c1 := c.2.1 _ w1
    have c2 := c.2.2.1 _ w1
    have m1 := Int.tmod_lt_of_pos ((t : Int) - gA S i) (b := (cW C (gL S i) : Int)) (by omega)
    have m2 := Int.lt_tmod_of_pos ((t : Int) - gA S i) (b := (cW C (gL S i) : Int)) (by omega)
    have m3 := Int.emod_nonneg ((t : Int) - gA S i) (b := (cW C (gL S i) : Int)) (by omega)
    have m4 := Int.emod_lt_of_pos ((t : Int) - gA S i) (b := (cW C (gL S i) : Int)) (by omega)
    have m5 := tmod_w (a := (t : Int) - gA S i) (w := (cW C (gL S i) : Int)) (by omega)
    have go : ftP C S t i = false → ∀ k, k < i + 1 → ftP C S t k = false := fun e k hk => by
      by_cases q : k = i
      · rw [q]; exact e
      · exact hI k (by omega)
    have ee : ftP C S t i = !(decide (hb (cW C (gL S i)) (cD C (gL S i)) ((t : Int) - gA S i) = gB S i)) := rfl
    rw [F_X11_isFit_99_2, zc (show ((i + 1 : Nat) : Int) = i + 1 by omega)]
    simp (disch := omega) only [lt_z, zl, ↓reduceIte, zi_ltT, zi_ltF, zi_leT, zi_leF, zi_eqT, zi_eqF, zi_ixT, zi_nat, Int.toNat_natCast, Int.reduceToNat, ltNT, and_self, a1, d1, d2, c1, c2, zi_sub]
    rw [zi_trem (by omega) (by omega), zi_add, zi_rem (by omega) (by omega), m5]
    unfold F_X11_isFit_99_65 F_X11_isFit_99_82
    by_cases e1 : ((t : Int) - gA S i) % (cW C (gL S i) : Int) = (cD C (gL S i) : Int)
    · have e2 : hb (cW C (gL S i)) (cD C (gL S i)) ((t : Int) - gA S i) = true := decide_eq_true e1
      rw [e2] at ee
      cases hq : gB S i
      · rw [hq] at ee d3
        left
        rw [noB_f hi ee]
        simp (disch := omega) only [lt_z, cI_s, cJ_s, cV_s, bI_s, bI_e, bV_s, bV_e, zl, zi_neg, zi_add, zi_sub, zi_mul, ↓reduceIte, zb0, zb1, bb_and, bb_t, bb_f, zi_ltT, zi_ltF, zi_leT, zi_leF, zi_eqT, zi_eqF, zi_ixT, zi_nat, Int.toNat_natCast, Int.reduceToNat, ltNT, and_self, d3]
      · rw [hq] at ee d3
        right
        refine ⟨go ee, ?_⟩
        simp (disch := omega) only [lt_z, cI_s, cJ_s, cV_s, bI_s, bI_e, bV_s, bV_e, zl, zi_neg, zi_add, zi_sub, zi_mul, ↓reduceIte, zb0, zb1, bb_and, bb_t, bb_f, zi_ltT, zi_ltF, zi_leT, zi_leF, zi_eqT, zi_eqF, zi_ixT, zi_nat, Int.toNat_natCast, Int.reduceToNat, ltNT, and_self, d3]
    · have e2 : hb (cW C (gL S i)) (cD C (gL S i)) ((t : Int) - gA S i) = false := decide_eq_false e1
      rw [e2] at ee
      cases hq : gB S i
      · rw [hq] at ee d3
        right
        refine ⟨go ee, ?_⟩
        simp (disch := omega) only [lt_z, cI_s, cJ_s, cV_s, bI_s, bI_e, bV_s, bV_e, zl, zi_neg, zi_add, zi_sub, zi_mul, ↓reduceIte, zb0, zb1, bb_and, bb_t, bb_f, zi_ltT, zi_ltF, zi_leT, zi_leF, zi_eqT, zi_eqF, zi_ixT, zi_nat, Int.toNat_natCast, Int.reduceToNat, ltNT, and_self, d3]
      · rw [hq] at ee d3
        left
        rw [noB_f hi ee]
        simp (disch := omega) only [lt_z, cI_s, cJ_s, cV_s, bI_s, bI_e, bV_s, bV_e, zl, zi_neg, zi_add, zi_sub, zi_mul, ↓reduceIte, zb0, zb1, bb_and, bb_t, bb_f, zi_ltT, zi_ltF, zi_leT, zi_leF, zi_eqT, zi_eqF, zi_ixT, zi_nat, Int.toNat_natCast, Int.reduceToNat, ltNT, and_self, d3]
