/-! everyOf; meeting: how many barred days leave a rest -/
theorem lb_1 : ∀ i, i < 64 → lb 1 i = decide (i = 0) := by decide +kernel
theorem everyOf_s {M : PM} {w : Nat} (hw : 1 ≤ w ∧ w ≤ 99) : ∃ y, F_X10_everyOf M (zi w) = rJ y M ∧ EvB y w := by
  unfold F_X10_everyOf
  rw [lt_z, show (0 : Int32) = zi ((0 : Nat) : Int) from rfl]
  refine loopS (σ := Nat × Int64) (fun f s => F_X10_everyOf_4 f M (zi w) s.2 (zi (s.1 : Nat))) (fun o => ∃ y, o = rJ y M ∧ EvB y w) (fun q s => q = 200 - s.1 ∧ s.1 ≤ 200 ∧ s.1 % w = 0 ∧ ∀ i, i < 64 → lb s.2 i = decide (i % w = 0 ∧ i < s.1)) ?_ 200 (0, 0) FUEL ⟨rfl, by decide, Nat.zero_mod w, fun i hi => by
    rw [lb_0]
    exact (decide_eq_false (fun h => absurd h.2 (Nat.not_lt_zero i))).symm⟩ (FUEL_gt (by omega))
  rintro f q ⟨k, x⟩ ⟨i1, i2, i3, i4⟩
  simp only at i1 i2 i3 i4
  show (∃ y, F_X10_everyOf_4 (f + 1) M (zi w) x (zi (k : Nat)) = rJ y M ∧ _) ∨ _
  rw [F_X10_everyOf_4]
  by_cases q1 : 64 ≤ k
  · left
    refine ⟨x, by rw [if_pos (by rw [show (64 : Int32) = zi 64 from rfl, zi_le (by omega) (by omega)]; omega)], fun i hi => ?_⟩
    rw [i4 i hi]
    exact decide_eq_decide.mpr ⟨fun h => h.1, fun h => ⟨h, by omega⟩⟩
  · right
    have hm : F_J9_max_7cf53 M (zi w) 1 = rI (zi w) M := by
      unfold F_J9_max_7cf53
      rw [show (1 : Int32) = zi 1 from rfl]
      by_cases e : w = 1
      · rw [e]; rfl
      · rw [if_neg (by rw [zi_lt (by omega) (by omega)]; omega)]
    refine ⟨200 - (k + w), (k + w, x ||| ((1 : Int64) <<< ((zi (k : Nat)).toInt64 &&& 63))), by omega, ⟨rfl, by show k + w ≤ 200; omega, by show (k + w) % w = 0; rw [Nat.add_mod_right]; exact i3, fun i hi => ?_⟩, ?_⟩
    · show lb (x ||| ((1 : Int64) <<< ((zi (k : Nat)).toInt64 &&& 63))) i = decide (i % w = 0 ∧ i < k + w)
      rw [lb_or, i4 i hi, lb_shl 1 (by omega) hi, lb_1 (i - k) (by omega), ← Bool.decide_and, ← Bool.decide_or]
      refine decide_eq_decide.mpr ⟨?_, ?_⟩
      · rintro (⟨h1, h2⟩ | ⟨h1, h2⟩)
        · exact ⟨h1, by omega⟩
        · rw [show i = k by omega]; exact ⟨i3, by omega⟩
      · rintro ⟨h1, h2⟩
        rcases Nat.lt_or_ge i k with u | u
        · exact Or.inl ⟨h1, u⟩
        · refine Or.inr ⟨u, ?_⟩
          have := Nat.sub_mod_eq_zero_of_mod_eq (h1.trans i3.symm)
          rw [Nat.mod_eq_of_lt (by omega)] at this
          exact this
    · rw [if_neg (by rw [show (64 : Int32) = zi 64 from rfl, zi_le (by omega) (by omega)]; omega), lt_z, hm, cI_s, lt_z, zi_add]
      rfl
/-- the barred days among the first T that leave r -/
def bq (C : Cal) (L g r : Nat) (t : Nat) : Bool := !fre C L 0 t && hb g r t
theorem a28_sam {M M1 : PM} {k : Nat} {x : Int32} (h : Sam0 M M1) : Sam0 M (sA M1 28 k x) :=
  h.tr ⟨fun _ _ => rfl, fun q hq => rA_ne (fun e => by rw [e] at hq; exact absurd hq (by decide)), fun _ _ => rfl, fun _ _ _ => rfl⟩
theorem cm70 {M : PM} {g a : Nat} {ev y : Int64} {k : PM → Int32 → Int64 → Int32 → Option PR} (hg : 1 ≤ g ∧ g ≤ 24) (hev : EvB ev g) (ha : a ≤ 1000000) : ∃ M', F_X1_countMeetings_27_70 k FUEL M (zi g) ev (zi a) y (zi 0) = F_X1_countMeetings_27_117 k M' (zi g) ev (zi a) ∧ M'.1 = M.1 ∧ Sam0 M M' ∧ ∀ r, r < g → mA M' 28 r = mA M 28 r + zi (fb_ct (fun i => lb y i && hb g r ((a : Int) + i)) 64) := by
  refine loopS (σ := PM × Nat) (fun f s => F_X1_countMeetings_27_70 k f s.1 (zi g) ev (zi a) y (zi (s.2 : Nat))) (fun o => ∃ M', o = F_X1_countMeetings_27_117 k M' (zi g) ev (zi a) ∧ M'.1 = M.1 ∧ Sam0 M M' ∧ ∀ r, r < g → mA M' 28 r = mA M 28 r + zi (fb_ct (fun i => lb y i && hb g r ((a : Int) + i)) 64)) (fun q s => q = g - s.2 ∧ s.2 ≤ g ∧ s.1.1 = M.1 ∧ Sam0 M s.1 ∧ (∀ r, r < s.2 → mA s.1 28 r = mA M 28 r + zi (fb_ct (fun i => lb y i && hb g r ((a : Int) + i)) 64)) ∧ ∀ r, s.2 ≤ r → mA s.1 28 r = mA M 28 r) ?_ g (M, 0) FUEL ⟨rfl, by show 0 ≤ g; omega, rfl, Sam0.rf, fun r hr => absurd hr (Nat.not_lt_zero r), fun r _ => rfl⟩ (FUEL_gt (by omega))
  rintro f q ⟨M1, r⟩ ⟨i1, i2, i3, i4, i5, i6⟩
  simp only at i1 i2 i3 i4 i5 i6
  show (∃ M', F_X1_countMeetings_27_70 k (f + 1) M1 (zi g) ev (zi a) y (zi (r : Nat)) = _ ∧ _) ∨ _
  rw [F_X1_countMeetings_27_70]
  by_cases q1 : g ≤ r
  · left
    exact ⟨M1, by rw [if_pos (by rw [zi_le (by omega) (by omega)]; omega)], i3, i4, fun r' hr' => i5 r' (by omega)⟩
  · right
    obtain ⟨v, v1, v2⟩ := daysLeaving_s (M := M1) (w := g) (d := r) (t := (a : Int)) hev (by omega) (by omega) (by omega)
    have ecng : fb_ct (lb (y &&& v)) 64 = fb_ct (fun i => lb y i && hb g r ((a : Int) + i)) 64 := fb_ct_cong (fun i hi => by rw [lb_and, v2 i hi])
    have e6 := i6 r (Nat.le_refl _)
    refine ⟨g - (r + 1), (sA M1 28 r (mA M1 28 r + zi (fb_ct (fun i => lb y i && hb g r ((a : Int) + i)) 64)), r + 1), by omega, ⟨rfl, by show r + 1 ≤ g; omega, i3, a28_sam i4, fun r' hr' => ?_, fun r' hr' => ?_⟩, ?_⟩
    · have hr2 : r' < r + 1 := hr'
      by_cases q2 : r' = r
      · rw [q2]
        show (sA M1 28 r _).2.2.1 28 r = _
        rw [rA_at, e6]
      · exact (rA_nk q2).trans (i5 r' (by omega))
    · have hr2 : r + 1 ≤ r' := hr'
      exact (rA_nk (by omega)).trans (i6 r' (by omega))
    · rw [if_neg (by rw [zi_le (by omega) (by omega)]; omega), if_neg (by rw [show (24 : Int32) = zi 24 from rfl, zi_le (by omega) (by omega)]; omega), if_pos (zi_ixT (by omega) (by omega)), v1, cJ_s, bitCount_lb, cI_s, if_pos (zi_ixT (by omega) (by omega)), ecng, zi_natN (by omega), show (1 : Int32) = zi 1 from rfl, zi_add, lt_z, zc (show (r : Int) + 1 = ((r + 1 : Nat) : Int) by omega)]
theorem cm_s {M : PM} {C : Cal} {L g : Nat} (hc : WFC C) (cc : CalC M C) (hL : L < 4096) (h2 : mI M 27 2 = zi L) (h3 : mI M 27 3 = zi ((0 : Nat) : Int)) (h4 : mI M 27 4 = zi (tB C L 0)) (hg : 1 ≤ g ∧ g ≤ 24) : ∃ M', F_X1_countMeetings_27 M (zi g) = rV M' ∧ M'.1 = M.1 ∧ Sam0 M M' ∧ ∀ r, r < g → mA M' 28 r = zi (fb_ct (bq C L g r) (tB C L 0)) := by
  have hT := tB_le hc L 0
  obtain ⟨ev, ev1, ev2⟩ := everyOf_s (M := M) (w := g) (by omega)
  unfold F_X1_countMeetings_27
  rw [ev1, cJ_s, show (0 : Int32) = zi ((0 : Nat) : Int) from rfl]
  have z8 : ∃ M1, F_X1_countMeetings_27_8 FUEL M (zi g) ev (zi ((0 : Nat) : Int)) = F_X1_countMeetings_27_35 FUEL M1 (zi g) ev (zi ((0 : Nat) : Int)) ∧ M1.1 = M.1 ∧ Sam0 M M1 ∧ ∀ r, r < 24 → mA M1 28 r = zi ((0 : Nat) : Int) := by
    refine loopS (σ := PM × Nat) (fun f s => F_X1_countMeetings_27_8 f s.1 (zi g) ev (zi (s.2 : Nat))) (fun o => ∃ M1, o = F_X1_countMeetings_27_35 FUEL M1 (zi g) ev (zi ((0 : Nat) : Int)) ∧ M1.1 = M.1 ∧ Sam0 M M1 ∧ ∀ r, r < 24 → mA M1 28 r = zi ((0 : Nat) : Int)) (fun q s => q = 24 - s.2 ∧ s.2 ≤ 24 ∧ s.1.1 = M.1 ∧ Sam0 M s.1 ∧ ∀ r, r < s.2 → mA s.1 28 r = zi ((0 : Nat) : Int)) ?_ 24 (M, 0) FUEL ⟨rfl, by show 0 ≤ 24; decide, rfl, Sam0.rf, fun r hr => absurd hr (Nat.not_lt_zero r)⟩ (FUEL_gt (by omega))
    rintro f q ⟨M1, r⟩ ⟨i1, i2, i3, i4, i5⟩
    simp only at i1 i2 i3 i4 i5
    show (∃ M', F_X1_countMeetings_27_8 (f + 1) M1 (zi g) ev (zi (r : Nat)) = _ ∧ _) ∨ _
    rw [F_X1_countMeetings_27_8]
    by_cases q1 : 24 ≤ r
    · left
      exact ⟨M1, by rw [if_pos (by rw [show (24 : Int32) = zi 24 from rfl, zi_le (by omega) (by omega)]; omega)]; rfl, i3, i4, fun r' hr' => i5 r' (by omega)⟩
    · right
      refine ⟨24 - (r + 1), (sA M1 28 r (zi ((0 : Nat) : Int)), r + 1), by omega, ⟨rfl, by show r + 1 ≤ 24; omega, i3, a28_sam i4, fun r' hr' => ?_⟩, ?_⟩
      · have hr2 : r' < r + 1 := hr'
        by_cases q2 : r' = r
        · rw [q2]
          exact rA_at
        · exact (rA_nk q2).trans (i5 r' (by omega))
      · rw [if_neg (by rw [show (24 : Int32) = zi 24 from rfl, zi_le (by omega) (by omega)]; omega), if_pos (zi_ixT (by omega) (by omega)), zi_natN (by omega), show (1 : Int32) = zi 1 from rfl, zi_add, lt_z, zc (show (r : Int) + 1 = ((r + 1 : Nat) : Int) by omega)]
        rfl
  obtain ⟨M1, z1, z2, z3, z4⟩ := z8
  rw [z1]
  refine loopS (σ := PM × Nat) (fun f s => F_X1_countMeetings_27_35 f s.1 (zi g) ev (zi (s.2 : Nat))) (fun o => ∃ M', o = rV M' ∧ M'.1 = M.1 ∧ Sam0 M M' ∧ ∀ r, r < g → mA M' 28 r = zi (fb_ct (bq C L g r) (tB C L 0))) (fun q s => q = 200000 - s.2 ∧ s.2 ≤ tB C L 0 + 63 ∧ s.1.1 = M.1 ∧ Sam0 M s.1 ∧ ∀ r, r < g → mA s.1 28 r = zi (fb_ct (bq C L g r) (min s.2 (tB C L 0)))) ?_ 200000 (M1, 0) FUEL ⟨rfl, by show 0 ≤ tB C L 0 + 63; omega, z2, z3, fun r hr => by rw [z4 r (by omega), Nat.zero_min]; rfl⟩ (FUEL_gt (by omega))
  rintro f q ⟨M2, a⟩ ⟨i1, i2, i3, i4, i5⟩
  simp only at i1 i2 i3 i4 i5
  have k2 : mI M2 27 2 = zi L := by rw [mI, i3]; exact h2
  have k3 : mI M2 27 3 = zi ((0 : Nat) : Int) := by rw [mI, i3]; exact h3
  have k4 : mI M2 27 4 = zi (tB C L 0) := by rw [mI, i3]; exact h4
  show (∃ M', F_X1_countMeetings_27_35 (f + 1) M2 (zi g) ev (zi (a : Nat)) = _ ∧ _) ∨ _
  rw [F_X1_countMeetings_27_35, k4]
  by_cases q1 : tB C L 0 ≤ a
  · left
    exact ⟨M2, by rw [if_pos (by rw [zi_le (by omega) (by omega)]; omega)], i3, i4, fun r hr => by rw [i5 r hr, Nat.min_eq_right q1]⟩
  · right
    obtain ⟨x, x1, x2⟩ := daysFrom_s (M := M2) (t := (a : Int)) hc (cc.sm i4) hL (show 0 < 4096 by decide) k2 k3 (by omega)
    obtain ⟨z, y1, y2⟩ := low_s (M := M2) (b := (tB C L 0 : Int) - a) (by omega)
    obtain ⟨M3, m1, m2, m3, m4⟩ := cm70 (M := M2) (g := g) (a := a) (ev := ev) (y := (x ^^^ (-1)) &&& z) (k := F_X1_countMeetings_27_35 f) hg ev2 (by omega)
    refine ⟨200000 - (a + 64), (M3, a + 64), by omega, ⟨rfl, by show a + 64 ≤ tB C L 0 + 63; omega, m2.trans i3, i4.tr m3, fun r hr => ?_⟩, ?_⟩
    · show mA M3 28 r = zi (fb_ct (bq C L g r) (min (a + 64) (tB C L 0)))
      rw [m4 r hr, i5 r hr, zi_add, ← blk (p := bq C L g r) (by omega : a < tB C L 0)]
      refine congrArg zi ?_
      have : fb_ct (fun i => lb ((x ^^^ (-1)) &&& z) i && hb g r ((a : Int) + i)) 64 = fb_ct (fun i => bq C L g r (a + i) && decide ((i : Int) < (tB C L 0 : Int) - a)) 64 := fb_ct_cong (fun i hi => by
        rw [lb_and, lb_not x hi, x2 i hi, y2 i hi]
        unfold bq
        rw [Int.natCast_add]
        cases fre C L 0 ((a : Int) + i) <;> cases hb g r ((a : Int) + i) <;> cases decide ((i : Int) < (tB C L 0 : Int) - a) <;> rfl)
      rw [this]
      omega
    · rw [if_neg (by rw [zi_le (by omega) (by omega)]; omega), x1, cJ_s, k4, zi_sub, y1, cJ_s, lt_z]
      show F_X1_countMeetings_27_70 (F_X1_countMeetings_27_35 f) FUEL M2 (zi g) ev (zi a) ((x ^^^ (-1)) &&& z) (zi 0) = F_X1_countMeetings_27_35 f M3 (zi g) ev (zi ((a + 64 : Nat)))
      rw [m1]
      unfold F_X1_countMeetings_27_117
      rw [show (64 : Int32) = zi 64 from rfl, zi_add, lt_z, zc (show (a : Int) + 64 = ((a + 64 : Nat) : Int) by omega)]
