/-! calendar: the class takes the draft over -/
theorem WFD_C {C : Cal} {A : Nat → Nat → Nat} (h : WFD C A) (h5 : t5 C ≤ 100000) : WFC C := ⟨h.1, h.2.1, h.2.2.1, h.2.2.2.1, h.2.2.2.2.1, h5⟩
theorem add4_s {M : PM} {i w d : Nat} (hi : mI M 4 4 = zi i) (hn : i < 12) (hw : 2 ≤ w ∧ w ≤ 24) (hd : d < w) : ∃ y, F_X2_add_4 M (zi w) (zi d) = rV (sI (sB (sA (sA M 5 i (zi w)) 6 i (zi d)) 7 i y) 4 4 (zi ((i + 1 : Nat)))) ∧ EvB y w := by
  obtain ⟨y, y1, y2⟩ := everyOf_s (M := sA (sA M 5 i (zi w)) 6 i (zi d)) (w := w) (by omega)
  refine ⟨y, ?_, y2⟩
  unfold F_X2_add_4 F_X2_isFull_4
  have e1 : mI (sA M 5 i (zi w)) 4 4 = zi i := hi
  have e2 : mI (sA (sA M 5 i (zi w)) 6 i (zi d)) 4 4 = zi i := hi
  have e3 : ∀ y, mI (sB (sA (sA M 5 i (zi w)) 6 i (zi d)) 7 i y) 4 4 = zi i := fun y => hi
  rw [hi, if_pos (by rw [show (12 : Int32) = zi 12 from rfl, zi_lt (by omega) (by omega)]; omega), if_pos (by decide), cI_s, if_pos (by decide), hi, zi_natN (by omega), e1, zi_natN (by omega), e2, if_pos (zi_ixT (by omega) (by omega)), if_pos (zi_ixT (by omega) (by omega)), y1, cJ_s, if_pos (zi_ixT (by omega) (by omega)), zi_natN (by omega), e3, show (1 : Int32) = zi 1 from rfl, zi_add, zc (show (i : Int) + 1 = ((i + 1 : Nat) : Int) by omega), lt_z]
/-- what the copying of laws leaves -/
def KX4 (M M' : PM) : Prop := (∀ q k, q ≠ 4 → M'.1 q k = M.1 q k) ∧ (∀ q, q ≠ 5 → q ≠ 6 → q ≠ 8 → M'.2.2.1 q = M.2.2.1 q) ∧ (∀ q, q ≠ 7 → M'.2.2.2.1 q = M.2.2.2.1 q) ∧ M'.2.2.2.2 = M.2.2.2.2
theorem KX4.tr {M M1 M2 : PM} (h : KX4 M M1) (g : KX4 M1 M2) : KX4 M M2 := ⟨fun q k hq => (g.1 q k hq).trans (h.1 q k hq), fun q a b c => (g.2.1 q a b c).trans (h.2.1 q a b c), fun q a => (g.2.2.1 q a).trans (h.2.2.1 q a), g.2.2.2.trans h.2.2.2⟩
theorem copy4a {M : PM} {C : Cal} {A : Nat → Nat → Nat} (hd : DC M C A) (hw : WFD C A) : ∃ M', F_X2_copy_4_30 M = F_X2_copy_4_30_39 FUEL M' 0 ∧ KX4 M M' ∧ LawC M' 4 (cN C) (cW C) (cD C) := by
  have hn := hw.1.1
  unfold F_X2_copy_4_30
  refine loopS (σ := PM × Nat) (fun f q => F_X2_copy_4_30_7 f q.1 (zi (q.2 : Nat))) (fun o => ∃ M', o = F_X2_copy_4_30_39 FUEL M' 0 ∧ KX4 M M' ∧ LawC M' 4 (cN C) (cW C) (cD C)) (fun r q => r = cN C - q.2 ∧ q.2 ≤ cN C ∧ KX4 M q.1 ∧ LawC q.1 4 q.2 (cW C) (cD C)) ?_ (cN C) (sI M 4 4 0, 0) FUEL ⟨rfl, Nat.zero_le _, ⟨fun q k hq => rI_ne hq, fun _ _ _ _ => rfl, fun _ _ => rfl, rfl⟩, rI_at, fun l hl => absurd hl (Nat.not_lt_zero l), fun l hl => absurd hl (Nat.not_lt_zero l), fun l hl => absurd hl (Nat.not_lt_zero l)⟩ (FUEL_gt (by omega))
  rintro f r ⟨M1, i⟩ ⟨i1, i2, i3, i4⟩
  simp only at i1 i2 i3 i4
  have eN : mI M1 30 4 = zi (cN C) := (i3.1 30 4 (by decide)).trans hd.1.1
  show (∃ M', F_X2_copy_4_30_7 (f + 1) M1 (zi (i : Nat)) = _ ∧ _) ∨ _
  rw [F_X2_copy_4_30_7, eN]
  by_cases q : i = cN C
  · left
    exact ⟨M1, by rw [if_pos (by rw [zi_le (by omega) (by omega)]; omega)], i3, q ▸ i4⟩
  · right
    have hwi := hw.2.1 i (by omega)
    have ew : mA M1 31 i = zi (cW C i) := (congrFun (i3.2.1 31 (by decide) (by decide) (by decide)) i).trans (hd.2.1 i (by omega)).1
    have ed : mA M1 32 i = zi (cD C i) := (congrFun (i3.2.1 32 (by decide) (by decide) (by decide)) i).trans (hd.2.1 i (by omega)).2
    obtain ⟨y, y1, y2⟩ := add4_s (M := M1) (i := i) (w := cW C i) (d := cD C i) i4.1 (by omega) hwi.1 hwi.2
    rw [if_neg (by rw [zi_le (by omega) (by omega)]; omega), if_pos (zi_ixT (by omega) (by omega)), if_pos (zi_ixT (by omega) (by omega)), zi_natN (by omega), ew, ed, y1, cV_s, show (1 : Int32) = zi 1 from rfl, zi_add, lt_z, zc (show (i : Int) + 1 = ((i + 1 : Nat) : Int) by omega)]
    refine ⟨cN C - (i + 1), (sI (sB (sA (sA M1 5 i (zi (cW C i))) 6 i (zi (cD C i))) 7 i y) 4 4 (zi ((i + 1 : Nat))), i + 1), by omega, ⟨rfl, by show i + 1 ≤ cN C; omega, i3.tr ⟨fun q k hq => rI_ne hq, fun q h1 h2 h3 => (rA_ne h2).trans (rA_ne h1), fun q hq => u1_ne hq, rfl⟩, rI_at, fun l hl => ?_, fun l hl => ?_, fun l hl => ?_⟩, rfl⟩
    · have hl' : l < i + 1 := hl
      show (sA (sA M1 5 i (zi (cW C i))) 6 i (zi (cD C i))).2.2.1 5 l = _
      rw [rA_ne (by decide)]
      by_cases q2 : l = i
      · rw [q2, rA_at]
      · rw [rA_nk q2]; exact i4.2.1 l (by omega)
    · have hl' : l < i + 1 := hl
      show (sA (sA M1 5 i (zi (cW C i))) 6 i (zi (cD C i))).2.2.1 6 l = _
      by_cases q2 : l = i
      · rw [q2, rA_at]
      · rw [rA_nk q2, rA_ne (by decide)]; exact i4.2.2.1 l (by omega)
    · have hl' : l < i + 1 := hl
      show EvB ((sB (sA (sA M1 5 i (zi (cW C i))) 6 i (zi (cD C i))) 7 i y).2.2.2.1 7 l) _
      rw [rB_sB, if_pos rfl]
      by_cases q2 : l = i
      · rw [if_pos q2, q2]; exact y2
      · rw [if_neg q2]; exact i4.2.2.2 l (by omega)
theorem add9_s {M : PM} {i w d : Nat} (hi : mI M 9 4 = zi i) (hn : i < 6) (hw : 2 ≤ w ∧ w ≤ 24) (hd : d < w) : ∃ y, F_X2_add_9 M (zi w) (zi d) = rV (sI (sB (sA (sA M 10 i (zi w)) 11 i (zi d)) 12 i y) 9 4 (zi ((i + 1 : Nat)))) ∧ EvB y w := by
  obtain ⟨y, y1, y2⟩ := everyOf_s (M := sA (sA M 10 i (zi w)) 11 i (zi d)) (w := w) (by omega)
  refine ⟨y, ?_, y2⟩
  unfold F_X2_add_9 F_X2_isFull_9
  have e1 : mI (sA M 10 i (zi w)) 9 4 = zi i := hi
  have e2 : mI (sA (sA M 10 i (zi w)) 11 i (zi d)) 9 4 = zi i := hi
  have e3 : ∀ y, mI (sB (sA (sA M 10 i (zi w)) 11 i (zi d)) 12 i y) 9 4 = zi i := fun y => hi
  rw [hi, if_pos (by rw [show (6 : Int32) = zi 6 from rfl, zi_lt (by omega) (by omega)]; omega), if_pos (by decide), cI_s, if_pos (by decide), hi, zi_natN (by omega), e1, zi_natN (by omega), e2, if_pos (zi_ixT (by omega) (by omega)), if_pos (zi_ixT (by omega) (by omega)), y1, cJ_s, if_pos (zi_ixT (by omega) (by omega)), zi_natN (by omega), e3, show (1 : Int32) = zi 1 from rfl, zi_add, zc (show (i : Int) + 1 = ((i + 1 : Nat) : Int) by omega), lt_z]
/-- what the copying of laws leaves -/
def KX9 (M M' : PM) : Prop := (∀ q k, q ≠ 9 → M'.1 q k = M.1 q k) ∧ (∀ q, q ≠ 10 → q ≠ 11 → q ≠ 13 → M'.2.2.1 q = M.2.2.1 q) ∧ (∀ q, q ≠ 12 → M'.2.2.2.1 q = M.2.2.2.1 q) ∧ M'.2.2.2.2 = M.2.2.2.2
theorem KX9.tr {M M1 M2 : PM} (h : KX9 M M1) (g : KX9 M1 M2) : KX9 M M2 := ⟨fun q k hq => (g.1 q k hq).trans (h.1 q k hq), fun q a b c => (g.2.1 q a b c).trans (h.2.1 q a b c), fun q a => (g.2.2.1 q a).trans (h.2.2.1 q a), g.2.2.2.trans h.2.2.2⟩
theorem copy9a {M : PM} {C : Cal} {A : Nat → Nat → Nat} (hd : DC M C A) (hw : WFD C A) : ∃ M', F_X2_copy_9_35 M = F_X2_copy_9_35_39 FUEL M' 0 ∧ KX9 M M' ∧ LawC M' 9 (oN C) (oW C) (oD C) := by
  have hn := hw.1.2.1
  unfold F_X2_copy_9_35
  refine loopS (σ := PM × Nat) (fun f q => F_X2_copy_9_35_7 f q.1 (zi (q.2 : Nat))) (fun o => ∃ M', o = F_X2_copy_9_35_39 FUEL M' 0 ∧ KX9 M M' ∧ LawC M' 9 (oN C) (oW C) (oD C)) (fun r q => r = oN C - q.2 ∧ q.2 ≤ oN C ∧ KX9 M q.1 ∧ LawC q.1 9 q.2 (oW C) (oD C)) ?_ (oN C) (sI M 9 4 0, 0) FUEL ⟨rfl, Nat.zero_le _, ⟨fun q k hq => rI_ne hq, fun _ _ _ _ => rfl, fun _ _ => rfl, rfl⟩, rI_at, fun l hl => absurd hl (Nat.not_lt_zero l), fun l hl => absurd hl (Nat.not_lt_zero l), fun l hl => absurd hl (Nat.not_lt_zero l)⟩ (FUEL_gt (by omega))
  rintro f r ⟨M1, i⟩ ⟨i1, i2, i3, i4⟩
  simp only at i1 i2 i3 i4
  have eN : mI M1 35 4 = zi (oN C) := (i3.1 35 4 (by decide)).trans hd.1.2.1
  show (∃ M', F_X2_copy_9_35_7 (f + 1) M1 (zi (i : Nat)) = _ ∧ _) ∨ _
  rw [F_X2_copy_9_35_7, eN]
  by_cases q : i = oN C
  · left
    exact ⟨M1, by rw [if_pos (by rw [zi_le (by omega) (by omega)]; omega)], i3, q ▸ i4⟩
  · right
    have hwi := hw.2.2.1 i (by omega)
    have ew : mA M1 36 i = zi (oW C i) := (congrFun (i3.2.1 36 (by decide) (by decide) (by decide)) i).trans (hd.2.2.1 i (by omega)).1
    have ed : mA M1 37 i = zi (oD C i) := (congrFun (i3.2.1 37 (by decide) (by decide) (by decide)) i).trans (hd.2.2.1 i (by omega)).2
    obtain ⟨y, y1, y2⟩ := add9_s (M := M1) (i := i) (w := oW C i) (d := oD C i) i4.1 (by omega) hwi.1 hwi.2
    rw [if_neg (by rw [zi_le (by omega) (by omega)]; omega), if_pos (zi_ixT (by omega) (by omega)), if_pos (zi_ixT (by omega) (by omega)), zi_natN (by omega), ew, ed, y1, cV_s, show (1 : Int32) = zi 1 from rfl, zi_add, lt_z, zc (show (i : Int) + 1 = ((i + 1 : Nat) : Int) by omega)]
    refine ⟨oN C - (i + 1), (sI (sB (sA (sA M1 10 i (zi (oW C i))) 11 i (zi (oD C i))) 12 i y) 9 4 (zi ((i + 1 : Nat))), i + 1), by omega, ⟨rfl, by show i + 1 ≤ oN C; omega, i3.tr ⟨fun q k hq => rI_ne hq, fun q h1 h2 h3 => (rA_ne h2).trans (rA_ne h1), fun q hq => u1_ne hq, rfl⟩, rI_at, fun l hl => ?_, fun l hl => ?_, fun l hl => ?_⟩, rfl⟩
    · have hl' : l < i + 1 := hl
      show (sA (sA M1 10 i (zi (oW C i))) 11 i (zi (oD C i))).2.2.1 10 l = _
      rw [rA_ne (by decide)]
      by_cases q2 : l = i
      · rw [q2, rA_at]
      · rw [rA_nk q2]; exact i4.2.1 l (by omega)
    · have hl' : l < i + 1 := hl
      show (sA (sA M1 10 i (zi (oW C i))) 11 i (zi (oD C i))).2.2.1 11 l = _
      by_cases q2 : l = i
      · rw [q2, rA_at]
      · rw [rA_nk q2, rA_ne (by decide)]; exact i4.2.2.1 l (by omega)
    · have hl' : l < i + 1 := hl
      show EvB ((sB (sA (sA M1 10 i (zi (oW C i))) 11 i (zi (oD C i))) 12 i y).2.2.2.1 12 l) _
      rw [rB_sB, if_pos rfl]
      by_cases q2 : l = i
      · rw [if_pos q2, q2]; exact y2
      · rw [if_neg q2]; exact i4.2.2.2 l (by omega)
theorem copy4b {M : PM} {C : Cal} (hc : WFC C) (h : LawC M 4 (cN C) (cW C) (cD C)) : ∃ M', F_X2_copy_4_30_39 FUEL M 0 = rV M' ∧ KX4 M M' ∧ LawC M' 4 (cN C) (cW C) (cD C) ∧ ∀ l, l < cN C → mA M' 8 l = ob (fun k => mee (cW C k) (cD C k) (cW C l) (cD C l)) (cN C) := by
  have hn := hc.1.1
  refine loopS (σ := PM × Nat) (fun f q => F_X2_copy_4_30_39 f q.1 (zi (q.2 : Nat))) (fun o => ∃ M', o = rV M' ∧ KX4 M M' ∧ LawC M' 4 (cN C) (cW C) (cD C) ∧ ∀ l, l < cN C → mA M' 8 l = ob (fun k => mee (cW C k) (cD C k) (cW C l) (cD C l)) (cN C)) (fun r q => r = cN C - q.2 ∧ q.2 ≤ cN C ∧ KX4 M q.1 ∧ LawC q.1 4 (cN C) (cW C) (cD C) ∧ ∀ l, l < q.2 → mA q.1 8 l = ob (fun k => mee (cW C k) (cD C k) (cW C l) (cD C l)) (cN C)) ?_ (cN C) (M, 0) FUEL ⟨rfl, Nat.zero_le _, ⟨fun _ _ _ => rfl, fun _ _ _ _ => rfl, fun _ _ => rfl, rfl⟩, h, fun l hl => absurd hl (Nat.not_lt_zero l)⟩ (FUEL_gt (by omega))
  rintro f r ⟨M1, i⟩ ⟨i1, i2, i3, i4, i5⟩
  simp only at i1 i2 i3 i4 i5
  show (∃ M', F_X2_copy_4_30_39 (f + 1) M1 (zi (i : Nat)) = _ ∧ _) ∨ _
  rw [F_X2_copy_4_30_39, i4.1]
  by_cases q : i = cN C
  · left
    exact ⟨M1, by rw [if_pos (by rw [zi_le (by omega) (by omega)]; omega)], i3, i4, q ▸ i5⟩
  · right
    have hwi := hc.2.1 i (by omega)
    have hlm := lawsThatMeet_s (M := M1) (v := cW C i) (e := cD C i) hc i4 (by omega) (by omega)
    have e5 : mA M1 5 i = zi (cW C i) := i4.2.1 i (by omega)
    have e6 : mA M1 6 i = zi (cD C i) := i4.2.2.1 i (by omega)
    rw [if_neg (by rw [zi_le (by omega) (by omega)]; omega), if_pos (zi_ixT (by omega) (by omega)), if_pos (zi_ixT (by omega) (by omega)), zi_natN (by omega), e5, e6, hlm, cI_s, if_pos (zi_ixT (by omega) (by omega)), show (1 : Int32) = zi 1 from rfl, zi_add, lt_z, zc (show (i : Int) + 1 = ((i + 1 : Nat) : Int) by omega)]
    refine ⟨cN C - (i + 1), (sA M1 8 i (ob (fun k => mee (cW C k) (cD C k) (cW C i) (cD C i)) (cN C)), i + 1), by omega, ⟨rfl, by show i + 1 ≤ cN C; omega, i3.tr ⟨fun _ _ _ => rfl, fun q h1 h2 h3 => rA_ne h3, fun _ _ => rfl, rfl⟩, ⟨i4.1, fun l hl => (congrFun (rA_ne (by decide) : (sA M1 8 i (ob (fun k => mee (cW C k) (cD C k) (cW C i) (cD C i)) (cN C))).2.2.1 5 = M1.2.2.1 5) l).trans (i4.2.1 l hl), fun l hl => (congrFun (rA_ne (by decide) : (sA M1 8 i (ob (fun k => mee (cW C k) (cD C k) (cW C i) (cD C i)) (cN C))).2.2.1 6 = M1.2.2.1 6) l).trans (i4.2.2.1 l hl), i4.2.2.2⟩, fun l hl => ?_⟩, rfl⟩
    have hl' : l < i + 1 := hl
    by_cases q2 : l = i
    · rw [q2]; exact rA_at
    · exact (rA_nk q2).trans (i5 l (by omega))
theorem meet9 {M : PM} {C : Cal} {v e : Nat} (hc : WFC C) (c : LawC M 9 (oN C) (oW C) (oD C)) (hv : 0 < v ∧ v ≤ 99) (he : e < 1000) : ∃ x, F_X2_lawsThatMeet_9 M (zi v) (zi e) = rI x M := by
  have hn := hc.1.2.1
  obtain ⟨a1, a2, a3, a4⟩ := c
  unfold F_X2_lawsThatMeet_9
  refine ⟨_, loopU (oN C) (fun f i => F_X2_lawsThatMeet_9_5 f M (zi v) (zi e) (ob (fun l => mee (oW C l) (oD C l) v e) i) (zi (i : Nat))) (rI (ob (fun l => mee (oW C l) (oD C l) v e) (oN C)) M) (fun f => by
      rw [F_X2_lawsThatMeet_9_5]
      simp (disch := omega) only [lt_z, cI_s, cJ_s, cV_s, bI_s, bI_e, bV_s, bV_e, zl, zi_neg, zi_add, zi_sub, zi_mul, ↓reduceIte, zb0, zb1, bb_and, bb_t, bb_f, zi_ltT, zi_ltF, zi_leT, zi_leF, zi_eqT, zi_eqF, zi_ixT, zi_nat, Int.toNat_natCast, Int.reduceToNat, ltNT, and_self, a1]) (fun f i hi => by
      have hw := hc.2.2.1 i hi
      have hg := gcd_pos (a := oW C i) hv.1
      have hg2 := gcd_le (a := oW C i) hv.1
      have hm1 := Int.emod_nonneg ((oD C i : Int) - e) (b := (Nat.gcd (oW C i) v : Int)) (by omega)
      have hm2 := Int.emod_lt_of_pos ((oD C i : Int) - e) (b := (Nat.gcd (oW C i) v : Int)) (by omega)
      have a2i := a2 i hi
      have a3i := a3 i hi
      rw [F_X2_lawsThatMeet_9_5, zc (show ((i + 1 : Nat) : Int) = i + 1 by omega), ob]
      unfold F_X2_lawsThatMeet_9_53
      by_cases q : ((oD C i : Int) - e) % (Nat.gcd (oW C i) v : Int) = 0
      · rw [show mee (oW C i) (oD C i) v e = true from decide_eq_true q, if_pos rfl]
        simp (disch := omega) only [lt_z, cI_s, cJ_s, cV_s, bI_s, bI_e, bV_s, bV_e, zl, zi_neg, zi_add, zi_sub, zi_mul, ↓reduceIte, zb0, zb1, bb_and, bb_t, bb_f, zi_ltT, zi_ltF, zi_leT, zi_leF, zi_eqT, zi_eqF, zi_ixT, zi_nat, Int.toNat_natCast, Int.reduceToNat, ltNT, and_self, a1, a2i, a3i, commonDivisor_s, left_s, q]
      · rw [show mee (oW C i) (oD C i) v e = false from decide_eq_false q, if_neg (by decide : ¬ false = true)]
        simp (disch := omega) only [lt_z, cI_s, cJ_s, cV_s, bI_s, bI_e, bV_s, bV_e, zl, zi_neg, zi_add, zi_sub, zi_mul, ↓reduceIte, zb0, zb1, bb_and, bb_t, bb_f, zi_ltT, zi_ltF, zi_leT, zi_leF, zi_eqT, zi_eqF, zi_ixT, zi_nat, Int.toNat_natCast, Int.reduceToNat, ltNT, and_self, a1, a2i, a3i, commonDivisor_s, left_s]) 0 FUEL (by omega) (FUEL_gt (by omega))⟩
theorem copy9b {M : PM} {C : Cal} (hc : WFC C) (h : LawC M 9 (oN C) (oW C) (oD C)) : ∃ M', F_X2_copy_9_35_39 FUEL M 0 = rV M' ∧ KX9 M M' ∧ LawC M' 9 (oN C) (oW C) (oD C) := by
  have hn := hc.1.2.1
  refine loopS (σ := PM × Nat) (fun f q => F_X2_copy_9_35_39 f q.1 (zi (q.2 : Nat))) (fun o => ∃ M', o = rV M' ∧ KX9 M M' ∧ LawC M' 9 (oN C) (oW C) (oD C)) (fun r q => r = oN C - q.2 ∧ q.2 ≤ oN C ∧ KX9 M q.1 ∧ LawC q.1 9 (oN C) (oW C) (oD C)) ?_ (oN C) (M, 0) FUEL ⟨rfl, Nat.zero_le _, ⟨fun _ _ _ => rfl, fun _ _ _ _ => rfl, fun _ _ => rfl, rfl⟩, h⟩ (FUEL_gt (by omega))
  rintro f r ⟨M1, i⟩ ⟨i1, i2, i3, i4⟩
  simp only at i1 i2 i3 i4
  show (∃ M', F_X2_copy_9_35_39 (f + 1) M1 (zi (i : Nat)) = _ ∧ _) ∨ _
  rw [F_X2_copy_9_35_39, i4.1]
  by_cases q : i = oN C
  · left
    exact ⟨M1, by rw [if_pos (by rw [zi_le (by omega) (by omega)]; omega)], i3, i4⟩
  · right
    have hwi := hc.2.2.1 i (by omega)
    obtain ⟨x, hlm⟩ := meet9 (M := M1) (v := oW C i) (e := oD C i) hc i4 (by omega) (by omega)
    have e5 : mA M1 10 i = zi (oW C i) := i4.2.1 i (by omega)
    have e6 : mA M1 11 i = zi (oD C i) := i4.2.2.1 i (by omega)
    rw [if_neg (by rw [zi_le (by omega) (by omega)]; omega), if_pos (zi_ixT (by omega) (by omega)), if_pos (zi_ixT (by omega) (by omega)), zi_natN (by omega), e5, e6, hlm, cI_s, if_pos (zi_ixT (by omega) (by omega)), show (1 : Int32) = zi 1 from rfl, zi_add, lt_z, zc (show (i : Int) + 1 = ((i + 1 : Nat) : Int) by omega)]
    exact ⟨oN C - (i + 1), (sA M1 13 i x, i + 1), by omega, ⟨rfl, by show i + 1 ≤ oN C; omega, i3.tr ⟨fun _ _ _ => rfl, fun q h1 h2 h3 => rA_ne h3, fun _ _ => rfl, rfl⟩, ⟨i4.1, fun l hl => (congrFun (rA_ne (by decide) : (sA M1 13 i x).2.2.1 10 = M1.2.2.1 10) l).trans (i4.2.1 l hl), fun l hl => (congrFun (rA_ne (by decide) : (sA M1 13 i x).2.2.1 11 = M1.2.2.1 11) l).trans (i4.2.2.1 l hl), i4.2.2.2⟩⟩, rfl⟩
