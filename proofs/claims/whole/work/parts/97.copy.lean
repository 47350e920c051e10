/-! image, restore: the class's copies (written by mk_copy.py) -/
def FA (lo hi : Nat) (M N : PM) : Prop := N.1 = M.1 ∧ N.2.1 = M.2.1 ∧ N.2.2.2 = M.2.2.2 ∧ ∀ q k, q < lo ∨ hi < q → mA N q k = mA M q k
theorem FA.rf {lo hi : Nat} {M : PM} : FA lo hi M M := ⟨rfl, rfl, rfl, fun _ _ _ => rfl⟩
theorem FA.sA {lo hi : Nat} {M N : PM} {q k : Nat} {x : Int32} (h : FA lo hi M N) (hq : lo ≤ q ∧ q ≤ hi) : FA lo hi M (sA N q k x) := ⟨h.1, h.2.1, h.2.2.1, fun a b hab => by
  rw [mA, rA_sA, if_neg (by omega : ¬ a = q)]
  exact h.2.2.2 a b hab⟩
theorem mA_ne {N : PM} {q k a b : Nat} {x : Int32} (h : a ≠ q) : mA (sA N q k x) a b = mA N a b := by rw [mA, rA_sA, if_neg h]
theorem mA_at {N : PM} {q k : Nat} {x : Int32} : mA (sA N q k x) q k = x := by rw [mA, rA_sA, if_pos rfl, if_pos rfl]
theorem mA_nk {N : PM} {q k b : Nat} {x : Int32} (h : b ≠ k) : mA (sA N q k x) q b = mA N q b := by rw [mA, rA_sA, if_pos rfl, if_neg h]
def FrK (D : Nat) (M N : PM) : Prop := (∀ q k, q ≠ D → mI N q k = mI M q k) ∧ (∀ q k, q < D + 1 ∨ D + 10 < q → mA N q k = mA M q k) ∧ N.2.1 = M.2.1 ∧ N.2.2.2 = M.2.2.2
theorem bb_one (b : Bool) : bb b &&& 1 = bb b := by cases b <;> rfl
theorem cp_43_16_160 {N : PM} {n : Nat} (hn : mI N 43 12 = zi n) (h : n ≤ 8) : ∃ N', F_X3_copy_43_16_160 FUEL N (zi 0) = rV N' ∧ FA 52 53 N N' ∧ ∀ i, i < n → mA N' 52 i = mA N 25 i ∧ mA N' 53 i = mA N 26 i := by
  refine loopS (σ := Nat × PM) (fun f s => F_X3_copy_43_16_160 f s.2 (zi (s.1 : Nat))) (fun o => ∃ N', o = rV N' ∧ FA 52 53 N N' ∧ ∀ i, i < n → mA N' 52 i = mA N 25 i ∧ mA N' 53 i = mA N 26 i) (fun r s => r = n - s.1 ∧ s.1 ≤ n ∧ FA 52 53 N s.2 ∧ ∀ i, i < s.1 → mA s.2 52 i = mA N 25 i ∧ mA s.2 53 i = mA N 26 i) ?_ n (0, N) FUEL ⟨rfl, Nat.zero_le _, FA.rf, fun i hi => absurd hi (Nat.not_lt_zero i)⟩ (FUEL_gt (by omega))
  rintro f r ⟨i, X⟩ ⟨i1, i2, i3, i4⟩
  simp only at i1 i2 i3 i4
  have hm : mI X 43 12 = zi n := by
    have := congrFun (congrFun i3.1 43) 12
    exact this.trans hn
  show (∃ N', F_X3_copy_43_16_160 (f + 1) X (zi (i : Nat)) = rV N' ∧ _) ∨ _
  by_cases q : i = n
  · left
    subst q
    refine ⟨X, ?_, i3, i4⟩
    rw [F_X3_copy_43_16_160, if_pos (by rw [hm, zi_le (by omega) (by omega)]; omega)]
    try rfl
  · right
    have hlt : i < n := by omega
    refine ⟨n - (i + 1), (i + 1, sA (sA X 52 i (mA X 25 i)) 53 i (mA (sA X 52 i (mA X 25 i)) 26 i)), by omega, ⟨rfl, by show i + 1 ≤ n; omega, ((i3).sA (by decide)).sA (by decide), fun j hj => ?_⟩, ?_⟩
    · have hj2 : j < i + 1 := hj
      dsimp only
      by_cases e : j = i
      · subst e
        exact ⟨by rw [mA_ne (by decide), mA_at, i3.2.2.2 25 j (by decide)], by rw [mA_at, mA_ne (by decide), i3.2.2.2 26 j (by decide)]⟩
      · exact ⟨by rw [mA_ne (by decide), mA_nk e]; exact (i4 j (by omega)).1, by rw [mA_nk e, mA_ne (by decide)]; exact (i4 j (by omega)).2⟩
    · show F_X3_copy_43_16_160 (f + 1) X (zi (i : Nat)) = F_X3_copy_43_16_160 f (sA (sA X 52 i (mA X 25 i)) 53 i (mA (sA X 52 i (mA X 25 i)) 26 i)) (zi ((i + 1 : Nat)))
      rw [F_X3_copy_43_16_160, if_neg (by rw [hm, zi_le (by omega) (by omega)]; omega), zc (show ((i + 1 : Nat) : Int) = i + 1 by omega)]
      simp (disch := omega) only [lt_z, cI_s, cJ_s, cV_s, bI_s, bI_e, bV_s, bV_e, zl, zi_neg, zi_add, zi_sub, zi_mul, ↓reduceIte, zb0, zb1, bb_and, bb_t, bb_f, zi_ltT, zi_ltF, zi_leT, zi_leF, zi_eqT, zi_eqF, zi_ixT, zi_nat, Int.toNat_natCast, Int.reduceToNat, ltNT, and_self]
theorem cp_43_16_88 {N : PM} {n : Nat} (hn : mI N 43 9 = zi n) (h : n ≤ 20) : ∃ N', F_X3_copy_43_16_88 FUEL N (zi 0) = F_X3_copy_43_16_160 FUEL (sI N' 43 12 (mI N' 16 12)) (zi 0) ∧ FA 48 51 N N' ∧ ∀ i, i < n → mA N' 48 i = mA N 21 i ∧ mA N' 49 i = mA N 22 i ∧ mA N' 50 i = mA N 23 i ∧ mA N' 51 i = mA N 24 i &&& 1 := by
  refine loopS (σ := Nat × PM) (fun f s => F_X3_copy_43_16_88 f s.2 (zi (s.1 : Nat))) (fun o => ∃ N', o = F_X3_copy_43_16_160 FUEL (sI N' 43 12 (mI N' 16 12)) (zi 0) ∧ FA 48 51 N N' ∧ ∀ i, i < n → mA N' 48 i = mA N 21 i ∧ mA N' 49 i = mA N 22 i ∧ mA N' 50 i = mA N 23 i ∧ mA N' 51 i = mA N 24 i &&& 1) (fun r s => r = n - s.1 ∧ s.1 ≤ n ∧ FA 48 51 N s.2 ∧ ∀ i, i < s.1 → mA s.2 48 i = mA N 21 i ∧ mA s.2 49 i = mA N 22 i ∧ mA s.2 50 i = mA N 23 i ∧ mA s.2 51 i = mA N 24 i &&& 1) ?_ n (0, N) FUEL ⟨rfl, Nat.zero_le _, FA.rf, fun i hi => absurd hi (Nat.not_lt_zero i)⟩ (FUEL_gt (by omega))
  rintro f r ⟨i, X⟩ ⟨i1, i2, i3, i4⟩
  simp only at i1 i2 i3 i4
  have hm : mI X 43 9 = zi n := by
    have := congrFun (congrFun i3.1 43) 9
    exact this.trans hn
  show (∃ N', F_X3_copy_43_16_88 (f + 1) X (zi (i : Nat)) = F_X3_copy_43_16_160 FUEL (sI N' 43 12 (mI N' 16 12)) (zi 0) ∧ _) ∨ _
  by_cases q : i = n
  · left
    subst q
    refine ⟨X, ?_, i3, i4⟩
    rw [F_X3_copy_43_16_88, if_pos (by rw [hm, zi_le (by omega) (by omega)]; omega)]
    try rfl
  · right
    have hlt : i < n := by omega
    refine ⟨n - (i + 1), (i + 1, sA (sA (sA (sA X 48 i (mA X 21 i)) 49 i (mA (sA X 48 i (mA X 21 i)) 22 i)) 50 i (mA (sA (sA X 48 i (mA X 21 i)) 49 i (mA (sA X 48 i (mA X 21 i)) 22 i)) 23 i)) 51 i ((mA (sA (sA (sA X 48 i (mA X 21 i)) 49 i (mA (sA X 48 i (mA X 21 i)) 22 i)) 50 i (mA (sA (sA X 48 i (mA X 21 i)) 49 i (mA (sA X 48 i (mA X 21 i)) 22 i)) 23 i)) 24 i) &&& 1)), by omega, ⟨rfl, by show i + 1 ≤ n; omega, ((((i3).sA (by decide)).sA (by decide)).sA (by decide)).sA (by decide), fun j hj => ?_⟩, ?_⟩
    · have hj2 : j < i + 1 := hj
      dsimp only
      by_cases e : j = i
      · subst e
        exact ⟨by rw [mA_ne (by decide), mA_ne (by decide), mA_ne (by decide), mA_at, i3.2.2.2 21 j (by decide)], by rw [mA_ne (by decide), mA_ne (by decide), mA_at, mA_ne (by decide), i3.2.2.2 22 j (by decide)], by rw [mA_ne (by decide), mA_at, mA_ne (by decide), mA_ne (by decide), i3.2.2.2 23 j (by decide)], by rw [mA_at, mA_ne (by decide), mA_ne (by decide), mA_ne (by decide), i3.2.2.2 24 j (by decide)]⟩
      · exact ⟨by rw [mA_ne (by decide), mA_ne (by decide), mA_ne (by decide), mA_nk e]; exact (i4 j (by omega)).1, by rw [mA_ne (by decide), mA_ne (by decide), mA_nk e, mA_ne (by decide)]; exact (i4 j (by omega)).2.1, by rw [mA_ne (by decide), mA_nk e, mA_ne (by decide), mA_ne (by decide)]; exact (i4 j (by omega)).2.2.1, by rw [mA_nk e, mA_ne (by decide), mA_ne (by decide), mA_ne (by decide)]; exact (i4 j (by omega)).2.2.2⟩
    · show F_X3_copy_43_16_88 (f + 1) X (zi (i : Nat)) = F_X3_copy_43_16_88 f (sA (sA (sA (sA X 48 i (mA X 21 i)) 49 i (mA (sA X 48 i (mA X 21 i)) 22 i)) 50 i (mA (sA (sA X 48 i (mA X 21 i)) 49 i (mA (sA X 48 i (mA X 21 i)) 22 i)) 23 i)) 51 i ((mA (sA (sA (sA X 48 i (mA X 21 i)) 49 i (mA (sA X 48 i (mA X 21 i)) 22 i)) 50 i (mA (sA (sA X 48 i (mA X 21 i)) 49 i (mA (sA X 48 i (mA X 21 i)) 22 i)) 23 i)) 24 i) &&& 1)) (zi ((i + 1 : Nat)))
      rw [F_X3_copy_43_16_88, if_neg (by rw [hm, zi_le (by omega) (by omega)]; omega), zc (show ((i + 1 : Nat) : Int) = i + 1 by omega)]
      simp (disch := omega) only [lt_z, cI_s, cJ_s, cV_s, bI_s, bI_e, bV_s, bV_e, zl, zi_neg, zi_add, zi_sub, zi_mul, ↓reduceIte, zb0, zb1, bb_and, bb_t, bb_f, zi_ltT, zi_ltF, zi_leT, zi_leF, zi_eqT, zi_eqF, zi_ixT, zi_nat, Int.toNat_natCast, Int.reduceToNat, ltNT, and_self]
theorem cp_43_16_28 {N : PM} {n : Nat} (hn : mI N 43 4 = zi n) (h : n ≤ 20) : ∃ N', F_X3_copy_43_16_28 FUEL N (zi 0) = F_X3_copy_43_16_88 FUEL (sI N' 43 9 (mI N' 16 9)) (zi 0) ∧ FA 45 47 N N' ∧ ∀ i, i < n → mA N' 45 i = mA N 18 i ∧ mA N' 46 i = mA N 19 i ∧ mA N' 47 i = mA N 20 i &&& 1 := by
  refine loopS (σ := Nat × PM) (fun f s => F_X3_copy_43_16_28 f s.2 (zi (s.1 : Nat))) (fun o => ∃ N', o = F_X3_copy_43_16_88 FUEL (sI N' 43 9 (mI N' 16 9)) (zi 0) ∧ FA 45 47 N N' ∧ ∀ i, i < n → mA N' 45 i = mA N 18 i ∧ mA N' 46 i = mA N 19 i ∧ mA N' 47 i = mA N 20 i &&& 1) (fun r s => r = n - s.1 ∧ s.1 ≤ n ∧ FA 45 47 N s.2 ∧ ∀ i, i < s.1 → mA s.2 45 i = mA N 18 i ∧ mA s.2 46 i = mA N 19 i ∧ mA s.2 47 i = mA N 20 i &&& 1) ?_ n (0, N) FUEL ⟨rfl, Nat.zero_le _, FA.rf, fun i hi => absurd hi (Nat.not_lt_zero i)⟩ (FUEL_gt (by omega))
  rintro f r ⟨i, X⟩ ⟨i1, i2, i3, i4⟩
  simp only at i1 i2 i3 i4
  have hm : mI X 43 4 = zi n := by
    have := congrFun (congrFun i3.1 43) 4
    exact this.trans hn
  show (∃ N', F_X3_copy_43_16_28 (f + 1) X (zi (i : Nat)) = F_X3_copy_43_16_88 FUEL (sI N' 43 9 (mI N' 16 9)) (zi 0) ∧ _) ∨ _
  by_cases q : i = n
  · left
    subst q
    refine ⟨X, ?_, i3, i4⟩
    rw [F_X3_copy_43_16_28, if_pos (by rw [hm, zi_le (by omega) (by omega)]; omega)]
    try rfl
  · right
    have hlt : i < n := by omega
    refine ⟨n - (i + 1), (i + 1, sA (sA (sA X 45 i (mA X 18 i)) 46 i (mA (sA X 45 i (mA X 18 i)) 19 i)) 47 i ((mA (sA (sA X 45 i (mA X 18 i)) 46 i (mA (sA X 45 i (mA X 18 i)) 19 i)) 20 i) &&& 1)), by omega, ⟨rfl, by show i + 1 ≤ n; omega, (((i3).sA (by decide)).sA (by decide)).sA (by decide), fun j hj => ?_⟩, ?_⟩
    · have hj2 : j < i + 1 := hj
      dsimp only
      by_cases e : j = i
      · subst e
        exact ⟨by rw [mA_ne (by decide), mA_ne (by decide), mA_at, i3.2.2.2 18 j (by decide)], by rw [mA_ne (by decide), mA_at, mA_ne (by decide), i3.2.2.2 19 j (by decide)], by rw [mA_at, mA_ne (by decide), mA_ne (by decide), i3.2.2.2 20 j (by decide)]⟩
      · exact ⟨by rw [mA_ne (by decide), mA_ne (by decide), mA_nk e]; exact (i4 j (by omega)).1, by rw [mA_ne (by decide), mA_nk e, mA_ne (by decide)]; exact (i4 j (by omega)).2.1, by rw [mA_nk e, mA_ne (by decide), mA_ne (by decide)]; exact (i4 j (by omega)).2.2⟩
    · show F_X3_copy_43_16_28 (f + 1) X (zi (i : Nat)) = F_X3_copy_43_16_28 f (sA (sA (sA X 45 i (mA X 18 i)) 46 i (mA (sA X 45 i (mA X 18 i)) 19 i)) 47 i ((mA (sA (sA X 45 i (mA X 18 i)) 46 i (mA (sA X 45 i (mA X 18 i)) 19 i)) 20 i) &&& 1)) (zi ((i + 1 : Nat)))
      rw [F_X3_copy_43_16_28, if_neg (by rw [hm, zi_le (by omega) (by omega)]; omega), zc (show ((i + 1 : Nat) : Int) = i + 1 by omega)]
      simp (disch := omega) only [lt_z, cI_s, cJ_s, cV_s, bI_s, bI_e, bV_s, bV_e, zl, zi_neg, zi_add, zi_sub, zi_mul, ↓reduceIte, zb0, zb1, bb_and, bb_t, bb_f, zi_ltT, zi_ltF, zi_leT, zi_leF, zi_eqT, zi_eqF, zi_ixT, zi_nat, Int.toNat_natCast, Int.reduceToNat, ltNT, and_self]
theorem copy_43_16 {M : PM} {C : Cal} {S : Sta} (hc : WFC C) (w : WFS C S) (c : StaC M C S 16) : ∃ N, F_X3_copy_43_16 M = rV N ∧ StaC N C S 43 ∧ FrK 43 M N := by
  obtain ⟨c1, ⟨c2, c3, c4⟩, c5, c6, c7⟩ := c
  have s1 := w.2.2.1
  have hH := hc.1.2.2.1
  have e0 : F_X3_copy_43_16 M = F_X3_copy_43_16_28 FUEL (sI (cA M 17 44 0 0 120) 43 4 (mI M 16 4)) (zi 0) := by
    unfold F_X3_copy_43_16
    rw [if_pos (by decide), lt_z]
    rfl
  rw [e0]
  generalize hX : sI (cA M 17 44 0 0 120) 43 4 (mI M 16 4) = X
  have x1 : ∀ q k, q ≠ 43 → mI X q k = mI M q k := fun q k h => by rw [← hX]; exact rI_ne h
  have x2 : mI X 43 4 = zi (gN S) := by rw [← hX]; exact rI_at.trans c2
  have x3 : ∀ k, k < 120 → mA X 44 k = mA M 17 k := fun k h => by
    rw [← hX]
    show (u1 M.2.2.1 44 (va_cpy (M.2.2.1 17) (M.2.2.1 44) 0 0 120)) 44 k = _
    rw [u1, if_pos rfl, va_cpy, if_pos (by omega), Nat.zero_add]
    rfl
  have x4 : ∀ q k, q ≠ 44 → mA X q k = mA M q k := fun q k h => by
    rw [← hX]
    exact congrFun (u1_ne h) k
  have x5 : X.2.1 = M.2.1 ∧ X.2.2.2 = M.2.2.2 := by rw [← hX]; exact ⟨rfl, rfl⟩
  obtain ⟨N1, a1, a2, a3⟩ := cp_43_16_28 x2 s1.1
  have e1 : mI N1 16 9 = zi (dN S) := (congrFun (congrFun a2.1 16) 9).trans ((x1 16 9 (by decide)).trans c3)
  generalize hY : sI N1 43 9 (mI N1 16 9) = Y at a1
  have y1 : ∀ q k, ¬ (q = 43 ∧ k = 9) → mI Y q k = mI X q k := fun q k h => by
    rw [← hY]
    exact (u2_ne h).trans (congrFun (congrFun a2.1 q) k)
  have y2 : mI Y 43 9 = zi (dN S) := by rw [← hY]; exact rI_at.trans e1
  have y3 : ∀ q k, mA Y q k = mA N1 q k := fun q k => by rw [← hY]; rfl
  have y5 : Y.2.1 = M.2.1 ∧ Y.2.2.2 = M.2.2.2 := by rw [← hY]; exact ⟨a2.2.1.trans x5.1, a2.2.2.1.trans x5.2⟩
  obtain ⟨N2, b1, b2, b3⟩ := cp_43_16_88 y2 s1.2.1
  have e2 : mI N2 16 12 = zi (kN S) := (congrFun (congrFun b2.1 16) 12).trans ((y1 16 12 (by decide)).trans ((x1 16 12 (by decide)).trans c4))
  generalize hZ : sI N2 43 12 (mI N2 16 12) = Z at b1
  have z1 : ∀ q k, ¬ (q = 43 ∧ k = 12) → mI Z q k = mI Y q k := fun q k h => by
    rw [← hZ]
    exact (u2_ne h).trans (congrFun (congrFun b2.1 q) k)
  have z2 : mI Z 43 12 = zi (kN S) := by rw [← hZ]; exact rI_at.trans e2
  have z3 : ∀ q k, mA Z q k = mA N2 q k := fun q k => by rw [← hZ]; rfl
  have z5 : Z.2.1 = M.2.1 ∧ Z.2.2.2 = M.2.2.2 := by rw [← hZ]; exact ⟨b2.2.1.trans y5.1, b2.2.2.1.trans y5.2⟩
  obtain ⟨N3, d1, d2, d3⟩ := cp_43_16_160 z2 s1.2.2
  have n1 : ∀ q k, mI N3 q k = mI Z q k := fun q k => congrFun (congrFun d2.1 q) k
  have r3 : ∀ q k, q < 52 ∨ 53 < q → mA N3 q k = mA N2 q k := fun q k h => (d2.2.2.2 q k h).trans (z3 q k)
  have r2 : ∀ q k, q < 48 ∨ 51 < q → mA N2 q k = mA N1 q k := fun q k h => (b2.2.2.2 q k h).trans (y3 q k)
  have r1 : ∀ q k, q < 45 ∨ 47 < q → mA N1 q k = mA X q k := fun q k h => a2.2.2.2 q k h
  have t1 : ∀ q k, q < 44 ∨ 53 < q → mA N1 q k = mA M q k := fun q k h => (r1 q k (by omega)).trans (x4 q k (by omega))
  have t2 : ∀ q k, q < 44 ∨ 53 < q → mA N2 q k = mA M q k := fun q k h => (r2 q k (by omega)).trans (t1 q k h)
  refine ⟨N3, a1.trans (b1.trans d1), ⟨fun h l hh hl => ?_, ⟨?_, ?_, ?_⟩, fun i hi => ?_, fun i hi => ?_, fun i hi => ?_⟩, fun q k h => ?_, fun q k h => (r3 q k (by omega)).trans (t2 q k h), d2.2.1.trans z5.1, d2.2.2.1.trans z5.2⟩
  · show mA N3 44 (h * 12 + l) = _
    rw [r3 _ _ (by decide), r2 _ _ (by decide), r1 _ _ (by decide), x3 _ (by omega)]
    exact c1 h l hh hl
  · rw [n1, z1 _ _ (by decide), y1 _ _ (by decide)]; exact x2
  · rw [n1, z1 _ _ (by decide)]; exact y2
  · rw [n1]; exact z2
  · show mA N3 45 i = _ ∧ mA N3 46 i = _ ∧ mA N3 47 i = _
    obtain ⟨k1, k2, k3⟩ := a3 i hi
    obtain ⟨g1, g2, g3⟩ := c5 i hi
    refine ⟨?_, ?_, ?_⟩
    · rw [r3 _ _ (by decide), r2 _ _ (by decide), k1, x4 _ _ (by decide)]; exact g1
    · rw [r3 _ _ (by decide), r2 _ _ (by decide), k2, x4 _ _ (by decide)]; exact g2
    · rw [r3 _ _ (by decide), r2 _ _ (by decide), k3, x4 _ _ (by decide), show mA M 20 i = _ from g3, bb_one]
  · show mA N3 48 i = _ ∧ mA N3 49 i = _ ∧ mA N3 50 i = _ ∧ mA N3 51 i = _
    obtain ⟨k1, k2, k3, k4⟩ := b3 i hi
    obtain ⟨g1, g2, g3, g4⟩ := c6 i hi
    refine ⟨?_, ?_, ?_, ?_⟩
    · rw [r3 _ _ (by decide), k1, y3, t1 _ _ (by decide)]; exact g1
    · rw [r3 _ _ (by decide), k2, y3, t1 _ _ (by decide)]; exact g2
    · rw [r3 _ _ (by decide), k3, y3, t1 _ _ (by decide)]; exact g3
    · rw [r3 _ _ (by decide), k4, y3, t1 _ _ (by decide), show mA M 24 i = _ from g4, bb_one]
  · show mA N3 52 i = _ ∧ mA N3 53 i = _
    obtain ⟨k1, k2⟩ := d3 i hi
    obtain ⟨g1, g2⟩ := c7 i hi
    refine ⟨?_, ?_⟩
    · rw [k1, z3, t2 _ _ (by decide)]; exact g1
    · rw [k2, z3, t2 _ _ (by decide)]; exact g2
  · rw [n1, z1 _ _ (fun e => h e.1), y1 _ _ (fun e => h e.1), x1 _ _ h]
theorem cp_54_16_160 {N : PM} {n : Nat} (hn : mI N 54 12 = zi n) (h : n ≤ 8) : ∃ N', F_X3_copy_54_16_160 FUEL N (zi 0) = rV N' ∧ FA 63 64 N N' ∧ ∀ i, i < n → mA N' 63 i = mA N 25 i ∧ mA N' 64 i = mA N 26 i := by
  refine loopS (σ := Nat × PM) (fun f s => F_X3_copy_54_16_160 f s.2 (zi (s.1 : Nat))) (fun o => ∃ N', o = rV N' ∧ FA 63 64 N N' ∧ ∀ i, i < n → mA N' 63 i = mA N 25 i ∧ mA N' 64 i = mA N 26 i) (fun r s => r = n - s.1 ∧ s.1 ≤ n ∧ FA 63 64 N s.2 ∧ ∀ i, i < s.1 → mA s.2 63 i = mA N 25 i ∧ mA s.2 64 i = mA N 26 i) ?_ n (0, N) FUEL ⟨rfl, Nat.zero_le _, FA.rf, fun i hi => absurd hi (Nat.not_lt_zero i)⟩ (FUEL_gt (by omega))
  rintro f r ⟨i, X⟩ ⟨i1, i2, i3, i4⟩
  simp only at i1 i2 i3 i4
  have hm : mI X 54 12 = zi n := by
    have := congrFun (congrFun i3.1 54) 12
    exact this.trans hn
  show (∃ N', F_X3_copy_54_16_160 (f + 1) X (zi (i : Nat)) = rV N' ∧ _) ∨ _
  by_cases q : i = n
  · left
    subst q
    refine ⟨X, ?_, i3, i4⟩
    rw [F_X3_copy_54_16_160, if_pos (by rw [hm, zi_le (by omega) (by omega)]; omega)]
    try rfl
  · right
    have hlt : i < n := by omega
    refine ⟨n - (i + 1), (i + 1, sA (sA X 63 i (mA X 25 i)) 64 i (mA (sA X 63 i (mA X 25 i)) 26 i)), by omega, ⟨rfl, by show i + 1 ≤ n; omega, ((i3).sA (by decide)).sA (by decide), fun j hj => ?_⟩, ?_⟩
    · have hj2 : j < i + 1 := hj
      dsimp only
      by_cases e : j = i
      · subst e
        exact ⟨by rw [mA_ne (by decide), mA_at, i3.2.2.2 25 j (by decide)], by rw [mA_at, mA_ne (by decide), i3.2.2.2 26 j (by decide)]⟩
      · exact ⟨by rw [mA_ne (by decide), mA_nk e]; exact (i4 j (by omega)).1, by rw [mA_nk e, mA_ne (by decide)]; exact (i4 j (by omega)).2⟩
    · show F_X3_copy_54_16_160 (f + 1) X (zi (i : Nat)) = F_X3_copy_54_16_160 f (sA (sA X 63 i (mA X 25 i)) 64 i (mA (sA X 63 i (mA X 25 i)) 26 i)) (zi ((i + 1 : Nat)))
      rw [F_X3_copy_54_16_160, if_neg (by rw [hm, zi_le (by omega) (by omega)]; omega), zc (show ((i + 1 : Nat) : Int) = i + 1 by omega)]
      simp (disch := omega) only [lt_z, cI_s, cJ_s, cV_s, bI_s, bI_e, bV_s, bV_e, zl, zi_neg, zi_add, zi_sub, zi_mul, ↓reduceIte, zb0, zb1, bb_and, bb_t, bb_f, zi_ltT, zi_ltF, zi_leT, zi_leF, zi_eqT, zi_eqF, zi_ixT, zi_nat, Int.toNat_natCast, Int.reduceToNat, ltNT, and_self]
theorem cp_54_16_88 {N : PM} {n : Nat} (hn : mI N 54 9 = zi n) (h : n ≤ 20) : ∃ N', F_X3_copy_54_16_88 FUEL N (zi 0) = F_X3_copy_54_16_160 FUEL (sI N' 54 12 (mI N' 16 12)) (zi 0) ∧ FA 59 62 N N' ∧ ∀ i, i < n → mA N' 59 i = mA N 21 i ∧ mA N' 60 i = mA N 22 i ∧ mA N' 61 i = mA N 23 i ∧ mA N' 62 i = mA N 24 i &&& 1 := by
  refine loopS (σ := Nat × PM) (fun f s => F_X3_copy_54_16_88 f s.2 (zi (s.1 : Nat))) (fun o => ∃ N', o = F_X3_copy_54_16_160 FUEL (sI N' 54 12 (mI N' 16 12)) (zi 0) ∧ FA 59 62 N N' ∧ ∀ i, i < n → mA N' 59 i = mA N 21 i ∧ mA N' 60 i = mA N 22 i ∧ mA N' 61 i = mA N 23 i ∧ mA N' 62 i = mA N 24 i &&& 1) (fun r s => r = n - s.1 ∧ s.1 ≤ n ∧ FA 59 62 N s.2 ∧ ∀ i, i < s.1 → mA s.2 59 i = mA N 21 i ∧ mA s.2 60 i = mA N 22 i ∧ mA s.2 61 i = mA N 23 i ∧ mA s.2 62 i = mA N 24 i &&& 1) ?_ n (0, N) FUEL ⟨rfl, Nat.zero_le _, FA.rf, fun i hi => absurd hi (Nat.not_lt_zero i)⟩ (FUEL_gt (by omega))
  rintro f r ⟨i, X⟩ ⟨i1, i2, i3, i4⟩
  simp only at i1 i2 i3 i4
  have hm : mI X 54 9 = zi n := by
    have := congrFun (congrFun i3.1 54) 9
    exact this.trans hn
  show (∃ N', F_X3_copy_54_16_88 (f + 1) X (zi (i : Nat)) = F_X3_copy_54_16_160 FUEL (sI N' 54 12 (mI N' 16 12)) (zi 0) ∧ _) ∨ _
  by_cases q : i = n
  · left
    subst q
    refine ⟨X, ?_, i3, i4⟩
    rw [F_X3_copy_54_16_88, if_pos (by rw [hm, zi_le (by omega) (by omega)]; omega)]
    try rfl
  · right
    have hlt : i < n := by omega
    refine ⟨n - (i + 1), (i + 1, sA (sA (sA (sA X 59 i (mA X 21 i)) 60 i (mA (sA X 59 i (mA X 21 i)) 22 i)) 61 i (mA (sA (sA X 59 i (mA X 21 i)) 60 i (mA (sA X 59 i (mA X 21 i)) 22 i)) 23 i)) 62 i ((mA (sA (sA (sA X 59 i (mA X 21 i)) 60 i (mA (sA X 59 i (mA X 21 i)) 22 i)) 61 i (mA (sA (sA X 59 i (mA X 21 i)) 60 i (mA (sA X 59 i (mA X 21 i)) 22 i)) 23 i)) 24 i) &&& 1)), by omega, ⟨rfl, by show i + 1 ≤ n; omega, ((((i3).sA (by decide)).sA (by decide)).sA (by decide)).sA (by decide), fun j hj => ?_⟩, ?_⟩
    · have hj2 : j < i + 1 := hj
      dsimp only
      by_cases e : j = i
      · subst e
        exact ⟨by rw [mA_ne (by decide), mA_ne (by decide), mA_ne (by decide), mA_at, i3.2.2.2 21 j (by decide)], by rw [mA_ne (by decide), mA_ne (by decide), mA_at, mA_ne (by decide), i3.2.2.2 22 j (by decide)], by rw [mA_ne (by decide), mA_at, mA_ne (by decide), mA_ne (by decide), i3.2.2.2 23 j (by decide)], by rw [mA_at, mA_ne (by decide), mA_ne (by decide), mA_ne (by decide), i3.2.2.2 24 j (by decide)]⟩
      · exact ⟨by rw [mA_ne (by decide), mA_ne (by decide), mA_ne (by decide), mA_nk e]; exact (i4 j (by omega)).1, by rw [mA_ne (by decide), mA_ne (by decide), mA_nk e, mA_ne (by decide)]; exact (i4 j (by omega)).2.1, by rw [mA_ne (by decide), mA_nk e, mA_ne (by decide), mA_ne (by decide)]; exact (i4 j (by omega)).2.2.1, by rw [mA_nk e, mA_ne (by decide), mA_ne (by decide), mA_ne (by decide)]; exact (i4 j (by omega)).2.2.2⟩
    · show F_X3_copy_54_16_88 (f + 1) X (zi (i : Nat)) = F_X3_copy_54_16_88 f (sA (sA (sA (sA X 59 i (mA X 21 i)) 60 i (mA (sA X 59 i (mA X 21 i)) 22 i)) 61 i (mA (sA (sA X 59 i (mA X 21 i)) 60 i (mA (sA X 59 i (mA X 21 i)) 22 i)) 23 i)) 62 i ((mA (sA (sA (sA X 59 i (mA X 21 i)) 60 i (mA (sA X 59 i (mA X 21 i)) 22 i)) 61 i (mA (sA (sA X 59 i (mA X 21 i)) 60 i (mA (sA X 59 i (mA X 21 i)) 22 i)) 23 i)) 24 i) &&& 1)) (zi ((i + 1 : Nat)))
      rw [F_X3_copy_54_16_88, if_neg (by rw [hm, zi_le (by omega) (by omega)]; omega), zc (show ((i + 1 : Nat) : Int) = i + 1 by omega)]
      simp (disch := omega) only [lt_z, cI_s, cJ_s, cV_s, bI_s, bI_e, bV_s, bV_e, zl, zi_neg, zi_add, zi_sub, zi_mul, ↓reduceIte, zb0, zb1, bb_and, bb_t, bb_f, zi_ltT, zi_ltF, zi_leT, zi_leF, zi_eqT, zi_eqF, zi_ixT, zi_nat, Int.toNat_natCast, Int.reduceToNat, ltNT, and_self]
theorem cp_54_16_28 {N : PM} {n : Nat} (hn : mI N 54 4 = zi n) (h : n ≤ 20) : ∃ N', F_X3_copy_54_16_28 FUEL N (zi 0) = F_X3_copy_54_16_88 FUEL (sI N' 54 9 (mI N' 16 9)) (zi 0) ∧ FA 56 58 N N' ∧ ∀ i, i < n → mA N' 56 i = mA N 18 i ∧ mA N' 57 i = mA N 19 i ∧ mA N' 58 i = mA N 20 i &&& 1 := by
  refine loopS (σ := Nat × PM) (fun f s => F_X3_copy_54_16_28 f s.2 (zi (s.1 : Nat))) (fun o => ∃ N', o = F_X3_copy_54_16_88 FUEL (sI N' 54 9 (mI N' 16 9)) (zi 0) ∧ FA 56 58 N N' ∧ ∀ i, i < n → mA N' 56 i = mA N 18 i ∧ mA N' 57 i = mA N 19 i ∧ mA N' 58 i = mA N 20 i &&& 1) (fun r s => r = n - s.1 ∧ s.1 ≤ n ∧ FA 56 58 N s.2 ∧ ∀ i, i < s.1 → mA s.2 56 i = mA N 18 i ∧ mA s.2 57 i = mA N 19 i ∧ mA s.2 58 i = mA N 20 i &&& 1) ?_ n (0, N) FUEL ⟨rfl, Nat.zero_le _, FA.rf, fun i hi => absurd hi (Nat.not_lt_zero i)⟩ (FUEL_gt (by omega))
  rintro f r ⟨i, X⟩ ⟨i1, i2, i3, i4⟩
  simp only at i1 i2 i3 i4
  have hm : mI X 54 4 = zi n := by
    have := congrFun (congrFun i3.1 54) 4
    exact this.trans hn
  show (∃ N', F_X3_copy_54_16_28 (f + 1) X (zi (i : Nat)) = F_X3_copy_54_16_88 FUEL (sI N' 54 9 (mI N' 16 9)) (zi 0) ∧ _) ∨ _
  by_cases q : i = n
  · left
    subst q
    refine ⟨X, ?_, i3, i4⟩
    rw [F_X3_copy_54_16_28, if_pos (by rw [hm, zi_le (by omega) (by omega)]; omega)]
    try rfl
  · right
    have hlt : i < n := by omega
    refine ⟨n - (i + 1), (i + 1, sA (sA (sA X 56 i (mA X 18 i)) 57 i (mA (sA X 56 i (mA X 18 i)) 19 i)) 58 i ((mA (sA (sA X 56 i (mA X 18 i)) 57 i (mA (sA X 56 i (mA X 18 i)) 19 i)) 20 i) &&& 1)), by omega, ⟨rfl, by show i + 1 ≤ n; omega, (((i3).sA (by decide)).sA (by decide)).sA (by decide), fun j hj => ?_⟩, ?_⟩
    · have hj2 : j < i + 1 := hj
      dsimp only
      by_cases e : j = i
      · subst e
        exact ⟨by rw [mA_ne (by decide), mA_ne (by decide), mA_at, i3.2.2.2 18 j (by decide)], by rw [mA_ne (by decide), mA_at, mA_ne (by decide), i3.2.2.2 19 j (by decide)], by rw [mA_at, mA_ne (by decide), mA_ne (by decide), i3.2.2.2 20 j (by decide)]⟩
      · exact ⟨by rw [mA_ne (by decide), mA_ne (by decide), mA_nk e]; exact (i4 j (by omega)).1, by rw [mA_ne (by decide), mA_nk e, mA_ne (by decide)]; exact (i4 j (by omega)).2.1, by rw [mA_nk e, mA_ne (by decide), mA_ne (by decide)]; exact (i4 j (by omega)).2.2⟩
    · show F_X3_copy_54_16_28 (f + 1) X (zi (i : Nat)) = F_X3_copy_54_16_28 f (sA (sA (sA X 56 i (mA X 18 i)) 57 i (mA (sA X 56 i (mA X 18 i)) 19 i)) 58 i ((mA (sA (sA X 56 i (mA X 18 i)) 57 i (mA (sA X 56 i (mA X 18 i)) 19 i)) 20 i) &&& 1)) (zi ((i + 1 : Nat)))
      rw [F_X3_copy_54_16_28, if_neg (by rw [hm, zi_le (by omega) (by omega)]; omega), zc (show ((i + 1 : Nat) : Int) = i + 1 by omega)]
      simp (disch := omega) only [lt_z, cI_s, cJ_s, cV_s, bI_s, bI_e, bV_s, bV_e, zl, zi_neg, zi_add, zi_sub, zi_mul, ↓reduceIte, zb0, zb1, bb_and, bb_t, bb_f, zi_ltT, zi_ltF, zi_leT, zi_leF, zi_eqT, zi_eqF, zi_ixT, zi_nat, Int.toNat_natCast, Int.reduceToNat, ltNT, and_self]
theorem copy_54_16 {M : PM} {C : Cal} {S : Sta} (hc : WFC C) (w : WFS C S) (c : StaC M C S 16) : ∃ N, F_X3_copy_54_16 M = rV N ∧ StaC N C S 54 ∧ FrK 54 M N := by
  obtain ⟨c1, ⟨c2, c3, c4⟩, c5, c6, c7⟩ := c
  have s1 := w.2.2.1
  have hH := hc.1.2.2.1
  have e0 : F_X3_copy_54_16 M = F_X3_copy_54_16_28 FUEL (sI (cA M 17 55 0 0 120) 54 4 (mI M 16 4)) (zi 0) := by
    unfold F_X3_copy_54_16
    rw [if_pos (by decide), lt_z]
    rfl
  rw [e0]
  generalize hX : sI (cA M 17 55 0 0 120) 54 4 (mI M 16 4) = X
  have x1 : ∀ q k, q ≠ 54 → mI X q k = mI M q k := fun q k h => by rw [← hX]; exact rI_ne h
  have x2 : mI X 54 4 = zi (gN S) := by rw [← hX]; exact rI_at.trans c2
  have x3 : ∀ k, k < 120 → mA X 55 k = mA M 17 k := fun k h => by
    rw [← hX]
    show (u1 M.2.2.1 55 (va_cpy (M.2.2.1 17) (M.2.2.1 55) 0 0 120)) 55 k = _
    rw [u1, if_pos rfl, va_cpy, if_pos (by omega), Nat.zero_add]
    rfl
  have x4 : ∀ q k, q ≠ 55 → mA X q k = mA M q k := fun q k h => by
    rw [← hX]
    exact congrFun (u1_ne h) k
  have x5 : X.2.1 = M.2.1 ∧ X.2.2.2 = M.2.2.2 := by rw [← hX]; exact ⟨rfl, rfl⟩
  obtain ⟨N1, a1, a2, a3⟩ := cp_54_16_28 x2 s1.1
  have e1 : mI N1 16 9 = zi (dN S) := (congrFun (congrFun a2.1 16) 9).trans ((x1 16 9 (by decide)).trans c3)
  generalize hY : sI N1 54 9 (mI N1 16 9) = Y at a1
  have y1 : ∀ q k, ¬ (q = 54 ∧ k = 9) → mI Y q k = mI X q k := fun q k h => by
    rw [← hY]
    exact (u2_ne h).trans (congrFun (congrFun a2.1 q) k)
  have y2 : mI Y 54 9 = zi (dN S) := by rw [← hY]; exact rI_at.trans e1
  have y3 : ∀ q k, mA Y q k = mA N1 q k := fun q k => by rw [← hY]; rfl
  have y5 : Y.2.1 = M.2.1 ∧ Y.2.2.2 = M.2.2.2 := by rw [← hY]; exact ⟨a2.2.1.trans x5.1, a2.2.2.1.trans x5.2⟩
  obtain ⟨N2, b1, b2, b3⟩ := cp_54_16_88 y2 s1.2.1
  have e2 : mI N2 16 12 = zi (kN S) := (congrFun (congrFun b2.1 16) 12).trans ((y1 16 12 (by decide)).trans ((x1 16 12 (by decide)).trans c4))
  generalize hZ : sI N2 54 12 (mI N2 16 12) = Z at b1
  have z1 : ∀ q k, ¬ (q = 54 ∧ k = 12) → mI Z q k = mI Y q k := fun q k h => by
    rw [← hZ]
    exact (u2_ne h).trans (congrFun (congrFun b2.1 q) k)
  have z2 : mI Z 54 12 = zi (kN S) := by rw [← hZ]; exact rI_at.trans e2
  have z3 : ∀ q k, mA Z q k = mA N2 q k := fun q k => by rw [← hZ]; rfl
  have z5 : Z.2.1 = M.2.1 ∧ Z.2.2.2 = M.2.2.2 := by rw [← hZ]; exact ⟨b2.2.1.trans y5.1, b2.2.2.1.trans y5.2⟩
  obtain ⟨N3, d1, d2, d3⟩ := cp_54_16_160 z2 s1.2.2
  have n1 : ∀ q k, mI N3 q k = mI Z q k := fun q k => congrFun (congrFun d2.1 q) k
  have r3 : ∀ q k, q < 63 ∨ 64 < q → mA N3 q k = mA N2 q k := fun q k h => (d2.2.2.2 q k h).trans (z3 q k)
  have r2 : ∀ q k, q < 59 ∨ 62 < q → mA N2 q k = mA N1 q k := fun q k h => (b2.2.2.2 q k h).trans (y3 q k)
  have r1 : ∀ q k, q < 56 ∨ 58 < q → mA N1 q k = mA X q k := fun q k h => a2.2.2.2 q k h
  have t1 : ∀ q k, q < 55 ∨ 64 < q → mA N1 q k = mA M q k := fun q k h => (r1 q k (by omega)).trans (x4 q k (by omega))
  have t2 : ∀ q k, q < 55 ∨ 64 < q → mA N2 q k = mA M q k := fun q k h => (r2 q k (by omega)).trans (t1 q k h)
  refine ⟨N3, a1.trans (b1.trans d1), ⟨fun h l hh hl => ?_, ⟨?_, ?_, ?_⟩, fun i hi => ?_, fun i hi => ?_, fun i hi => ?_⟩, fun q k h => ?_, fun q k h => (r3 q k (by omega)).trans (t2 q k h), d2.2.1.trans z5.1, d2.2.2.1.trans z5.2⟩
  · show mA N3 55 (h * 12 + l) = _
    rw [r3 _ _ (by decide), r2 _ _ (by decide), r1 _ _ (by decide), x3 _ (by omega)]
    exact c1 h l hh hl
  · rw [n1, z1 _ _ (by decide), y1 _ _ (by decide)]; exact x2
  · rw [n1, z1 _ _ (by decide)]; exact y2
  · rw [n1]; exact z2
  · show mA N3 56 i = _ ∧ mA N3 57 i = _ ∧ mA N3 58 i = _
    obtain ⟨k1, k2, k3⟩ := a3 i hi
    obtain ⟨g1, g2, g3⟩ := c5 i hi
    refine ⟨?_, ?_, ?_⟩
    · rw [r3 _ _ (by decide), r2 _ _ (by decide), k1, x4 _ _ (by decide)]; exact g1
    · rw [r3 _ _ (by decide), r2 _ _ (by decide), k2, x4 _ _ (by decide)]; exact g2
    · rw [r3 _ _ (by decide), r2 _ _ (by decide), k3, x4 _ _ (by decide), show mA M 20 i = _ from g3, bb_one]
  · show mA N3 59 i = _ ∧ mA N3 60 i = _ ∧ mA N3 61 i = _ ∧ mA N3 62 i = _
    obtain ⟨k1, k2, k3, k4⟩ := b3 i hi
    obtain ⟨g1, g2, g3, g4⟩ := c6 i hi
    refine ⟨?_, ?_, ?_, ?_⟩
    · rw [r3 _ _ (by decide), k1, y3, t1 _ _ (by decide)]; exact g1
    · rw [r3 _ _ (by decide), k2, y3, t1 _ _ (by decide)]; exact g2
    · rw [r3 _ _ (by decide), k3, y3, t1 _ _ (by decide)]; exact g3
    · rw [r3 _ _ (by decide), k4, y3, t1 _ _ (by decide), show mA M 24 i = _ from g4, bb_one]
  · show mA N3 63 i = _ ∧ mA N3 64 i = _
    obtain ⟨k1, k2⟩ := d3 i hi
    obtain ⟨g1, g2⟩ := c7 i hi
    refine ⟨?_, ?_⟩
    · rw [k1, z3, t2 _ _ (by decide)]; exact g1
    · rw [k2, z3, t2 _ _ (by decide)]; exact g2
  · rw [n1, z1 _ _ (fun e => h e.1), y1 _ _ (fun e => h e.1), x1 _ _ h]
theorem cp_65_16_160 {N : PM} {n : Nat} (hn : mI N 65 12 = zi n) (h : n ≤ 8) : ∃ N', F_X3_copy_65_16_160 FUEL N (zi 0) = rV N' ∧ FA 74 75 N N' ∧ ∀ i, i < n → mA N' 74 i = mA N 25 i ∧ mA N' 75 i = mA N 26 i := by
  refine loopS (σ := Nat × PM) (fun f s => F_X3_copy_65_16_160 f s.2 (zi (s.1 : Nat))) (fun o => ∃ N', o = rV N' ∧ FA 74 75 N N' ∧ ∀ i, i < n → mA N' 74 i = mA N 25 i ∧ mA N' 75 i = mA N 26 i) (fun r s => r = n - s.1 ∧ s.1 ≤ n ∧ FA 74 75 N s.2 ∧ ∀ i, i < s.1 → mA s.2 74 i = mA N 25 i ∧ mA s.2 75 i = mA N 26 i) ?_ n (0, N) FUEL ⟨rfl, Nat.zero_le _, FA.rf, fun i hi => absurd hi (Nat.not_lt_zero i)⟩ (FUEL_gt (by omega))
  rintro f r ⟨i, X⟩ ⟨i1, i2, i3, i4⟩
  simp only at i1 i2 i3 i4
  have hm : mI X 65 12 = zi n := by
    have := congrFun (congrFun i3.1 65) 12
    exact this.trans hn
  show (∃ N', F_X3_copy_65_16_160 (f + 1) X (zi (i : Nat)) = rV N' ∧ _) ∨ _
  by_cases q : i = n
  · left
    subst q
    refine ⟨X, ?_, i3, i4⟩
    rw [F_X3_copy_65_16_160, if_pos (by rw [hm, zi_le (by omega) (by omega)]; omega)]
    try rfl
  · right
    have hlt : i < n := by omega
    refine ⟨n - (i + 1), (i + 1, sA (sA X 74 i (mA X 25 i)) 75 i (mA (sA X 74 i (mA X 25 i)) 26 i)), by omega, ⟨rfl, by show i + 1 ≤ n; omega, ((i3).sA (by decide)).sA (by decide), fun j hj => ?_⟩, ?_⟩
    · have hj2 : j < i + 1 := hj
      dsimp only
      by_cases e : j = i
      · subst e
        exact ⟨by rw [mA_ne (by decide), mA_at, i3.2.2.2 25 j (by decide)], by rw [mA_at, mA_ne (by decide), i3.2.2.2 26 j (by decide)]⟩
      · exact ⟨by rw [mA_ne (by decide), mA_nk e]; exact (i4 j (by omega)).1, by rw [mA_nk e, mA_ne (by decide)]; exact (i4 j (by omega)).2⟩
    · show F_X3_copy_65_16_160 (f + 1) X (zi (i : Nat)) = F_X3_copy_65_16_160 f (sA (sA X 74 i (mA X 25 i)) 75 i (mA (sA X 74 i (mA X 25 i)) 26 i)) (zi ((i + 1 : Nat)))
      rw [F_X3_copy_65_16_160, if_neg (by rw [hm, zi_le (by omega) (by omega)]; omega), zc (show ((i + 1 : Nat) : Int) = i + 1 by omega)]
      simp (disch := omega) only [lt_z, cI_s, cJ_s, cV_s, bI_s, bI_e, bV_s, bV_e, zl, zi_neg, zi_add, zi_sub, zi_mul, ↓reduceIte, zb0, zb1, bb_and, bb_t, bb_f, zi_ltT, zi_ltF, zi_leT, zi_leF, zi_eqT, zi_eqF, zi_ixT, zi_nat, Int.toNat_natCast, Int.reduceToNat, ltNT, and_self]
theorem cp_65_16_88 {N : PM} {n : Nat} (hn : mI N 65 9 = zi n) (h : n ≤ 20) : ∃ N', F_X3_copy_65_16_88 FUEL N (zi 0) = F_X3_copy_65_16_160 FUEL (sI N' 65 12 (mI N' 16 12)) (zi 0) ∧ FA 70 73 N N' ∧ ∀ i, i < n → mA N' 70 i = mA N 21 i ∧ mA N' 71 i = mA N 22 i ∧ mA N' 72 i = mA N 23 i ∧ mA N' 73 i = mA N 24 i &&& 1 := by
  refine loopS (σ := Nat × PM) (fun f s => F_X3_copy_65_16_88 f s.2 (zi (s.1 : Nat))) (fun o => ∃ N', o = F_X3_copy_65_16_160 FUEL (sI N' 65 12 (mI N' 16 12)) (zi 0) ∧ FA 70 73 N N' ∧ ∀ i, i < n → mA N' 70 i = mA N 21 i ∧ mA N' 71 i = mA N 22 i ∧ mA N' 72 i = mA N 23 i ∧ mA N' 73 i = mA N 24 i &&& 1) (fun r s => r = n - s.1 ∧ s.1 ≤ n ∧ FA 70 73 N s.2 ∧ ∀ i, i < s.1 → mA s.2 70 i = mA N 21 i ∧ mA s.2 71 i = mA N 22 i ∧ mA s.2 72 i = mA N 23 i ∧ mA s.2 73 i = mA N 24 i &&& 1) ?_ n (0, N) FUEL ⟨rfl, Nat.zero_le _, FA.rf, fun i hi => absurd hi (Nat.not_lt_zero i)⟩ (FUEL_gt (by omega))
  rintro f r ⟨i, X⟩ ⟨i1, i2, i3, i4⟩
  simp only at i1 i2 i3 i4
  have hm : mI X 65 9 = zi n := by
    have := congrFun (congrFun i3.1 65) 9
    exact this.trans hn
  show (∃ N', F_X3_copy_65_16_88 (f + 1) X (zi (i : Nat)) = F_X3_copy_65_16_160 FUEL (sI N' 65 12 (mI N' 16 12)) (zi 0) ∧ _) ∨ _
  by_cases q : i = n
  · left
    subst q
    refine ⟨X, ?_, i3, i4⟩
    rw [F_X3_copy_65_16_88, if_pos (by rw [hm, zi_le (by omega) (by omega)]; omega)]
    try rfl
  · right
    have hlt : i < n := by omega
    refine ⟨n - (i + 1), (i + 1, sA (sA (sA (sA X 70 i (mA X 21 i)) 71 i (mA (sA X 70 i (mA X 21 i)) 22 i)) 72 i (mA (sA (sA X 70 i (mA X 21 i)) 71 i (mA (sA X 70 i (mA X 21 i)) 22 i)) 23 i)) 73 i ((mA (sA (sA (sA X 70 i (mA X 21 i)) 71 i (mA (sA X 70 i (mA X 21 i)) 22 i)) 72 i (mA (sA (sA X 70 i (mA X 21 i)) 71 i (mA (sA X 70 i (mA X 21 i)) 22 i)) 23 i)) 24 i) &&& 1)), by omega, ⟨rfl, by show i + 1 ≤ n; omega, ((((i3).sA (by decide)).sA (by decide)).sA (by decide)).sA (by decide), fun j hj => ?_⟩, ?_⟩
    · have hj2 : j < i + 1 := hj
      dsimp only
      by_cases e : j = i
      · subst e
        exact ⟨by rw [mA_ne (by decide), mA_ne (by decide), mA_ne (by decide), mA_at, i3.2.2.2 21 j (by decide)], by rw [mA_ne (by decide), mA_ne (by decide), mA_at, mA_ne (by decide), i3.2.2.2 22 j (by decide)], by rw [mA_ne (by decide), mA_at, mA_ne (by decide), mA_ne (by decide), i3.2.2.2 23 j (by decide)], by rw [mA_at, mA_ne (by decide), mA_ne (by decide), mA_ne (by decide), i3.2.2.2 24 j (by decide)]⟩
      · exact ⟨by rw [mA_ne (by decide), mA_ne (by decide), mA_ne (by decide), mA_nk e]; exact (i4 j (by omega)).1, by rw [mA_ne (by decide), mA_ne (by decide), mA_nk e, mA_ne (by decide)]; exact (i4 j (by omega)).2.1, by rw [mA_ne (by decide), mA_nk e, mA_ne (by decide), mA_ne (by decide)]; exact (i4 j (by omega)).2.2.1, by rw [mA_nk e, mA_ne (by decide), mA_ne (by decide), mA_ne (by decide)]; exact (i4 j (by omega)).2.2.2⟩
    · show F_X3_copy_65_16_88 (f + 1) X (zi (i : Nat)) = F_X3_copy_65_16_88 f (sA (sA (sA (sA X 70 i (mA X 21 i)) 71 i (mA (sA X 70 i (mA X 21 i)) 22 i)) 72 i (mA (sA (sA X 70 i (mA X 21 i)) 71 i (mA (sA X 70 i (mA X 21 i)) 22 i)) 23 i)) 73 i ((mA (sA (sA (sA X 70 i (mA X 21 i)) 71 i (mA (sA X 70 i (mA X 21 i)) 22 i)) 72 i (mA (sA (sA X 70 i (mA X 21 i)) 71 i (mA (sA X 70 i (mA X 21 i)) 22 i)) 23 i)) 24 i) &&& 1)) (zi ((i + 1 : Nat)))
      rw [F_X3_copy_65_16_88, if_neg (by rw [hm, zi_le (by omega) (by omega)]; omega), zc (show ((i + 1 : Nat) : Int) = i + 1 by omega)]
      simp (disch := omega) only [lt_z, cI_s, cJ_s, cV_s, bI_s, bI_e, bV_s, bV_e, zl, zi_neg, zi_add, zi_sub, zi_mul, ↓reduceIte, zb0, zb1, bb_and, bb_t, bb_f, zi_ltT, zi_ltF, zi_leT, zi_leF, zi_eqT, zi_eqF, zi_ixT, zi_nat, Int.toNat_natCast, Int.reduceToNat, ltNT, and_self]
theorem cp_65_16_28 {N : PM} {n : Nat} (hn : mI N 65 4 = zi n) (h : n ≤ 20) : ∃ N', F_X3_copy_65_16_28 FUEL N (zi 0) = F_X3_copy_65_16_88 FUEL (sI N' 65 9 (mI N' 16 9)) (zi 0) ∧ FA 67 69 N N' ∧ ∀ i, i < n → mA N' 67 i = mA N 18 i ∧ mA N' 68 i = mA N 19 i ∧ mA N' 69 i = mA N 20 i &&& 1 := by
  refine loopS (σ := Nat × PM) (fun f s => F_X3_copy_65_16_28 f s.2 (zi (s.1 : Nat))) (fun o => ∃ N', o = F_X3_copy_65_16_88 FUEL (sI N' 65 9 (mI N' 16 9)) (zi 0) ∧ FA 67 69 N N' ∧ ∀ i, i < n → mA N' 67 i = mA N 18 i ∧ mA N' 68 i = mA N 19 i ∧ mA N' 69 i = mA N 20 i &&& 1) (fun r s => r = n - s.1 ∧ s.1 ≤ n ∧ FA 67 69 N s.2 ∧ ∀ i, i < s.1 → mA s.2 67 i = mA N 18 i ∧ mA s.2 68 i = mA N 19 i ∧ mA s.2 69 i = mA N 20 i &&& 1) ?_ n (0, N) FUEL ⟨rfl, Nat.zero_le _, FA.rf, fun i hi => absurd hi (Nat.not_lt_zero i)⟩ (FUEL_gt (by omega))
  rintro f r ⟨i, X⟩ ⟨i1, i2, i3, i4⟩
  simp only at i1 i2 i3 i4
  have hm : mI X 65 4 = zi n := by
    have := congrFun (congrFun i3.1 65) 4
    exact this.trans hn
  show (∃ N', F_X3_copy_65_16_28 (f + 1) X (zi (i : Nat)) = F_X3_copy_65_16_88 FUEL (sI N' 65 9 (mI N' 16 9)) (zi 0) ∧ _) ∨ _
  by_cases q : i = n
  · left
    subst q
    refine ⟨X, ?_, i3, i4⟩
    rw [F_X3_copy_65_16_28, if_pos (by rw [hm, zi_le (by omega) (by omega)]; omega)]
    try rfl
  · right
    have hlt : i < n := by omega
    refine ⟨n - (i + 1), (i + 1, sA (sA (sA X 67 i (mA X 18 i)) 68 i (mA (sA X 67 i (mA X 18 i)) 19 i)) 69 i ((mA (sA (sA X 67 i (mA X 18 i)) 68 i (mA (sA X 67 i (mA X 18 i)) 19 i)) 20 i) &&& 1)), by omega, ⟨rfl, by show i + 1 ≤ n; omega, (((i3).sA (by decide)).sA (by decide)).sA (by decide), fun j hj => ?_⟩, ?_⟩
    · have hj2 : j < i + 1 := hj
      dsimp only
      by_cases e : j = i
      · subst e
        exact ⟨by rw [mA_ne (by decide), mA_ne (by decide), mA_at, i3.2.2.2 18 j (by decide)], by rw [mA_ne (by decide), mA_at, mA_ne (by decide), i3.2.2.2 19 j (by decide)], by rw [mA_at, mA_ne (by decide), mA_ne (by decide), i3.2.2.2 20 j (by decide)]⟩
      · exact ⟨by rw [mA_ne (by decide), mA_ne (by decide), mA_nk e]; exact (i4 j (by omega)).1, by rw [mA_ne (by decide), mA_nk e, mA_ne (by decide)]; exact (i4 j (by omega)).2.1, by rw [mA_nk e, mA_ne (by decide), mA_ne (by decide)]; exact (i4 j (by omega)).2.2⟩
    · show F_X3_copy_65_16_28 (f + 1) X (zi (i : Nat)) = F_X3_copy_65_16_28 f (sA (sA (sA X 67 i (mA X 18 i)) 68 i (mA (sA X 67 i (mA X 18 i)) 19 i)) 69 i ((mA (sA (sA X 67 i (mA X 18 i)) 68 i (mA (sA X 67 i (mA X 18 i)) 19 i)) 20 i) &&& 1)) (zi ((i + 1 : Nat)))
      rw [F_X3_copy_65_16_28, if_neg (by rw [hm, zi_le (by omega) (by omega)]; omega), zc (show ((i + 1 : Nat) : Int) = i + 1 by omega)]
      simp (disch := omega) only [lt_z, cI_s, cJ_s, cV_s, bI_s, bI_e, bV_s, bV_e, zl, zi_neg, zi_add, zi_sub, zi_mul, ↓reduceIte, zb0, zb1, bb_and, bb_t, bb_f, zi_ltT, zi_ltF, zi_leT, zi_leF, zi_eqT, zi_eqF, zi_ixT, zi_nat, Int.toNat_natCast, Int.reduceToNat, ltNT, and_self]
theorem copy_65_16 {M : PM} {C : Cal} {S : Sta} (hc : WFC C) (w : WFS C S) (c : StaC M C S 16) : ∃ N, F_X3_copy_65_16 M = rV N ∧ StaC N C S 65 ∧ FrK 65 M N := by
  obtain ⟨c1, ⟨c2, c3, c4⟩, c5, c6, c7⟩ := c
  have s1 := w.2.2.1
  have hH := hc.1.2.2.1
  have e0 : F_X3_copy_65_16 M = F_X3_copy_65_16_28 FUEL (sI (cA M 17 66 0 0 120) 65 4 (mI M 16 4)) (zi 0) := by
    unfold F_X3_copy_65_16
    rw [if_pos (by decide), lt_z]
    rfl
  rw [e0]
  generalize hX : sI (cA M 17 66 0 0 120) 65 4 (mI M 16 4) = X
  have x1 : ∀ q k, q ≠ 65 → mI X q k = mI M q k := fun q k h => by rw [← hX]; exact rI_ne h
  have x2 : mI X 65 4 = zi (gN S) := by rw [← hX]; exact rI_at.trans c2
  have x3 : ∀ k, k < 120 → mA X 66 k = mA M 17 k := fun k h => by
    rw [← hX]
    show (u1 M.2.2.1 66 (va_cpy (M.2.2.1 17) (M.2.2.1 66) 0 0 120)) 66 k = _
    rw [u1, if_pos rfl, va_cpy, if_pos (by omega), Nat.zero_add]
    rfl
  have x4 : ∀ q k, q ≠ 66 → mA X q k = mA M q k := fun q k h => by
    rw [← hX]
    exact congrFun (u1_ne h) k
  have x5 : X.2.1 = M.2.1 ∧ X.2.2.2 = M.2.2.2 := by rw [← hX]; exact ⟨rfl, rfl⟩
  obtain ⟨N1, a1, a2, a3⟩ := cp_65_16_28 x2 s1.1
  have e1 : mI N1 16 9 = zi (dN S) := (congrFun (congrFun a2.1 16) 9).trans ((x1 16 9 (by decide)).trans c3)
  generalize hY : sI N1 65 9 (mI N1 16 9) = Y at a1
  have y1 : ∀ q k, ¬ (q = 65 ∧ k = 9) → mI Y q k = mI X q k := fun q k h => by
    rw [← hY]
    exact (u2_ne h).trans (congrFun (congrFun a2.1 q) k)
  have y2 : mI Y 65 9 = zi (dN S) := by rw [← hY]; exact rI_at.trans e1
  have y3 : ∀ q k, mA Y q k = mA N1 q k := fun q k => by rw [← hY]; rfl
  have y5 : Y.2.1 = M.2.1 ∧ Y.2.2.2 = M.2.2.2 := by rw [← hY]; exact ⟨a2.2.1.trans x5.1, a2.2.2.1.trans x5.2⟩
  obtain ⟨N2, b1, b2, b3⟩ := cp_65_16_88 y2 s1.2.1
  have e2 : mI N2 16 12 = zi (kN S) := (congrFun (congrFun b2.1 16) 12).trans ((y1 16 12 (by decide)).trans ((x1 16 12 (by decide)).trans c4))
  generalize hZ : sI N2 65 12 (mI N2 16 12) = Z at b1
  have z1 : ∀ q k, ¬ (q = 65 ∧ k = 12) → mI Z q k = mI Y q k := fun q k h => by
    rw [← hZ]
    exact (u2_ne h).trans (congrFun (congrFun b2.1 q) k)
  have z2 : mI Z 65 12 = zi (kN S) := by rw [← hZ]; exact rI_at.trans e2
  have z3 : ∀ q k, mA Z q k = mA N2 q k := fun q k => by rw [← hZ]; rfl
  have z5 : Z.2.1 = M.2.1 ∧ Z.2.2.2 = M.2.2.2 := by rw [← hZ]; exact ⟨b2.2.1.trans y5.1, b2.2.2.1.trans y5.2⟩
  obtain ⟨N3, d1, d2, d3⟩ := cp_65_16_160 z2 s1.2.2
  have n1 : ∀ q k, mI N3 q k = mI Z q k := fun q k => congrFun (congrFun d2.1 q) k
  have r3 : ∀ q k, q < 74 ∨ 75 < q → mA N3 q k = mA N2 q k := fun q k h => (d2.2.2.2 q k h).trans (z3 q k)
  have r2 : ∀ q k, q < 70 ∨ 73 < q → mA N2 q k = mA N1 q k := fun q k h => (b2.2.2.2 q k h).trans (y3 q k)
  have r1 : ∀ q k, q < 67 ∨ 69 < q → mA N1 q k = mA X q k := fun q k h => a2.2.2.2 q k h
  have t1 : ∀ q k, q < 66 ∨ 75 < q → mA N1 q k = mA M q k := fun q k h => (r1 q k (by omega)).trans (x4 q k (by omega))
  have t2 : ∀ q k, q < 66 ∨ 75 < q → mA N2 q k = mA M q k := fun q k h => (r2 q k (by omega)).trans (t1 q k h)
  refine ⟨N3, a1.trans (b1.trans d1), ⟨fun h l hh hl => ?_, ⟨?_, ?_, ?_⟩, fun i hi => ?_, fun i hi => ?_, fun i hi => ?_⟩, fun q k h => ?_, fun q k h => (r3 q k (by omega)).trans (t2 q k h), d2.2.1.trans z5.1, d2.2.2.1.trans z5.2⟩
  · show mA N3 66 (h * 12 + l) = _
    rw [r3 _ _ (by decide), r2 _ _ (by decide), r1 _ _ (by decide), x3 _ (by omega)]
    exact c1 h l hh hl
  · rw [n1, z1 _ _ (by decide), y1 _ _ (by decide)]; exact x2
  · rw [n1, z1 _ _ (by decide)]; exact y2
  · rw [n1]; exact z2
  · show mA N3 67 i = _ ∧ mA N3 68 i = _ ∧ mA N3 69 i = _
    obtain ⟨k1, k2, k3⟩ := a3 i hi
    obtain ⟨g1, g2, g3⟩ := c5 i hi
    refine ⟨?_, ?_, ?_⟩
    · rw [r3 _ _ (by decide), r2 _ _ (by decide), k1, x4 _ _ (by decide)]; exact g1
    · rw [r3 _ _ (by decide), r2 _ _ (by decide), k2, x4 _ _ (by decide)]; exact g2
    · rw [r3 _ _ (by decide), r2 _ _ (by decide), k3, x4 _ _ (by decide), show mA M 20 i = _ from g3, bb_one]
  · show mA N3 70 i = _ ∧ mA N3 71 i = _ ∧ mA N3 72 i = _ ∧ mA N3 73 i = _
    obtain ⟨k1, k2, k3, k4⟩ := b3 i hi
    obtain ⟨g1, g2, g3, g4⟩ := c6 i hi
    refine ⟨?_, ?_, ?_, ?_⟩
    · rw [r3 _ _ (by decide), k1, y3, t1 _ _ (by decide)]; exact g1
    · rw [r3 _ _ (by decide), k2, y3, t1 _ _ (by decide)]; exact g2
    · rw [r3 _ _ (by decide), k3, y3, t1 _ _ (by decide)]; exact g3
    · rw [r3 _ _ (by decide), k4, y3, t1 _ _ (by decide), show mA M 24 i = _ from g4, bb_one]
  · show mA N3 74 i = _ ∧ mA N3 75 i = _
    obtain ⟨k1, k2⟩ := d3 i hi
    obtain ⟨g1, g2⟩ := c7 i hi
    refine ⟨?_, ?_⟩
    · rw [k1, z3, t2 _ _ (by decide)]; exact g1
    · rw [k2, z3, t2 _ _ (by decide)]; exact g2
  · rw [n1, z1 _ _ (fun e => h e.1), y1 _ _ (fun e => h e.1), x1 _ _ h]
theorem cp_16_43_160 {N : PM} {n : Nat} (hn : mI N 16 12 = zi n) (h : n ≤ 8) : ∃ N', F_X3_copy_16_43_160 FUEL N (zi 0) = rV N' ∧ FA 25 26 N N' ∧ ∀ i, i < n → mA N' 25 i = mA N 52 i ∧ mA N' 26 i = mA N 53 i := by
  refine loopS (σ := Nat × PM) (fun f s => F_X3_copy_16_43_160 f s.2 (zi (s.1 : Nat))) (fun o => ∃ N', o = rV N' ∧ FA 25 26 N N' ∧ ∀ i, i < n → mA N' 25 i = mA N 52 i ∧ mA N' 26 i = mA N 53 i) (fun r s => r = n - s.1 ∧ s.1 ≤ n ∧ FA 25 26 N s.2 ∧ ∀ i, i < s.1 → mA s.2 25 i = mA N 52 i ∧ mA s.2 26 i = mA N 53 i) ?_ n (0, N) FUEL ⟨rfl, Nat.zero_le _, FA.rf, fun i hi => absurd hi (Nat.not_lt_zero i)⟩ (FUEL_gt (by omega))
  rintro f r ⟨i, X⟩ ⟨i1, i2, i3, i4⟩
  simp only at i1 i2 i3 i4
  have hm : mI X 16 12 = zi n := by
    have := congrFun (congrFun i3.1 16) 12
    exact this.trans hn
  show (∃ N', F_X3_copy_16_43_160 (f + 1) X (zi (i : Nat)) = rV N' ∧ _) ∨ _
  by_cases q : i = n
  · left
    subst q
    refine ⟨X, ?_, i3, i4⟩
    rw [F_X3_copy_16_43_160, if_pos (by rw [hm, zi_le (by omega) (by omega)]; omega)]
    try rfl
  · right
    have hlt : i < n := by omega
    refine ⟨n - (i + 1), (i + 1, sA (sA X 25 i (mA X 52 i)) 26 i (mA (sA X 25 i (mA X 52 i)) 53 i)), by omega, ⟨rfl, by show i + 1 ≤ n; omega, ((i3).sA (by decide)).sA (by decide), fun j hj => ?_⟩, ?_⟩
    · have hj2 : j < i + 1 := hj
      dsimp only
      by_cases e : j = i
      · subst e
        exact ⟨by rw [mA_ne (by decide), mA_at, i3.2.2.2 52 j (by decide)], by rw [mA_at, mA_ne (by decide), i3.2.2.2 53 j (by decide)]⟩
      · exact ⟨by rw [mA_ne (by decide), mA_nk e]; exact (i4 j (by omega)).1, by rw [mA_nk e, mA_ne (by decide)]; exact (i4 j (by omega)).2⟩
    · show F_X3_copy_16_43_160 (f + 1) X (zi (i : Nat)) = F_X3_copy_16_43_160 f (sA (sA X 25 i (mA X 52 i)) 26 i (mA (sA X 25 i (mA X 52 i)) 53 i)) (zi ((i + 1 : Nat)))
      rw [F_X3_copy_16_43_160, if_neg (by rw [hm, zi_le (by omega) (by omega)]; omega), zc (show ((i + 1 : Nat) : Int) = i + 1 by omega)]
      simp (disch := omega) only [lt_z, cI_s, cJ_s, cV_s, bI_s, bI_e, bV_s, bV_e, zl, zi_neg, zi_add, zi_sub, zi_mul, ↓reduceIte, zb0, zb1, bb_and, bb_t, bb_f, zi_ltT, zi_ltF, zi_leT, zi_leF, zi_eqT, zi_eqF, zi_ixT, zi_nat, Int.toNat_natCast, Int.reduceToNat, ltNT, and_self]
theorem cp_16_43_88 {N : PM} {n : Nat} (hn : mI N 16 9 = zi n) (h : n ≤ 20) : ∃ N', F_X3_copy_16_43_88 FUEL N (zi 0) = F_X3_copy_16_43_160 FUEL (sI N' 16 12 (mI N' 43 12)) (zi 0) ∧ FA 21 24 N N' ∧ ∀ i, i < n → mA N' 21 i = mA N 48 i ∧ mA N' 22 i = mA N 49 i ∧ mA N' 23 i = mA N 50 i ∧ mA N' 24 i = mA N 51 i &&& 1 := by
  refine loopS (σ := Nat × PM) (fun f s => F_X3_copy_16_43_88 f s.2 (zi (s.1 : Nat))) (fun o => ∃ N', o = F_X3_copy_16_43_160 FUEL (sI N' 16 12 (mI N' 43 12)) (zi 0) ∧ FA 21 24 N N' ∧ ∀ i, i < n → mA N' 21 i = mA N 48 i ∧ mA N' 22 i = mA N 49 i ∧ mA N' 23 i = mA N 50 i ∧ mA N' 24 i = mA N 51 i &&& 1) (fun r s => r = n - s.1 ∧ s.1 ≤ n ∧ FA 21 24 N s.2 ∧ ∀ i, i < s.1 → mA s.2 21 i = mA N 48 i ∧ mA s.2 22 i = mA N 49 i ∧ mA s.2 23 i = mA N 50 i ∧ mA s.2 24 i = mA N 51 i &&& 1) ?_ n (0, N) FUEL ⟨rfl, Nat.zero_le _, FA.rf, fun i hi => absurd hi (Nat.not_lt_zero i)⟩ (FUEL_gt (by omega))
  rintro f r ⟨i, X⟩ ⟨i1, i2, i3, i4⟩
  simp only at i1 i2 i3 i4
  have hm : mI X 16 9 = zi n := by
    have := congrFun (congrFun i3.1 16) 9
    exact this.trans hn
  show (∃ N', F_X3_copy_16_43_88 (f + 1) X (zi (i : Nat)) = F_X3_copy_16_43_160 FUEL (sI N' 16 12 (mI N' 43 12)) (zi 0) ∧ _) ∨ _
  by_cases q : i = n
  · left
    subst q
    refine ⟨X, ?_, i3, i4⟩
    rw [F_X3_copy_16_43_88, if_pos (by rw [hm, zi_le (by omega) (by omega)]; omega)]
    try rfl
  · right
    have hlt : i < n := by omega
    refine ⟨n - (i + 1), (i + 1, sA (sA (sA (sA X 21 i (mA X 48 i)) 22 i (mA (sA X 21 i (mA X 48 i)) 49 i)) 23 i (mA (sA (sA X 21 i (mA X 48 i)) 22 i (mA (sA X 21 i (mA X 48 i)) 49 i)) 50 i)) 24 i ((mA (sA (sA (sA X 21 i (mA X 48 i)) 22 i (mA (sA X 21 i (mA X 48 i)) 49 i)) 23 i (mA (sA (sA X 21 i (mA X 48 i)) 22 i (mA (sA X 21 i (mA X 48 i)) 49 i)) 50 i)) 51 i) &&& 1)), by omega, ⟨rfl, by show i + 1 ≤ n; omega, ((((i3).sA (by decide)).sA (by decide)).sA (by decide)).sA (by decide), fun j hj => ?_⟩, ?_⟩
    · have hj2 : j < i + 1 := hj
      dsimp only
      by_cases e : j = i
      · subst e
        exact ⟨by rw [mA_ne (by decide), mA_ne (by decide), mA_ne (by decide), mA_at, i3.2.2.2 48 j (by decide)], by rw [mA_ne (by decide), mA_ne (by decide), mA_at, mA_ne (by decide), i3.2.2.2 49 j (by decide)], by rw [mA_ne (by decide), mA_at, mA_ne (by decide), mA_ne (by decide), i3.2.2.2 50 j (by decide)], by rw [mA_at, mA_ne (by decide), mA_ne (by decide), mA_ne (by decide), i3.2.2.2 51 j (by decide)]⟩
      · exact ⟨by rw [mA_ne (by decide), mA_ne (by decide), mA_ne (by decide), mA_nk e]; exact (i4 j (by omega)).1, by rw [mA_ne (by decide), mA_ne (by decide), mA_nk e, mA_ne (by decide)]; exact (i4 j (by omega)).2.1, by rw [mA_ne (by decide), mA_nk e, mA_ne (by decide), mA_ne (by decide)]; exact (i4 j (by omega)).2.2.1, by rw [mA_nk e, mA_ne (by decide), mA_ne (by decide), mA_ne (by decide)]; exact (i4 j (by omega)).2.2.2⟩
    · show F_X3_copy_16_43_88 (f + 1) X (zi (i : Nat)) = F_X3_copy_16_43_88 f (sA (sA (sA (sA X 21 i (mA X 48 i)) 22 i (mA (sA X 21 i (mA X 48 i)) 49 i)) 23 i (mA (sA (sA X 21 i (mA X 48 i)) 22 i (mA (sA X 21 i (mA X 48 i)) 49 i)) 50 i)) 24 i ((mA (sA (sA (sA X 21 i (mA X 48 i)) 22 i (mA (sA X 21 i (mA X 48 i)) 49 i)) 23 i (mA (sA (sA X 21 i (mA X 48 i)) 22 i (mA (sA X 21 i (mA X 48 i)) 49 i)) 50 i)) 51 i) &&& 1)) (zi ((i + 1 : Nat)))
      rw [F_X3_copy_16_43_88, if_neg (by rw [hm, zi_le (by omega) (by omega)]; omega), zc (show ((i + 1 : Nat) : Int) = i + 1 by omega)]
      simp (disch := omega) only [lt_z, cI_s, cJ_s, cV_s, bI_s, bI_e, bV_s, bV_e, zl, zi_neg, zi_add, zi_sub, zi_mul, ↓reduceIte, zb0, zb1, bb_and, bb_t, bb_f, zi_ltT, zi_ltF, zi_leT, zi_leF, zi_eqT, zi_eqF, zi_ixT, zi_nat, Int.toNat_natCast, Int.reduceToNat, ltNT, and_self]
theorem cp_16_43_28 {N : PM} {n : Nat} (hn : mI N 16 4 = zi n) (h : n ≤ 20) : ∃ N', F_X3_copy_16_43_28 FUEL N (zi 0) = F_X3_copy_16_43_88 FUEL (sI N' 16 9 (mI N' 43 9)) (zi 0) ∧ FA 18 20 N N' ∧ ∀ i, i < n → mA N' 18 i = mA N 45 i ∧ mA N' 19 i = mA N 46 i ∧ mA N' 20 i = mA N 47 i &&& 1 := by
  refine loopS (σ := Nat × PM) (fun f s => F_X3_copy_16_43_28 f s.2 (zi (s.1 : Nat))) (fun o => ∃ N', o = F_X3_copy_16_43_88 FUEL (sI N' 16 9 (mI N' 43 9)) (zi 0) ∧ FA 18 20 N N' ∧ ∀ i, i < n → mA N' 18 i = mA N 45 i ∧ mA N' 19 i = mA N 46 i ∧ mA N' 20 i = mA N 47 i &&& 1) (fun r s => r = n - s.1 ∧ s.1 ≤ n ∧ FA 18 20 N s.2 ∧ ∀ i, i < s.1 → mA s.2 18 i = mA N 45 i ∧ mA s.2 19 i = mA N 46 i ∧ mA s.2 20 i = mA N 47 i &&& 1) ?_ n (0, N) FUEL ⟨rfl, Nat.zero_le _, FA.rf, fun i hi => absurd hi (Nat.not_lt_zero i)⟩ (FUEL_gt (by omega))
  rintro f r ⟨i, X⟩ ⟨i1, i2, i3, i4⟩
  simp only at i1 i2 i3 i4
  have hm : mI X 16 4 = zi n := by
    have := congrFun (congrFun i3.1 16) 4
    exact this.trans hn
  show (∃ N', F_X3_copy_16_43_28 (f + 1) X (zi (i : Nat)) = F_X3_copy_16_43_88 FUEL (sI N' 16 9 (mI N' 43 9)) (zi 0) ∧ _) ∨ _
  by_cases q : i = n
  · left
    subst q
    refine ⟨X, ?_, i3, i4⟩
    rw [F_X3_copy_16_43_28, if_pos (by rw [hm, zi_le (by omega) (by omega)]; omega)]
    try rfl
  · right
    have hlt : i < n := by omega
    refine ⟨n - (i + 1), (i + 1, sA (sA (sA X 18 i (mA X 45 i)) 19 i (mA (sA X 18 i (mA X 45 i)) 46 i)) 20 i ((mA (sA (sA X 18 i (mA X 45 i)) 19 i (mA (sA X 18 i (mA X 45 i)) 46 i)) 47 i) &&& 1)), by omega, ⟨rfl, by show i + 1 ≤ n; omega, (((i3).sA (by decide)).sA (by decide)).sA (by decide), fun j hj => ?_⟩, ?_⟩
    · have hj2 : j < i + 1 := hj
      dsimp only
      by_cases e : j = i
      · subst e
        exact ⟨by rw [mA_ne (by decide), mA_ne (by decide), mA_at, i3.2.2.2 45 j (by decide)], by rw [mA_ne (by decide), mA_at, mA_ne (by decide), i3.2.2.2 46 j (by decide)], by rw [mA_at, mA_ne (by decide), mA_ne (by decide), i3.2.2.2 47 j (by decide)]⟩
      · exact ⟨by rw [mA_ne (by decide), mA_ne (by decide), mA_nk e]; exact (i4 j (by omega)).1, by rw [mA_ne (by decide), mA_nk e, mA_ne (by decide)]; exact (i4 j (by omega)).2.1, by rw [mA_nk e, mA_ne (by decide), mA_ne (by decide)]; exact (i4 j (by omega)).2.2⟩
    · show F_X3_copy_16_43_28 (f + 1) X (zi (i : Nat)) = F_X3_copy_16_43_28 f (sA (sA (sA X 18 i (mA X 45 i)) 19 i (mA (sA X 18 i (mA X 45 i)) 46 i)) 20 i ((mA (sA (sA X 18 i (mA X 45 i)) 19 i (mA (sA X 18 i (mA X 45 i)) 46 i)) 47 i) &&& 1)) (zi ((i + 1 : Nat)))
      rw [F_X3_copy_16_43_28, if_neg (by rw [hm, zi_le (by omega) (by omega)]; omega), zc (show ((i + 1 : Nat) : Int) = i + 1 by omega)]
      simp (disch := omega) only [lt_z, cI_s, cJ_s, cV_s, bI_s, bI_e, bV_s, bV_e, zl, zi_neg, zi_add, zi_sub, zi_mul, ↓reduceIte, zb0, zb1, bb_and, bb_t, bb_f, zi_ltT, zi_ltF, zi_leT, zi_leF, zi_eqT, zi_eqF, zi_ixT, zi_nat, Int.toNat_natCast, Int.reduceToNat, ltNT, and_self]
theorem copy_16_43 {M : PM} {C : Cal} {S : Sta} (hc : WFC C) (w : WFS C S) (c : StaC M C S 43) : ∃ N, F_X3_copy_16_43 M = rV N ∧ StaC N C S 16 ∧ FrK 16 M N := by
  obtain ⟨c1, ⟨c2, c3, c4⟩, c5, c6, c7⟩ := c
  have s1 := w.2.2.1
  have hH := hc.1.2.2.1
  have e0 : F_X3_copy_16_43 M = F_X3_copy_16_43_28 FUEL (sI (cA M 44 17 0 0 120) 16 4 (mI M 43 4)) (zi 0) := by
    unfold F_X3_copy_16_43
    rw [if_pos (by decide), lt_z]
    rfl
  rw [e0]
  generalize hX : sI (cA M 44 17 0 0 120) 16 4 (mI M 43 4) = X
  have x1 : ∀ q k, q ≠ 16 → mI X q k = mI M q k := fun q k h => by rw [← hX]; exact rI_ne h
  have x2 : mI X 16 4 = zi (gN S) := by rw [← hX]; exact rI_at.trans c2
  have x3 : ∀ k, k < 120 → mA X 17 k = mA M 44 k := fun k h => by
    rw [← hX]
    show (u1 M.2.2.1 17 (va_cpy (M.2.2.1 44) (M.2.2.1 17) 0 0 120)) 17 k = _
    rw [u1, if_pos rfl, va_cpy, if_pos (by omega), Nat.zero_add]
    rfl
  have x4 : ∀ q k, q ≠ 17 → mA X q k = mA M q k := fun q k h => by
    rw [← hX]
    exact congrFun (u1_ne h) k
  have x5 : X.2.1 = M.2.1 ∧ X.2.2.2 = M.2.2.2 := by rw [← hX]; exact ⟨rfl, rfl⟩
  obtain ⟨N1, a1, a2, a3⟩ := cp_16_43_28 x2 s1.1
  have e1 : mI N1 43 9 = zi (dN S) := (congrFun (congrFun a2.1 43) 9).trans ((x1 43 9 (by decide)).trans c3)
  generalize hY : sI N1 16 9 (mI N1 43 9) = Y at a1
  have y1 : ∀ q k, ¬ (q = 16 ∧ k = 9) → mI Y q k = mI X q k := fun q k h => by
    rw [← hY]
    exact (u2_ne h).trans (congrFun (congrFun a2.1 q) k)
  have y2 : mI Y 16 9 = zi (dN S) := by rw [← hY]; exact rI_at.trans e1
  have y3 : ∀ q k, mA Y q k = mA N1 q k := fun q k => by rw [← hY]; rfl
  have y5 : Y.2.1 = M.2.1 ∧ Y.2.2.2 = M.2.2.2 := by rw [← hY]; exact ⟨a2.2.1.trans x5.1, a2.2.2.1.trans x5.2⟩
  obtain ⟨N2, b1, b2, b3⟩ := cp_16_43_88 y2 s1.2.1
  have e2 : mI N2 43 12 = zi (kN S) := (congrFun (congrFun b2.1 43) 12).trans ((y1 43 12 (by decide)).trans ((x1 43 12 (by decide)).trans c4))
  generalize hZ : sI N2 16 12 (mI N2 43 12) = Z at b1
  have z1 : ∀ q k, ¬ (q = 16 ∧ k = 12) → mI Z q k = mI Y q k := fun q k h => by
    rw [← hZ]
    exact (u2_ne h).trans (congrFun (congrFun b2.1 q) k)
  have z2 : mI Z 16 12 = zi (kN S) := by rw [← hZ]; exact rI_at.trans e2
  have z3 : ∀ q k, mA Z q k = mA N2 q k := fun q k => by rw [← hZ]; rfl
  have z5 : Z.2.1 = M.2.1 ∧ Z.2.2.2 = M.2.2.2 := by rw [← hZ]; exact ⟨b2.2.1.trans y5.1, b2.2.2.1.trans y5.2⟩
  obtain ⟨N3, d1, d2, d3⟩ := cp_16_43_160 z2 s1.2.2
  have n1 : ∀ q k, mI N3 q k = mI Z q k := fun q k => congrFun (congrFun d2.1 q) k
  have r3 : ∀ q k, q < 25 ∨ 26 < q → mA N3 q k = mA N2 q k := fun q k h => (d2.2.2.2 q k h).trans (z3 q k)
  have r2 : ∀ q k, q < 21 ∨ 24 < q → mA N2 q k = mA N1 q k := fun q k h => (b2.2.2.2 q k h).trans (y3 q k)
  have r1 : ∀ q k, q < 18 ∨ 20 < q → mA N1 q k = mA X q k := fun q k h => a2.2.2.2 q k h
  have t1 : ∀ q k, q < 17 ∨ 26 < q → mA N1 q k = mA M q k := fun q k h => (r1 q k (by omega)).trans (x4 q k (by omega))
  have t2 : ∀ q k, q < 17 ∨ 26 < q → mA N2 q k = mA M q k := fun q k h => (r2 q k (by omega)).trans (t1 q k h)
  refine ⟨N3, a1.trans (b1.trans d1), ⟨fun h l hh hl => ?_, ⟨?_, ?_, ?_⟩, fun i hi => ?_, fun i hi => ?_, fun i hi => ?_⟩, fun q k h => ?_, fun q k h => (r3 q k (by omega)).trans (t2 q k h), d2.2.1.trans z5.1, d2.2.2.1.trans z5.2⟩
  · show mA N3 17 (h * 12 + l) = _
    rw [r3 _ _ (by decide), r2 _ _ (by decide), r1 _ _ (by decide), x3 _ (by omega)]
    exact c1 h l hh hl
  · rw [n1, z1 _ _ (by decide), y1 _ _ (by decide)]; exact x2
  · rw [n1, z1 _ _ (by decide)]; exact y2
  · rw [n1]; exact z2
  · show mA N3 18 i = _ ∧ mA N3 19 i = _ ∧ mA N3 20 i = _
    obtain ⟨k1, k2, k3⟩ := a3 i hi
    obtain ⟨g1, g2, g3⟩ := c5 i hi
    refine ⟨?_, ?_, ?_⟩
    · rw [r3 _ _ (by decide), r2 _ _ (by decide), k1, x4 _ _ (by decide)]; exact g1
    · rw [r3 _ _ (by decide), r2 _ _ (by decide), k2, x4 _ _ (by decide)]; exact g2
    · rw [r3 _ _ (by decide), r2 _ _ (by decide), k3, x4 _ _ (by decide), show mA M 47 i = _ from g3, bb_one]
  · show mA N3 21 i = _ ∧ mA N3 22 i = _ ∧ mA N3 23 i = _ ∧ mA N3 24 i = _
    obtain ⟨k1, k2, k3, k4⟩ := b3 i hi
    obtain ⟨g1, g2, g3, g4⟩ := c6 i hi
    refine ⟨?_, ?_, ?_, ?_⟩
    · rw [r3 _ _ (by decide), k1, y3, t1 _ _ (by decide)]; exact g1
    · rw [r3 _ _ (by decide), k2, y3, t1 _ _ (by decide)]; exact g2
    · rw [r3 _ _ (by decide), k3, y3, t1 _ _ (by decide)]; exact g3
    · rw [r3 _ _ (by decide), k4, y3, t1 _ _ (by decide), show mA M 51 i = _ from g4, bb_one]
  · show mA N3 25 i = _ ∧ mA N3 26 i = _
    obtain ⟨k1, k2⟩ := d3 i hi
    obtain ⟨g1, g2⟩ := c7 i hi
    refine ⟨?_, ?_⟩
    · rw [k1, z3, t2 _ _ (by decide)]; exact g1
    · rw [k2, z3, t2 _ _ (by decide)]; exact g2
  · rw [n1, z1 _ _ (fun e => h e.1), y1 _ _ (fun e => h e.1), x1 _ _ h]
theorem cp_16_54_160 {N : PM} {n : Nat} (hn : mI N 16 12 = zi n) (h : n ≤ 8) : ∃ N', F_X3_copy_16_54_160 FUEL N (zi 0) = rV N' ∧ FA 25 26 N N' ∧ ∀ i, i < n → mA N' 25 i = mA N 63 i ∧ mA N' 26 i = mA N 64 i := by
  refine loopS (σ := Nat × PM) (fun f s => F_X3_copy_16_54_160 f s.2 (zi (s.1 : Nat))) (fun o => ∃ N', o = rV N' ∧ FA 25 26 N N' ∧ ∀ i, i < n → mA N' 25 i = mA N 63 i ∧ mA N' 26 i = mA N 64 i) (fun r s => r = n - s.1 ∧ s.1 ≤ n ∧ FA 25 26 N s.2 ∧ ∀ i, i < s.1 → mA s.2 25 i = mA N 63 i ∧ mA s.2 26 i = mA N 64 i) ?_ n (0, N) FUEL ⟨rfl, Nat.zero_le _, FA.rf, fun i hi => absurd hi (Nat.not_lt_zero i)⟩ (FUEL_gt (by omega))
  rintro f r ⟨i, X⟩ ⟨i1, i2, i3, i4⟩
  simp only at i1 i2 i3 i4
  have hm : mI X 16 12 = zi n := by
    have := congrFun (congrFun i3.1 16) 12
    exact this.trans hn
  show (∃ N', F_X3_copy_16_54_160 (f + 1) X (zi (i : Nat)) = rV N' ∧ _) ∨ _
  by_cases q : i = n
  · left
    subst q
    refine ⟨X, ?_, i3, i4⟩
    rw [F_X3_copy_16_54_160, if_pos (by rw [hm, zi_le (by omega) (by omega)]; omega)]
    try rfl
  · right
    have hlt : i < n := by omega
    refine ⟨n - (i + 1), (i + 1, sA (sA X 25 i (mA X 63 i)) 26 i (mA (sA X 25 i (mA X 63 i)) 64 i)), by omega, ⟨rfl, by show i + 1 ≤ n; omega, ((i3).sA (by decide)).sA (by decide), fun j hj => ?_⟩, ?_⟩
    · have hj2 : j < i + 1 := hj
      dsimp only
      by_cases e : j = i
      · subst e
        exact ⟨by rw [mA_ne (by decide), mA_at, i3.2.2.2 63 j (by decide)], by rw [mA_at, mA_ne (by decide), i3.2.2.2 64 j (by decide)]⟩
      · exact ⟨by rw [mA_ne (by decide), mA_nk e]; exact (i4 j (by omega)).1, by rw [mA_nk e, mA_ne (by decide)]; exact (i4 j (by omega)).2⟩
    · show F_X3_copy_16_54_160 (f + 1) X (zi (i : Nat)) = F_X3_copy_16_54_160 f (sA (sA X 25 i (mA X 63 i)) 26 i (mA (sA X 25 i (mA X 63 i)) 64 i)) (zi ((i + 1 : Nat)))
      rw [F_X3_copy_16_54_160, if_neg (by rw [hm, zi_le (by omega) (by omega)]; omega), zc (show ((i + 1 : Nat) : Int) = i + 1 by omega)]
      simp (disch := omega) only [lt_z, cI_s, cJ_s, cV_s, bI_s, bI_e, bV_s, bV_e, zl, zi_neg, zi_add, zi_sub, zi_mul, ↓reduceIte, zb0, zb1, bb_and, bb_t, bb_f, zi_ltT, zi_ltF, zi_leT, zi_leF, zi_eqT, zi_eqF, zi_ixT, zi_nat, Int.toNat_natCast, Int.reduceToNat, ltNT, and_self]
theorem cp_16_54_88 {N : PM} {n : Nat} (hn : mI N 16 9 = zi n) (h : n ≤ 20) : ∃ N', F_X3_copy_16_54_88 FUEL N (zi 0) = F_X3_copy_16_54_160 FUEL (sI N' 16 12 (mI N' 54 12)) (zi 0) ∧ FA 21 24 N N' ∧ ∀ i, i < n → mA N' 21 i = mA N 59 i ∧ mA N' 22 i = mA N 60 i ∧ mA N' 23 i = mA N 61 i ∧ mA N' 24 i = mA N 62 i &&& 1 := by
  refine loopS (σ := Nat × PM) (fun f s => F_X3_copy_16_54_88 f s.2 (zi (s.1 : Nat))) (fun o => ∃ N', o = F_X3_copy_16_54_160 FUEL (sI N' 16 12 (mI N' 54 12)) (zi 0) ∧ FA 21 24 N N' ∧ ∀ i, i < n → mA N' 21 i = mA N 59 i ∧ mA N' 22 i = mA N 60 i ∧ mA N' 23 i = mA N 61 i ∧ mA N' 24 i = mA N 62 i &&& 1) (fun r s => r = n - s.1 ∧ s.1 ≤ n ∧ FA 21 24 N s.2 ∧ ∀ i, i < s.1 → mA s.2 21 i = mA N 59 i ∧ mA s.2 22 i = mA N 60 i ∧ mA s.2 23 i = mA N 61 i ∧ mA s.2 24 i = mA N 62 i &&& 1) ?_ n (0, N) FUEL ⟨rfl, Nat.zero_le _, FA.rf, fun i hi => absurd hi (Nat.not_lt_zero i)⟩ (FUEL_gt (by omega))
  rintro f r ⟨i, X⟩ ⟨i1, i2, i3, i4⟩
  simp only at i1 i2 i3 i4
  have hm : mI X 16 9 = zi n := by
    have := congrFun (congrFun i3.1 16) 9
    exact this.trans hn
  show (∃ N', F_X3_copy_16_54_88 (f + 1) X (zi (i : Nat)) = F_X3_copy_16_54_160 FUEL (sI N' 16 12 (mI N' 54 12)) (zi 0) ∧ _) ∨ _
  by_cases q : i = n
  · left
    subst q
    refine ⟨X, ?_, i3, i4⟩
    rw [F_X3_copy_16_54_88, if_pos (by rw [hm, zi_le (by omega) (by omega)]; omega)]
    try rfl
  · right
    have hlt : i < n := by omega
    refine ⟨n - (i + 1), (i + 1, sA (sA (sA (sA X 21 i (mA X 59 i)) 22 i (mA (sA X 21 i (mA X 59 i)) 60 i)) 23 i (mA (sA (sA X 21 i (mA X 59 i)) 22 i (mA (sA X 21 i (mA X 59 i)) 60 i)) 61 i)) 24 i ((mA (sA (sA (sA X 21 i (mA X 59 i)) 22 i (mA (sA X 21 i (mA X 59 i)) 60 i)) 23 i (mA (sA (sA X 21 i (mA X 59 i)) 22 i (mA (sA X 21 i (mA X 59 i)) 60 i)) 61 i)) 62 i) &&& 1)), by omega, ⟨rfl, by show i + 1 ≤ n; omega, ((((i3).sA (by decide)).sA (by decide)).sA (by decide)).sA (by decide), fun j hj => ?_⟩, ?_⟩
    · have hj2 : j < i + 1 := hj
      dsimp only
      by_cases e : j = i
      · subst e
        exact ⟨by rw [mA_ne (by decide), mA_ne (by decide), mA_ne (by decide), mA_at, i3.2.2.2 59 j (by decide)], by rw [mA_ne (by decide), mA_ne (by decide), mA_at, mA_ne (by decide), i3.2.2.2 60 j (by decide)], by rw [mA_ne (by decide), mA_at, mA_ne (by decide), mA_ne (by decide), i3.2.2.2 61 j (by decide)], by rw [mA_at, mA_ne (by decide), mA_ne (by decide), mA_ne (by decide), i3.2.2.2 62 j (by decide)]⟩
      · exact ⟨by rw [mA_ne (by decide), mA_ne (by decide), mA_ne (by decide), mA_nk e]; exact (i4 j (by omega)).1, by rw [mA_ne (by decide), mA_ne (by decide), mA_nk e, mA_ne (by decide)]; exact (i4 j (by omega)).2.1, by rw [mA_ne (by decide), mA_nk e, mA_ne (by decide), mA_ne (by decide)]; exact (i4 j (by omega)).2.2.1, by rw [mA_nk e, mA_ne (by decide), mA_ne (by decide), mA_ne (by decide)]; exact (i4 j (by omega)).2.2.2⟩
    · show F_X3_copy_16_54_88 (f + 1) X (zi (i : Nat)) = F_X3_copy_16_54_88 f (sA (sA (sA (sA X 21 i (mA X 59 i)) 22 i (mA (sA X 21 i (mA X 59 i)) 60 i)) 23 i (mA (sA (sA X 21 i (mA X 59 i)) 22 i (mA (sA X 21 i (mA X 59 i)) 60 i)) 61 i)) 24 i ((mA (sA (sA (sA X 21 i (mA X 59 i)) 22 i (mA (sA X 21 i (mA X 59 i)) 60 i)) 23 i (mA (sA (sA X 21 i (mA X 59 i)) 22 i (mA (sA X 21 i (mA X 59 i)) 60 i)) 61 i)) 62 i) &&& 1)) (zi ((i + 1 : Nat)))
      rw [F_X3_copy_16_54_88, if_neg (by rw [hm, zi_le (by omega) (by omega)]; omega), zc (show ((i + 1 : Nat) : Int) = i + 1 by omega)]
      simp (disch := omega) only [lt_z, cI_s, cJ_s, cV_s, bI_s, bI_e, bV_s, bV_e, zl, zi_neg, zi_add, zi_sub, zi_mul, ↓reduceIte, zb0, zb1, bb_and, bb_t, bb_f, zi_ltT, zi_ltF, zi_leT, zi_leF, zi_eqT, zi_eqF, zi_ixT, zi_nat, Int.toNat_natCast, Int.reduceToNat, ltNT, and_self]
theorem cp_16_54_28 {N : PM} {n : Nat} (hn : mI N 16 4 = zi n) (h : n ≤ 20) : ∃ N', F_X3_copy_16_54_28 FUEL N (zi 0) = F_X3_copy_16_54_88 FUEL (sI N' 16 9 (mI N' 54 9)) (zi 0) ∧ FA 18 20 N N' ∧ ∀ i, i < n → mA N' 18 i = mA N 56 i ∧ mA N' 19 i = mA N 57 i ∧ mA N' 20 i = mA N 58 i &&& 1 := by
  refine loopS (σ := Nat × PM) (fun f s => F_X3_copy_16_54_28 f s.2 (zi (s.1 : Nat))) (fun o => ∃ N', o = F_X3_copy_16_54_88 FUEL (sI N' 16 9 (mI N' 54 9)) (zi 0) ∧ FA 18 20 N N' ∧ ∀ i, i < n → mA N' 18 i = mA N 56 i ∧ mA N' 19 i = mA N 57 i ∧ mA N' 20 i = mA N 58 i &&& 1) (fun r s => r = n - s.1 ∧ s.1 ≤ n ∧ FA 18 20 N s.2 ∧ ∀ i, i < s.1 → mA s.2 18 i = mA N 56 i ∧ mA s.2 19 i = mA N 57 i ∧ mA s.2 20 i = mA N 58 i &&& 1) ?_ n (0, N) FUEL ⟨rfl, Nat.zero_le _, FA.rf, fun i hi => absurd hi (Nat.not_lt_zero i)⟩ (FUEL_gt (by omega))
  rintro f r ⟨i, X⟩ ⟨i1, i2, i3, i4⟩
  simp only at i1 i2 i3 i4
  have hm : mI X 16 4 = zi n := by
    have := congrFun (congrFun i3.1 16) 4
    exact this.trans hn
  show (∃ N', F_X3_copy_16_54_28 (f + 1) X (zi (i : Nat)) = F_X3_copy_16_54_88 FUEL (sI N' 16 9 (mI N' 54 9)) (zi 0) ∧ _) ∨ _
  by_cases q : i = n
  · left
    subst q
    refine ⟨X, ?_, i3, i4⟩
    rw [F_X3_copy_16_54_28, if_pos (by rw [hm, zi_le (by omega) (by omega)]; omega)]
    try rfl
  · right
    have hlt : i < n := by omega
    refine ⟨n - (i + 1), (i + 1, sA (sA (sA X 18 i (mA X 56 i)) 19 i (mA (sA X 18 i (mA X 56 i)) 57 i)) 20 i ((mA (sA (sA X 18 i (mA X 56 i)) 19 i (mA (sA X 18 i (mA X 56 i)) 57 i)) 58 i) &&& 1)), by omega, ⟨rfl, by show i + 1 ≤ n; omega, (((i3).sA (by decide)).sA (by decide)).sA (by decide), fun j hj => ?_⟩, ?_⟩
    · have hj2 : j < i + 1 := hj
      dsimp only
      by_cases e : j = i
      · subst e
        exact ⟨by rw [mA_ne (by decide), mA_ne (by decide), mA_at, i3.2.2.2 56 j (by decide)], by rw [mA_ne (by decide), mA_at, mA_ne (by decide), i3.2.2.2 57 j (by decide)], by rw [mA_at, mA_ne (by decide), mA_ne (by decide), i3.2.2.2 58 j (by decide)]⟩
      · exact ⟨by rw [mA_ne (by decide), mA_ne (by decide), mA_nk e]; exact (i4 j (by omega)).1, by rw [mA_ne (by decide), mA_nk e, mA_ne (by decide)]; exact (i4 j (by omega)).2.1, by rw [mA_nk e, mA_ne (by decide), mA_ne (by decide)]; exact (i4 j (by omega)).2.2⟩
    · show F_X3_copy_16_54_28 (f + 1) X (zi (i : Nat)) = F_X3_copy_16_54_28 f (sA (sA (sA X 18 i (mA X 56 i)) 19 i (mA (sA X 18 i (mA X 56 i)) 57 i)) 20 i ((mA (sA (sA X 18 i (mA X 56 i)) 19 i (mA (sA X 18 i (mA X 56 i)) 57 i)) 58 i) &&& 1)) (zi ((i + 1 : Nat)))
      rw [F_X3_copy_16_54_28, if_neg (by rw [hm, zi_le (by omega) (by omega)]; omega), zc (show ((i + 1 : Nat) : Int) = i + 1 by omega)]
      simp (disch := omega) only [lt_z, cI_s, cJ_s, cV_s, bI_s, bI_e, bV_s, bV_e, zl, zi_neg, zi_add, zi_sub, zi_mul, ↓reduceIte, zb0, zb1, bb_and, bb_t, bb_f, zi_ltT, zi_ltF, zi_leT, zi_leF, zi_eqT, zi_eqF, zi_ixT, zi_nat, Int.toNat_natCast, Int.reduceToNat, ltNT, and_self]
theorem copy_16_54 {M : PM} {C : Cal} {S : Sta} (hc : WFC C) (w : WFS C S) (c : StaC M C S 54) : ∃ N, F_X3_copy_16_54 M = rV N ∧ StaC N C S 16 ∧ FrK 16 M N := by
  obtain ⟨c1, ⟨c2, c3, c4⟩, c5, c6, c7⟩ := c
  have s1 := w.2.2.1
  have hH := hc.1.2.2.1
  have e0 : F_X3_copy_16_54 M = F_X3_copy_16_54_28 FUEL (sI (cA M 55 17 0 0 120) 16 4 (mI M 54 4)) (zi 0) := by
    unfold F_X3_copy_16_54
    rw [if_pos (by decide), lt_z]
    rfl
  rw [e0]
  generalize hX : sI (cA M 55 17 0 0 120) 16 4 (mI M 54 4) = X
  have x1 : ∀ q k, q ≠ 16 → mI X q k = mI M q k := fun q k h => by rw [← hX]; exact rI_ne h
  have x2 : mI X 16 4 = zi (gN S) := by rw [← hX]; exact rI_at.trans c2
  have x3 : ∀ k, k < 120 → mA X 17 k = mA M 55 k := fun k h => by
    rw [← hX]
    show (u1 M.2.2.1 17 (va_cpy (M.2.2.1 55) (M.2.2.1 17) 0 0 120)) 17 k = _
    rw [u1, if_pos rfl, va_cpy, if_pos (by omega), Nat.zero_add]
    rfl
  have x4 : ∀ q k, q ≠ 17 → mA X q k = mA M q k := fun q k h => by
    rw [← hX]
    exact congrFun (u1_ne h) k
  have x5 : X.2.1 = M.2.1 ∧ X.2.2.2 = M.2.2.2 := by rw [← hX]; exact ⟨rfl, rfl⟩
  obtain ⟨N1, a1, a2, a3⟩ := cp_16_54_28 x2 s1.1
  have e1 : mI N1 54 9 = zi (dN S) := (congrFun (congrFun a2.1 54) 9).trans ((x1 54 9 (by decide)).trans c3)
  generalize hY : sI N1 16 9 (mI N1 54 9) = Y at a1
  have y1 : ∀ q k, ¬ (q = 16 ∧ k = 9) → mI Y q k = mI X q k := fun q k h => by
    rw [← hY]
    exact (u2_ne h).trans (congrFun (congrFun a2.1 q) k)
  have y2 : mI Y 16 9 = zi (dN S) := by rw [← hY]; exact rI_at.trans e1
  have y3 : ∀ q k, mA Y q k = mA N1 q k := fun q k => by rw [← hY]; rfl
  have y5 : Y.2.1 = M.2.1 ∧ Y.2.2.2 = M.2.2.2 := by rw [← hY]; exact ⟨a2.2.1.trans x5.1, a2.2.2.1.trans x5.2⟩
  obtain ⟨N2, b1, b2, b3⟩ := cp_16_54_88 y2 s1.2.1
  have e2 : mI N2 54 12 = zi (kN S) := (congrFun (congrFun b2.1 54) 12).trans ((y1 54 12 (by decide)).trans ((x1 54 12 (by decide)).trans c4))
  generalize hZ : sI N2 16 12 (mI N2 54 12) = Z at b1
  have z1 : ∀ q k, ¬ (q = 16 ∧ k = 12) → mI Z q k = mI Y q k := fun q k h => by
    rw [← hZ]
    exact (u2_ne h).trans (congrFun (congrFun b2.1 q) k)
  have z2 : mI Z 16 12 = zi (kN S) := by rw [← hZ]; exact rI_at.trans e2
  have z3 : ∀ q k, mA Z q k = mA N2 q k := fun q k => by rw [← hZ]; rfl
  have z5 : Z.2.1 = M.2.1 ∧ Z.2.2.2 = M.2.2.2 := by rw [← hZ]; exact ⟨b2.2.1.trans y5.1, b2.2.2.1.trans y5.2⟩
  obtain ⟨N3, d1, d2, d3⟩ := cp_16_54_160 z2 s1.2.2
  have n1 : ∀ q k, mI N3 q k = mI Z q k := fun q k => congrFun (congrFun d2.1 q) k
  have r3 : ∀ q k, q < 25 ∨ 26 < q → mA N3 q k = mA N2 q k := fun q k h => (d2.2.2.2 q k h).trans (z3 q k)
  have r2 : ∀ q k, q < 21 ∨ 24 < q → mA N2 q k = mA N1 q k := fun q k h => (b2.2.2.2 q k h).trans (y3 q k)
  have r1 : ∀ q k, q < 18 ∨ 20 < q → mA N1 q k = mA X q k := fun q k h => a2.2.2.2 q k h
  have t1 : ∀ q k, q < 17 ∨ 26 < q → mA N1 q k = mA M q k := fun q k h => (r1 q k (by omega)).trans (x4 q k (by omega))
  have t2 : ∀ q k, q < 17 ∨ 26 < q → mA N2 q k = mA M q k := fun q k h => (r2 q k (by omega)).trans (t1 q k h)
  refine ⟨N3, a1.trans (b1.trans d1), ⟨fun h l hh hl => ?_, ⟨?_, ?_, ?_⟩, fun i hi => ?_, fun i hi => ?_, fun i hi => ?_⟩, fun q k h => ?_, fun q k h => (r3 q k (by omega)).trans (t2 q k h), d2.2.1.trans z5.1, d2.2.2.1.trans z5.2⟩
  · show mA N3 17 (h * 12 + l) = _
    rw [r3 _ _ (by decide), r2 _ _ (by decide), r1 _ _ (by decide), x3 _ (by omega)]
    exact c1 h l hh hl
  · rw [n1, z1 _ _ (by decide), y1 _ _ (by decide)]; exact x2
  · rw [n1, z1 _ _ (by decide)]; exact y2
  · rw [n1]; exact z2
  · show mA N3 18 i = _ ∧ mA N3 19 i = _ ∧ mA N3 20 i = _
    obtain ⟨k1, k2, k3⟩ := a3 i hi
    obtain ⟨g1, g2, g3⟩ := c5 i hi
    refine ⟨?_, ?_, ?_⟩
    · rw [r3 _ _ (by decide), r2 _ _ (by decide), k1, x4 _ _ (by decide)]; exact g1
    · rw [r3 _ _ (by decide), r2 _ _ (by decide), k2, x4 _ _ (by decide)]; exact g2
    · rw [r3 _ _ (by decide), r2 _ _ (by decide), k3, x4 _ _ (by decide), show mA M 58 i = _ from g3, bb_one]
  · show mA N3 21 i = _ ∧ mA N3 22 i = _ ∧ mA N3 23 i = _ ∧ mA N3 24 i = _
    obtain ⟨k1, k2, k3, k4⟩ := b3 i hi
    obtain ⟨g1, g2, g3, g4⟩ := c6 i hi
    refine ⟨?_, ?_, ?_, ?_⟩
    · rw [r3 _ _ (by decide), k1, y3, t1 _ _ (by decide)]; exact g1
    · rw [r3 _ _ (by decide), k2, y3, t1 _ _ (by decide)]; exact g2
    · rw [r3 _ _ (by decide), k3, y3, t1 _ _ (by decide)]; exact g3
    · rw [r3 _ _ (by decide), k4, y3, t1 _ _ (by decide), show mA M 62 i = _ from g4, bb_one]
  · show mA N3 25 i = _ ∧ mA N3 26 i = _
    obtain ⟨k1, k2⟩ := d3 i hi
    obtain ⟨g1, g2⟩ := c7 i hi
    refine ⟨?_, ?_⟩
    · rw [k1, z3, t2 _ _ (by decide)]; exact g1
    · rw [k2, z3, t2 _ _ (by decide)]; exact g2
  · rw [n1, z1 _ _ (fun e => h e.1), y1 _ _ (fun e => h e.1), x1 _ _ h]
theorem cp_16_65_160 {N : PM} {n : Nat} (hn : mI N 16 12 = zi n) (h : n ≤ 8) : ∃ N', F_X3_copy_16_65_160 FUEL N (zi 0) = rV N' ∧ FA 25 26 N N' ∧ ∀ i, i < n → mA N' 25 i = mA N 74 i ∧ mA N' 26 i = mA N 75 i := by
  refine loopS (σ := Nat × PM) (fun f s => F_X3_copy_16_65_160 f s.2 (zi (s.1 : Nat))) (fun o => ∃ N', o = rV N' ∧ FA 25 26 N N' ∧ ∀ i, i < n → mA N' 25 i = mA N 74 i ∧ mA N' 26 i = mA N 75 i) (fun r s => r = n - s.1 ∧ s.1 ≤ n ∧ FA 25 26 N s.2 ∧ ∀ i, i < s.1 → mA s.2 25 i = mA N 74 i ∧ mA s.2 26 i = mA N 75 i) ?_ n (0, N) FUEL ⟨rfl, Nat.zero_le _, FA.rf, fun i hi => absurd hi (Nat.not_lt_zero i)⟩ (FUEL_gt (by omega))
  rintro f r ⟨i, X⟩ ⟨i1, i2, i3, i4⟩
  simp only at i1 i2 i3 i4
  have hm : mI X 16 12 = zi n := by
    have := congrFun (congrFun i3.1 16) 12
    exact this.trans hn
  show (∃ N', F_X3_copy_16_65_160 (f + 1) X (zi (i : Nat)) = rV N' ∧ _) ∨ _
  by_cases q : i = n
  · left
    subst q
    refine ⟨X, ?_, i3, i4⟩
    rw [F_X3_copy_16_65_160, if_pos (by rw [hm, zi_le (by omega) (by omega)]; omega)]
    try rfl
  · right
    have hlt : i < n := by omega
    refine ⟨n - (i + 1), (i + 1, sA (sA X 25 i (mA X 74 i)) 26 i (mA (sA X 25 i (mA X 74 i)) 75 i)), by omega, ⟨rfl, by show i + 1 ≤ n; omega, ((i3).sA (by decide)).sA (by decide), fun j hj => ?_⟩, ?_⟩
    · have hj2 : j < i + 1 := hj
      dsimp only
      by_cases e : j = i
      · subst e
        exact ⟨by rw [mA_ne (by decide), mA_at, i3.2.2.2 74 j (by decide)], by rw [mA_at, mA_ne (by decide), i3.2.2.2 75 j (by decide)]⟩
      · exact ⟨by rw [mA_ne (by decide), mA_nk e]; exact (i4 j (by omega)).1, by rw [mA_nk e, mA_ne (by decide)]; exact (i4 j (by omega)).2⟩
    · show F_X3_copy_16_65_160 (f + 1) X (zi (i : Nat)) = F_X3_copy_16_65_160 f (sA (sA X 25 i (mA X 74 i)) 26 i (mA (sA X 25 i (mA X 74 i)) 75 i)) (zi ((i + 1 : Nat)))
      rw [F_X3_copy_16_65_160, if_neg (by rw [hm, zi_le (by omega) (by omega)]; omega), zc (show ((i + 1 : Nat) : Int) = i + 1 by omega)]
      simp (disch := omega) only [lt_z, cI_s, cJ_s, cV_s, bI_s, bI_e, bV_s, bV_e, zl, zi_neg, zi_add, zi_sub, zi_mul, ↓reduceIte, zb0, zb1, bb_and, bb_t, bb_f, zi_ltT, zi_ltF, zi_leT, zi_leF, zi_eqT, zi_eqF, zi_ixT, zi_nat, Int.toNat_natCast, Int.reduceToNat, ltNT, and_self]
theorem cp_16_65_88 {N : PM} {n : Nat} (hn : mI N 16 9 = zi n) (h : n ≤ 20) : ∃ N', F_X3_copy_16_65_88 FUEL N (zi 0) = F_X3_copy_16_65_160 FUEL (sI N' 16 12 (mI N' 65 12)) (zi 0) ∧ FA 21 24 N N' ∧ ∀ i, i < n → mA N' 21 i = mA N 70 i ∧ mA N' 22 i = mA N 71 i ∧ mA N' 23 i = mA N 72 i ∧ mA N' 24 i = mA N 73 i &&& 1 := by
  refine loopS (σ := Nat × PM) (fun f s => F_X3_copy_16_65_88 f s.2 (zi (s.1 : Nat))) (fun o => ∃ N', o = F_X3_copy_16_65_160 FUEL (sI N' 16 12 (mI N' 65 12)) (zi 0) ∧ FA 21 24 N N' ∧ ∀ i, i < n → mA N' 21 i = mA N 70 i ∧ mA N' 22 i = mA N 71 i ∧ mA N' 23 i = mA N 72 i ∧ mA N' 24 i = mA N 73 i &&& 1) (fun r s => r = n - s.1 ∧ s.1 ≤ n ∧ FA 21 24 N s.2 ∧ ∀ i, i < s.1 → mA s.2 21 i = mA N 70 i ∧ mA s.2 22 i = mA N 71 i ∧ mA s.2 23 i = mA N 72 i ∧ mA s.2 24 i = mA N 73 i &&& 1) ?_ n (0, N) FUEL ⟨rfl, Nat.zero_le _, FA.rf, fun i hi => absurd hi (Nat.not_lt_zero i)⟩ (FUEL_gt (by omega))
  rintro f r ⟨i, X⟩ ⟨i1, i2, i3, i4⟩
  simp only at i1 i2 i3 i4
  have hm : mI X 16 9 = zi n := by
    have := congrFun (congrFun i3.1 16) 9
    exact this.trans hn
  show (∃ N', F_X3_copy_16_65_88 (f + 1) X (zi (i : Nat)) = F_X3_copy_16_65_160 FUEL (sI N' 16 12 (mI N' 65 12)) (zi 0) ∧ _) ∨ _
  by_cases q : i = n
  · left
    subst q
    refine ⟨X, ?_, i3, i4⟩
    rw [F_X3_copy_16_65_88, if_pos (by rw [hm, zi_le (by omega) (by omega)]; omega)]
    try rfl
  · right
    have hlt : i < n := by omega
    refine ⟨n - (i + 1), (i + 1, sA (sA (sA (sA X 21 i (mA X 70 i)) 22 i (mA (sA X 21 i (mA X 70 i)) 71 i)) 23 i (mA (sA (sA X 21 i (mA X 70 i)) 22 i (mA (sA X 21 i (mA X 70 i)) 71 i)) 72 i)) 24 i ((mA (sA (sA (sA X 21 i (mA X 70 i)) 22 i (mA (sA X 21 i (mA X 70 i)) 71 i)) 23 i (mA (sA (sA X 21 i (mA X 70 i)) 22 i (mA (sA X 21 i (mA X 70 i)) 71 i)) 72 i)) 73 i) &&& 1)), by omega, ⟨rfl, by show i + 1 ≤ n; omega, ((((i3).sA (by decide)).sA (by decide)).sA (by decide)).sA (by decide), fun j hj => ?_⟩, ?_⟩
    · have hj2 : j < i + 1 := hj
      dsimp only
      by_cases e : j = i
      · subst e
        exact ⟨by rw [mA_ne (by decide), mA_ne (by decide), mA_ne (by decide), mA_at, i3.2.2.2 70 j (by decide)], by rw [mA_ne (by decide), mA_ne (by decide), mA_at, mA_ne (by decide), i3.2.2.2 71 j (by decide)], by rw [mA_ne (by decide), mA_at, mA_ne (by decide), mA_ne (by decide), i3.2.2.2 72 j (by decide)], by rw [mA_at, mA_ne (by decide), mA_ne (by decide), mA_ne (by decide), i3.2.2.2 73 j (by decide)]⟩
      · exact ⟨by rw [mA_ne (by decide), mA_ne (by decide), mA_ne (by decide), mA_nk e]; exact (i4 j (by omega)).1, by rw [mA_ne (by decide), mA_ne (by decide), mA_nk e, mA_ne (by decide)]; exact (i4 j (by omega)).2.1, by rw [mA_ne (by decide), mA_nk e, mA_ne (by decide), mA_ne (by decide)]; exact (i4 j (by omega)).2.2.1, by rw [mA_nk e, mA_ne (by decide), mA_ne (by decide), mA_ne (by decide)]; exact (i4 j (by omega)).2.2.2⟩
    · show F_X3_copy_16_65_88 (f + 1) X (zi (i : Nat)) = F_X3_copy_16_65_88 f (sA (sA (sA (sA X 21 i (mA X 70 i)) 22 i (mA (sA X 21 i (mA X 70 i)) 71 i)) 23 i (mA (sA (sA X 21 i (mA X 70 i)) 22 i (mA (sA X 21 i (mA X 70 i)) 71 i)) 72 i)) 24 i ((mA (sA (sA (sA X 21 i (mA X 70 i)) 22 i (mA (sA X 21 i (mA X 70 i)) 71 i)) 23 i (mA (sA (sA X 21 i (mA X 70 i)) 22 i (mA (sA X 21 i (mA X 70 i)) 71 i)) 72 i)) 73 i) &&& 1)) (zi ((i + 1 : Nat)))
      rw [F_X3_copy_16_65_88, if_neg (by rw [hm, zi_le (by omega) (by omega)]; omega), zc (show ((i + 1 : Nat) : Int) = i + 1 by omega)]
      simp (disch := omega) only [lt_z, cI_s, cJ_s, cV_s, bI_s, bI_e, bV_s, bV_e, zl, zi_neg, zi_add, zi_sub, zi_mul, ↓reduceIte, zb0, zb1, bb_and, bb_t, bb_f, zi_ltT, zi_ltF, zi_leT, zi_leF, zi_eqT, zi_eqF, zi_ixT, zi_nat, Int.toNat_natCast, Int.reduceToNat, ltNT, and_self]
theorem cp_16_65_28 {N : PM} {n : Nat} (hn : mI N 16 4 = zi n) (h : n ≤ 20) : ∃ N', F_X3_copy_16_65_28 FUEL N (zi 0) = F_X3_copy_16_65_88 FUEL (sI N' 16 9 (mI N' 65 9)) (zi 0) ∧ FA 18 20 N N' ∧ ∀ i, i < n → mA N' 18 i = mA N 67 i ∧ mA N' 19 i = mA N 68 i ∧ mA N' 20 i = mA N 69 i &&& 1 := by
  refine loopS (σ := Nat × PM) (fun f s => F_X3_copy_16_65_28 f s.2 (zi (s.1 : Nat))) (fun o => ∃ N', o = F_X3_copy_16_65_88 FUEL (sI N' 16 9 (mI N' 65 9)) (zi 0) ∧ FA 18 20 N N' ∧ ∀ i, i < n → mA N' 18 i = mA N 67 i ∧ mA N' 19 i = mA N 68 i ∧ mA N' 20 i = mA N 69 i &&& 1) (fun r s => r = n - s.1 ∧ s.1 ≤ n ∧ FA 18 20 N s.2 ∧ ∀ i, i < s.1 → mA s.2 18 i = mA N 67 i ∧ mA s.2 19 i = mA N 68 i ∧ mA s.2 20 i = mA N 69 i &&& 1) ?_ n (0, N) FUEL ⟨rfl, Nat.zero_le _, FA.rf, fun i hi => absurd hi (Nat.not_lt_zero i)⟩ (FUEL_gt (by omega))
  rintro f r ⟨i, X⟩ ⟨i1, i2, i3, i4⟩
  simp only at i1 i2 i3 i4
  have hm : mI X 16 4 = zi n := by
    have := congrFun (congrFun i3.1 16) 4
    exact this.trans hn
  show (∃ N', F_X3_copy_16_65_28 (f + 1) X (zi (i : Nat)) = F_X3_copy_16_65_88 FUEL (sI N' 16 9 (mI N' 65 9)) (zi 0) ∧ _) ∨ _
  by_cases q : i = n
  · left
    subst q
    refine ⟨X, ?_, i3, i4⟩
    rw [F_X3_copy_16_65_28, if_pos (by rw [hm, zi_le (by omega) (by omega)]; omega)]
    try rfl
  · right
    have hlt : i < n := by omega
    refine ⟨n - (i + 1), (i + 1, sA (sA (sA X 18 i (mA X 67 i)) 19 i (mA (sA X 18 i (mA X 67 i)) 68 i)) 20 i ((mA (sA (sA X 18 i (mA X 67 i)) 19 i (mA (sA X 18 i (mA X 67 i)) 68 i)) 69 i) &&& 1)), by omega, ⟨rfl, by show i + 1 ≤ n; omega, (((i3).sA (by decide)).sA (by decide)).sA (by decide), fun j hj => ?_⟩, ?_⟩
    · have hj2 : j < i + 1 := hj
      dsimp only
      by_cases e : j = i
      · subst e
        exact ⟨by rw [mA_ne (by decide), mA_ne (by decide), mA_at, i3.2.2.2 67 j (by decide)], by rw [mA_ne (by decide), mA_at, mA_ne (by decide), i3.2.2.2 68 j (by decide)], by rw [mA_at, mA_ne (by decide), mA_ne (by decide), i3.2.2.2 69 j (by decide)]⟩
      · exact ⟨by rw [mA_ne (by decide), mA_ne (by decide), mA_nk e]; exact (i4 j (by omega)).1, by rw [mA_ne (by decide), mA_nk e, mA_ne (by decide)]; exact (i4 j (by omega)).2.1, by rw [mA_nk e, mA_ne (by decide), mA_ne (by decide)]; exact (i4 j (by omega)).2.2⟩
    · show F_X3_copy_16_65_28 (f + 1) X (zi (i : Nat)) = F_X3_copy_16_65_28 f (sA (sA (sA X 18 i (mA X 67 i)) 19 i (mA (sA X 18 i (mA X 67 i)) 68 i)) 20 i ((mA (sA (sA X 18 i (mA X 67 i)) 19 i (mA (sA X 18 i (mA X 67 i)) 68 i)) 69 i) &&& 1)) (zi ((i + 1 : Nat)))
      rw [F_X3_copy_16_65_28, if_neg (by rw [hm, zi_le (by omega) (by omega)]; omega), zc (show ((i + 1 : Nat) : Int) = i + 1 by omega)]
      simp (disch := omega) only [lt_z, cI_s, cJ_s, cV_s, bI_s, bI_e, bV_s, bV_e, zl, zi_neg, zi_add, zi_sub, zi_mul, ↓reduceIte, zb0, zb1, bb_and, bb_t, bb_f, zi_ltT, zi_ltF, zi_leT, zi_leF, zi_eqT, zi_eqF, zi_ixT, zi_nat, Int.toNat_natCast, Int.reduceToNat, ltNT, and_self]
theorem copy_16_65 {M : PM} {C : Cal} {S : Sta} (hc : WFC C) (w : WFS C S) (c : StaC M C S 65) : ∃ N, F_X3_copy_16_65 M = rV N ∧ StaC N C S 16 ∧ FrK 16 M N := by
  obtain ⟨c1, ⟨c2, c3, c4⟩, c5, c6, c7⟩ := c
  have s1 := w.2.2.1
  have hH := hc.1.2.2.1
  have e0 : F_X3_copy_16_65 M = F_X3_copy_16_65_28 FUEL (sI (cA M 66 17 0 0 120) 16 4 (mI M 65 4)) (zi 0) := by
    unfold F_X3_copy_16_65
    rw [if_pos (by decide), lt_z]
    rfl
  rw [e0]
  generalize hX : sI (cA M 66 17 0 0 120) 16 4 (mI M 65 4) = X
  have x1 : ∀ q k, q ≠ 16 → mI X q k = mI M q k := fun q k h => by rw [← hX]; exact rI_ne h
  have x2 : mI X 16 4 = zi (gN S) := by rw [← hX]; exact rI_at.trans c2
  have x3 : ∀ k, k < 120 → mA X 17 k = mA M 66 k := fun k h => by
    rw [← hX]
    show (u1 M.2.2.1 17 (va_cpy (M.2.2.1 66) (M.2.2.1 17) 0 0 120)) 17 k = _
    rw [u1, if_pos rfl, va_cpy, if_pos (by omega), Nat.zero_add]
    rfl
  have x4 : ∀ q k, q ≠ 17 → mA X q k = mA M q k := fun q k h => by
    rw [← hX]
    exact congrFun (u1_ne h) k
  have x5 : X.2.1 = M.2.1 ∧ X.2.2.2 = M.2.2.2 := by rw [← hX]; exact ⟨rfl, rfl⟩
  obtain ⟨N1, a1, a2, a3⟩ := cp_16_65_28 x2 s1.1
  have e1 : mI N1 65 9 = zi (dN S) := (congrFun (congrFun a2.1 65) 9).trans ((x1 65 9 (by decide)).trans c3)
  generalize hY : sI N1 16 9 (mI N1 65 9) = Y at a1
  have y1 : ∀ q k, ¬ (q = 16 ∧ k = 9) → mI Y q k = mI X q k := fun q k h => by
    rw [← hY]
    exact (u2_ne h).trans (congrFun (congrFun a2.1 q) k)
  have y2 : mI Y 16 9 = zi (dN S) := by rw [← hY]; exact rI_at.trans e1
  have y3 : ∀ q k, mA Y q k = mA N1 q k := fun q k => by rw [← hY]; rfl
  have y5 : Y.2.1 = M.2.1 ∧ Y.2.2.2 = M.2.2.2 := by rw [← hY]; exact ⟨a2.2.1.trans x5.1, a2.2.2.1.trans x5.2⟩
  obtain ⟨N2, b1, b2, b3⟩ := cp_16_65_88 y2 s1.2.1
  have e2 : mI N2 65 12 = zi (kN S) := (congrFun (congrFun b2.1 65) 12).trans ((y1 65 12 (by decide)).trans ((x1 65 12 (by decide)).trans c4))
  generalize hZ : sI N2 16 12 (mI N2 65 12) = Z at b1
  have z1 : ∀ q k, ¬ (q = 16 ∧ k = 12) → mI Z q k = mI Y q k := fun q k h => by
    rw [← hZ]
    exact (u2_ne h).trans (congrFun (congrFun b2.1 q) k)
  have z2 : mI Z 16 12 = zi (kN S) := by rw [← hZ]; exact rI_at.trans e2
  have z3 : ∀ q k, mA Z q k = mA N2 q k := fun q k => by rw [← hZ]; rfl
  have z5 : Z.2.1 = M.2.1 ∧ Z.2.2.2 = M.2.2.2 := by rw [← hZ]; exact ⟨b2.2.1.trans y5.1, b2.2.2.1.trans y5.2⟩
  obtain ⟨N3, d1, d2, d3⟩ := cp_16_65_160 z2 s1.2.2
  have n1 : ∀ q k, mI N3 q k = mI Z q k := fun q k => congrFun (congrFun d2.1 q) k
  have r3 : ∀ q k, q < 25 ∨ 26 < q → mA N3 q k = mA N2 q k := fun q k h => (d2.2.2.2 q k h).trans (z3 q k)
  have r2 : ∀ q k, q < 21 ∨ 24 < q → mA N2 q k = mA N1 q k := fun q k h => (b2.2.2.2 q k h).trans (y3 q k)
  have r1 : ∀ q k, q < 18 ∨ 20 < q → mA N1 q k = mA X q k := fun q k h => a2.2.2.2 q k h
  have t1 : ∀ q k, q < 17 ∨ 26 < q → mA N1 q k = mA M q k := fun q k h => (r1 q k (by omega)).trans (x4 q k (by omega))
  have t2 : ∀ q k, q < 17 ∨ 26 < q → mA N2 q k = mA M q k := fun q k h => (r2 q k (by omega)).trans (t1 q k h)
  refine ⟨N3, a1.trans (b1.trans d1), ⟨fun h l hh hl => ?_, ⟨?_, ?_, ?_⟩, fun i hi => ?_, fun i hi => ?_, fun i hi => ?_⟩, fun q k h => ?_, fun q k h => (r3 q k (by omega)).trans (t2 q k h), d2.2.1.trans z5.1, d2.2.2.1.trans z5.2⟩
  · show mA N3 17 (h * 12 + l) = _
    rw [r3 _ _ (by decide), r2 _ _ (by decide), r1 _ _ (by decide), x3 _ (by omega)]
    exact c1 h l hh hl
  · rw [n1, z1 _ _ (by decide), y1 _ _ (by decide)]; exact x2
  · rw [n1, z1 _ _ (by decide)]; exact y2
  · rw [n1]; exact z2
  · show mA N3 18 i = _ ∧ mA N3 19 i = _ ∧ mA N3 20 i = _
    obtain ⟨k1, k2, k3⟩ := a3 i hi
    obtain ⟨g1, g2, g3⟩ := c5 i hi
    refine ⟨?_, ?_, ?_⟩
    · rw [r3 _ _ (by decide), r2 _ _ (by decide), k1, x4 _ _ (by decide)]; exact g1
    · rw [r3 _ _ (by decide), r2 _ _ (by decide), k2, x4 _ _ (by decide)]; exact g2
    · rw [r3 _ _ (by decide), r2 _ _ (by decide), k3, x4 _ _ (by decide), show mA M 69 i = _ from g3, bb_one]
  · show mA N3 21 i = _ ∧ mA N3 22 i = _ ∧ mA N3 23 i = _ ∧ mA N3 24 i = _
    obtain ⟨k1, k2, k3, k4⟩ := b3 i hi
    obtain ⟨g1, g2, g3, g4⟩ := c6 i hi
    refine ⟨?_, ?_, ?_, ?_⟩
    · rw [r3 _ _ (by decide), k1, y3, t1 _ _ (by decide)]; exact g1
    · rw [r3 _ _ (by decide), k2, y3, t1 _ _ (by decide)]; exact g2
    · rw [r3 _ _ (by decide), k3, y3, t1 _ _ (by decide)]; exact g3
    · rw [r3 _ _ (by decide), k4, y3, t1 _ _ (by decide), show mA M 73 i = _ from g4, bb_one]
  · show mA N3 25 i = _ ∧ mA N3 26 i = _
    obtain ⟨k1, k2⟩ := d3 i hi
    obtain ⟨g1, g2⟩ := c7 i hi
    refine ⟨?_, ?_⟩
    · rw [k1, z3, t2 _ _ (by decide)]; exact g1
    · rw [k2, z3, t2 _ _ (by decide)]; exact g2
  · rw [n1, z1 _ _ (fun e => h e.1), y1 _ _ (fun e => h e.1), x1 _ _ h]
