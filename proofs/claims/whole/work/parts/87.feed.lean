/-- what is left to show where only the tape has changed -/
theorem Rel_tp {M M1 : PM} {C : Cal} {S : Sta} {W : Wsh} (h1 : WFC C) (h2 : CalC M C) (h3 : CalM M C) (h7 : WFW C W) (h8 : WisC M C W) (h9 : WisM M C W) (h10 : ImgR M C) (h4 : WFS C S) (h5 : StaC M C S 16) (h6 : StaM M C S) (h12 : CntR M) (tp : TapR M1)
    (i : ∀ p ∈ kIl, p ∉ [(1, 1), (99, 1)] → M1.1 p.1 p.2 = M.1 p.1 p.2) (a : ∀ q, q ≠ 2 → q ≠ 100 → M1.2.2.1 q = M.2.2.1 q) (b : ∀ q ∈ kBl, M1.2.2.2.1 q = M.2.2.2.1 q) (g : ∀ q i, q < 129 → M1.2.2.2.2 q i = M.2.2.2.2 q i) : Rel M1 := by
  have iI : ∀ q k, (q, k) ∈ kIl → (q, k) ∉ [(1, 1), (99, 1)] → mI M1 q k = mI M q k := fun q k x y => i (q, k) x y
  have iA : ∀ q, q ≠ 2 → q ≠ 100 → mA M1 q = mA M q := a
  have iB : ∀ q, q ∈ kBl → mB M1 q = mB M q := b
  have iG : ∀ q i, q < 129 → mG M1 q i = mG M q i := g
  refine ⟨C, S, W, h1, ?_, ?_, h4, ?_, ?_, h7, ?_, ?_, ?_, tp, ?_⟩
  · unfold CalC LawC at h2 ⊢
    simp only [iI 4 4 (by decide) (by decide), iI 9 4 (by decide) (by decide), iI 3 4 (by decide) (by decide), iI 3 5 (by decide) (by decide), iI 3 6 (by decide) (by decide), iI 3 7 (by decide) (by decide), iA (4 + 1) (by decide) (by decide), iA (4 + 2) (by decide) (by decide), iA (9 + 1) (by decide) (by decide), iA (9 + 2) (by decide) (by decide), iA 8 (by decide) (by decide), iA 15 (by decide) (by decide), iB (4 + 3) (by decide), iB (9 + 3) (by decide)]
    exact h2
  · unfold CalM at h3 ⊢
    simp only [iA 103 (by decide) (by decide), iA 105 (by decide) (by decide), iA 107 (by decide) (by decide), iA 109 (by decide) (by decide), iA 111 (by decide) (by decide), iA 113 (by decide) (by decide)]
    exact h3
  · unfold StaC at h5 ⊢
    simp only [iI 16 4 (by decide) (by decide), iI 16 9 (by decide) (by decide), iI 16 12 (by decide) (by decide), iA (16 + 1) (by decide) (by decide), iA (16 + 2) (by decide) (by decide), iA (16 + 3) (by decide) (by decide), iA (16 + 4) (by decide) (by decide), iA (16 + 5) (by decide) (by decide), iA (16 + 6) (by decide) (by decide), iA (16 + 7) (by decide) (by decide), iA (16 + 8) (by decide) (by decide), iA (16 + 9) (by decide) (by decide), iA (16 + 10) (by decide) (by decide)]
    exact h5
  · unfold StaM at h6 ⊢
    simp only [iI 99 32 (by decide) (by decide), iI 99 33 (by decide) (by decide), iI 99 34 (by decide) (by decide), fun i => iG 115 i (by decide), fun i => iG 119 i (by decide), fun i => iG 120 i (by decide), fun i => iG 121 i (by decide)]
    exact h6
  · unfold WisC at h8 ⊢
    simp only [iI 76 7 (by decide) (by decide), iI 76 8 (by decide) (by decide), iI 76 9 (by decide) (by decide), iA 77 (by decide) (by decide), iA 78 (by decide) (by decide), iA 79 (by decide) (by decide), iB 80 (by decide)]
    exact h8
  · unfold WisM at h9 ⊢
    simp only [iI 99 24 (by decide) (by decide), iI 99 27 (by decide) (by decide), fun i => iG 116 i (by decide)]
    exact h9
  · obtain ⟨n, j1, j2, j3, j4⟩ := h10
    refine ⟨n, j1, (iI 0 5 (by decide) (by decide)).trans j2, (iI 99 35 (by decide) (by decide)).trans j3, fun r hr => ?_⟩
    obtain ⟨S, s1, s2, s3⟩ := j4 r hr
    refine ⟨S, s1, ?_, ?_⟩
    · unfold StaC at s2 ⊢
      have hr3 : r = 0 ∨ r = 1 ∨ r = 2 := by omega
      have j3 : ∀ k, (k = 4 ∨ k = 9 ∨ k = 12) → mI M1 (43 + 11 * r) k = mI M (43 + 11 * r) k := fun k hk => by
        rcases hr3 with rfl | rfl | rfl <;> rcases hk with rfl | rfl | rfl <;> exact iI _ _ (by decide) (by decide)
      have j5 : ∀ k, k < 11 → mA M1 (43 + 11 * r + k) = mA M (43 + 11 * r + k) := fun k hk => iA _ (by omega) (by omega)
      simp only [j3 4 (by decide), j3 9 (by decide), j3 12 (by decide), j5 1 (by decide), j5 2 (by decide), j5 3 (by decide), j5 4 (by decide), j5 5 (by decide), j5 6 (by decide), j5 7 (by decide), j5 8 (by decide), j5 9 (by decide), j5 10 (by decide)]
      exact s2
    · unfold Kept at s3 ⊢
      simp only [fun i => iG 122 i (by decide)]
      exact s3
  · unfold CntR at h12 ⊢
    simp only [iI 0 13 (by decide) (by decide), iI 0 14 (by decide) (by decide), iI 0 15 (by decide) (by decide), iI 0 16 (by decide) (by decide), iI 99 3 (by decide) (by decide), iA 101 (by decide) (by decide)]
    exact h12
/-! feed -/
def byt (x : Int32) (i : Nat) : Int32 := (x >>> (zi (24 - 8 * (i : Int)) &&& zi 31)) &&& zi 255
theorem byt_rng (x : Int32) (i : Nat) : ∃ k : Nat, byt x i = zi k ∧ k < 256 := by
  unfold byt
  generalize x >>> (zi (24 - 8 * (i : Int)) &&& zi 31) = y
  refine ⟨y.toBitVec.toNat % 2 ^ 8, b_ext (fun j hj => ?_), Nat.mod_lt _ (by decide)⟩
  rw [b_and, bt_zi _ hj, Nat.testBit_mod_two_pow, show bt (zi 255) j = decide (j < 8) from b_255 j]
  show (y.toBitVec.getLsbD j && decide (j < 8)) = (decide (j < 8) && y.toBitVec.toNat.testBit j)
  rw [Bool.and_comm]
  rfl
def FrC (M N : PM) : Prop := (∀ q k, ¬ (q = 1 ∧ k = 1) → N.1 q k = M.1 q k) ∧ N.2.1 = M.2.1 ∧ (∀ q, q ≠ 2 → N.2.2.1 q = M.2.2.1 q) ∧ N.2.2.2 = M.2.2.2
theorem FrC.tr {M N K : PM} (h : FrC M N) (g : FrC N K) : FrC M K := ⟨fun q k e => (g.1 q k e).trans (h.1 q k e), g.2.1.trans h.2.1, fun q e => (g.2.2.1 q e).trans (h.2.2.1 q e), g.2.2.2.trans h.2.2.2⟩
theorem put_s {M : PM} {x : Int32} {s : Nat} (h1 : mI M 1 1 = zi s) (hs : s + 4 ≤ 500) : ∃ N, F_X4_put_1 M x = rV N ∧ mI N 1 1 = zi ((s + 4 : Nat)) ∧ (∀ j, mA N 2 j = if s ≤ j ∧ j < s + 4 then byt x (j - s) else mA M 2 j) ∧ FrC M N := by
  unfold F_X4_put_1
  have h := loopS (σ := Nat × PM) (fun f t => F_X4_put_1_3 f t.2 x (zi (24 - 8 * (t.1 : Int)))) (fun o => ∃ N, o = rV N ∧ mI N 1 1 = zi ((s + 4 : Nat)) ∧ (∀ j, mA N 2 j = if s ≤ j ∧ j < s + 4 then byt x (j - s) else mA M 2 j) ∧ FrC M N) (fun r t => t.1 ≤ 4 ∧ r = 4 - t.1 ∧ mI t.2 1 1 = zi ((s + t.1 : Nat)) ∧ (∀ j, mA t.2 2 j = if s ≤ j ∧ j < s + t.1 then byt x (j - s) else mA M 2 j) ∧ FrC M t.2) (fun f r t hI => by
    obtain ⟨i, N⟩ := t
    obtain ⟨i1, i2, i3, i4, i5⟩ := hI
    simp only at i1 i2 i3 i4 i5
    by_cases e : i = 4
    · left
      subst e
      refine ⟨N, ?_, i3, i4, i5⟩
      show F_X4_put_1_3 (f + 1) N x (zi (24 - 8 * ((4 : Nat) : Int))) = _
      rw [F_X4_put_1_3, if_pos (by decide)]
    · right
      refine ⟨4 - (i + 1), (i + 1, sI (sA N 2 (s + i) (byt x i)) 1 1 (zi ((s + (i + 1) : Nat)))), by omega, ⟨by show i + 1 ≤ 4; omega, rfl, rI_at, fun j => ?_, ?_⟩, ?_⟩
      · show (sA N 2 (s + i) (byt x i)).2.2.1 2 j = if s ≤ j ∧ j < s + (i + 1) then byt x (j - s) else mA M 2 j
        by_cases q : j = s + i
        · rw [q, rA_at, if_pos (by omega), show s + i - s = i by omega]
        · rw [rA_nk q]
          refine (i4 j).trans ?_
          by_cases q2 : s ≤ j ∧ j < s + i
          · rw [if_pos q2, if_pos (by omega)]
          · rw [if_neg q2, if_neg (by omega)]
      · refine i5.tr ⟨fun q k hq => u2_ne hq, rfl, fun q hq => u1_ne hq, rfl⟩
      · show F_X4_put_1_3 (f + 1) N x (zi (24 - 8 * (i : Int))) = F_X4_put_1_3 f (sI (sA N 2 (s + i) (byt x i)) 1 1 (zi ((s + (i + 1) : Nat)))) x (zi (24 - 8 * ((i + 1 : Nat) : Int)))
        rw [F_X4_put_1_3, if_neg (by rw [show (0 : Int32) = zi 0 from rfl, zi_lt (by omega) (by omega)]; omega), i3, if_neg (by rw [show (500 : Int32) = zi 500 from rfl, zi_le (by omega) (by omega)]; omega), if_pos (zi_ixT (by omega) (by omega)), lt_z, show (-8 : Int32) = zi (-8) from rfl, zi_add, zc (show (24 : Int) - 8 * (i : Int) + -8 = 24 - 8 * ((i + 1 : Nat) : Int) by omega), zi_natN (by omega)]
        show F_X4_put_1_3 f (sI (sA N 2 (s + i) (byt x i)) 1 1 (mI N 1 1 + zi 1)) x _ = _
        rw [i3, zi_add, zc (show ((s + i : Nat) : Int) + 1 = ((s + (i + 1) : Nat) : Int) by omega)]) 4 (0, M) FUEL ⟨by show 0 ≤ 4; omega, rfl, h1, fun j => by show mA M 2 j = if s ≤ j ∧ j < s + 0 then _ else _; rw [if_neg (by omega)], fun _ _ _ => rfl, rfl, fun _ _ => rfl, rfl⟩ (FUEL_gt (by omega))
  exact h
def ag (a b c d e : Int32) (k : Nat) : Int32 := if k < 4 then a else if k < 8 then b else if k < 12 then c else if k < 16 then d else e
theorem feedC {M : PM} {a b c d e : Int32} {s : Nat} (h1 : mI M 1 1 = zi s) (hs : s + 20 ≤ 500) : ∃ N, F_X10_feed_0 M a b c d e = rI (zi ((s + 20 : Nat))) N ∧ mI N 1 1 = zi ((s + 20 : Nat)) ∧ (∀ j, mA N 2 j = if s ≤ j ∧ j < s + 20 then byt (ag a b c d e (j - s)) ((j - s) % 4) else mA M 2 j) ∧ FrC M N := by
  obtain ⟨N1, a1, a2, a3, a4⟩ := put_s (x := a) h1 (by omega)
  obtain ⟨N2, b1, b2, b3, b4⟩ := put_s (x := b) a2 (by omega)
  obtain ⟨N3, c1, c2, c3, c4⟩ := put_s (x := c) b2 (by omega)
  obtain ⟨N4, d1, d2, d3, d4⟩ := put_s (x := d) c2 (by omega)
  obtain ⟨N5, e1, e2, e3, e4⟩ := put_s (x := e) d2 (by omega)
  rw [show s + 4 + 4 + 4 + 4 + 4 = s + 20 by omega] at e2
  refine ⟨N5, ?_, e2, fun j => ?_, a4.tr (b4.tr (c4.tr (d4.tr e4)))⟩
  · unfold F_X10_feed_0
    rw [h1, show (20 : Int32) = zi 20 from rfl, zi_add, if_pos (by rw [show (500 : Int32) = zi 500 from rfl, zi_le (by omega) (by omega)]; omega), a1, cV_s, b1, cV_s, c1, cV_s, d1, cV_s, e1, cV_s, e2]
  · rw [e3 j, d3 j, c3 j, b3 j, a3 j]
    unfold ag
    by_cases q : s ≤ j ∧ j < s + 20
    · rw [if_pos q]
      by_cases q1 : j - s < 4
      · rw [if_pos q1, if_neg (by omega), if_neg (by omega), if_neg (by omega), if_neg (by omega), if_pos (by omega), show (j - s) % 4 = j - s by omega]
      · rw [if_neg q1]
        by_cases q2 : j - s < 8
        · rw [if_pos q2, if_neg (by omega), if_neg (by omega), if_neg (by omega), if_pos (by omega), show (j - s) % 4 = j - (s + 4) by omega]
        · rw [if_neg q2]
          by_cases q3 : j - s < 12
          · rw [if_pos q3, if_neg (by omega), if_neg (by omega), if_pos (by omega), show (j - s) % 4 = j - (s + 4 + 4) by omega]
          · rw [if_neg q3]
            by_cases q4 : j - s < 16
            · rw [if_pos q4, if_neg (by omega), if_pos (by omega), show (j - s) % 4 = j - (s + 4 + 4 + 4) by omega]
            · rw [if_neg q4, if_pos (by omega), show (j - s) % 4 = j - (s + 4 + 4 + 4 + 4) by omega]
    · rw [if_neg q, if_neg (by omega), if_neg (by omega), if_neg (by omega), if_neg (by omega), if_neg (by omega)]
def FrM (M N : PM) : Prop := (∀ q k, ¬ (q = 99 ∧ k = 1) → N.1 q k = M.1 q k) ∧ N.2.1 = M.2.1 ∧ (∀ q, q ≠ 100 → N.2.2.1 q = M.2.2.1 q) ∧ N.2.2.2 = M.2.2.2
theorem feedM {M : PM} {a b c d e : Int32} {s : Nat} (h1 : mI M 99 1 = zi s) (hs : s + 20 ≤ 500) : ∃ N, F_X11_feed_99_23 FUEL M a b c d e (zi 0) = rI (zi ((s + 20 : Nat))) N ∧ mI N 99 1 = zi ((s + 20 : Nat)) ∧ (∀ j, mA N 100 j = if s ≤ j ∧ j < s + 20 then byt (ag a b c d e (j - s)) ((j - s) % 4) else mA M 100 j) ∧ FrM M N := by
  have h := loopS (σ := Nat × PM) (fun f t => F_X11_feed_99_23 f t.2 a b c d e (zi (t.1 : Nat))) (fun o => ∃ N, o = rI (zi ((s + 20 : Nat))) N ∧ mI N 99 1 = zi ((s + 20 : Nat)) ∧ (∀ j, mA N 100 j = if s ≤ j ∧ j < s + 20 then byt (ag a b c d e (j - s)) ((j - s) % 4) else mA M 100 j) ∧ FrM M N) (fun r t => t.1 ≤ 20 ∧ r = 20 - t.1 ∧ mI t.2 99 1 = zi ((s + t.1 : Nat)) ∧ (∀ j, mA t.2 100 j = if s ≤ j ∧ j < s + t.1 then byt (ag a b c d e (j - s)) ((j - s) % 4) else mA M 100 j) ∧ FrM M t.2) (fun f r t hI => by
    obtain ⟨i, N⟩ := t
    obtain ⟨i1, i2, i3, i4, i5⟩ := hI
    simp only at i1 i2 i3 i4 i5
    by_cases e9 : i = 20
    · left
      subst e9
      refine ⟨N, ?_, i3, i4, i5⟩
      show F_X11_feed_99_23 (f + 1) N a b c d e (zi ((20 : Nat) : Int)) = _
      rw [F_X11_feed_99_23, if_pos (by decide), i3]
    · right
      refine ⟨20 - (i + 1), (i + 1, sI (sA N 100 (s + i) (byt (ag a b c d e i) (i % 4))) 99 1 (zi ((s + (i + 1) : Nat)))), by omega, ⟨by show i + 1 ≤ 20; omega, rfl, rI_at, fun j => ?_, ?_⟩, ?_⟩
      · show (sA N 100 (s + i) (byt (ag a b c d e i) (i % 4))).2.2.1 100 j = if s ≤ j ∧ j < s + (i + 1) then byt (ag a b c d e (j - s)) ((j - s) % 4) else mA M 100 j
        by_cases q : j = s + i
        · rw [q, rA_at, if_pos (by omega), show s + i - s = i by omega]
        · rw [rA_nk q]
          refine (i4 j).trans ?_
          by_cases q2 : s ≤ j ∧ j < s + i
          · rw [if_pos q2, if_pos (by omega)]
          · rw [if_neg q2, if_neg (by omega)]
      · refine ⟨fun q k hq => (u2_ne hq).trans (i5.1 q k hq), i5.2.1, fun q hq => (u1_ne hq).trans (i5.2.2.1 q hq), i5.2.2.2⟩
      · show F_X11_feed_99_23 (f + 1) N a b c d e (zi (i : Nat)) = F_X11_feed_99_23 f (sI (sA N 100 (s + i) (byt (ag a b c d e i) (i % 4))) 99 1 (zi ((s + (i + 1) : Nat)))) a b c d e (zi ((i + 1 : Nat)))
        have key : F_X11_feed_99_76 (F_X11_feed_99_23 f) N a b c d e (zi (i : Nat)) (ag a b c d e i) = F_X11_feed_99_23 f (sI (sA N 100 (s + i) (byt (ag a b c d e i) (i % 4))) 99 1 (zi ((s + (i + 1) : Nat)))) a b c d e (zi ((i + 1 : Nat))) := by
          unfold F_X11_feed_99_76
          rw [if_neg (by decide), i3, if_pos (zi_ixT (by omega) (by omega)), lt_z, lt_z, zi_natN (by omega), show (4 : Int32) = zi 4 from rfl, zi_rem (by omega) (by omega), show (8 : Int32) = zi 8 from rfl, zi_mul, show (24 : Int32) = zi 24 from rfl, zi_sub, show (1 : Int32) = zi 1 from rfl, zi_add, zc (show (i : Int) + 1 = ((i + 1 : Nat) : Int) by omega), zc (show (24 : Int) - 8 * ((i : Int) % 4) = 24 - 8 * ((i % 4 : Nat) : Int) by omega)]
          show F_X11_feed_99_23 f (sI (sA N 100 (s + i) (byt (ag a b c d e i) (i % 4))) 99 1 (mI N 99 1 + zi 1)) a b c d e _ = _
          rw [i3, zi_add, zc (show ((s + i : Nat) : Int) + 1 = ((s + (i + 1) : Nat) : Int) by omega)]
        rw [← key, F_X11_feed_99_23]
        unfold ag
        generalize F_X11_feed_99_76 = G
        by_cases q1 : i < 4
        · rw [if_pos q1]; simp (disch := omega) only [lt_z, cI_s, cJ_s, cV_s, bI_s, bI_e, bV_s, bV_e, zl, zi_neg, zi_add, zi_sub, zi_mul, ↓reduceIte, zb0, zb1, bb_and, bb_t, bb_f, zi_ltT, zi_ltF, zi_leT, zi_leF, zi_eqT, zi_eqF, zi_ixT, zi_nat, Int.toNat_natCast, Int.reduceToNat, ltNT, and_self]
        · rw [if_neg q1]
          by_cases q2 : i < 8
          · rw [if_pos q2]; simp (disch := omega) only [lt_z, cI_s, cJ_s, cV_s, bI_s, bI_e, bV_s, bV_e, zl, zi_neg, zi_add, zi_sub, zi_mul, ↓reduceIte, zb0, zb1, bb_and, bb_t, bb_f, zi_ltT, zi_ltF, zi_leT, zi_leF, zi_eqT, zi_eqF, zi_ixT, zi_nat, Int.toNat_natCast, Int.reduceToNat, ltNT, and_self]
          · rw [if_neg q2]
            by_cases q3 : i < 12
            · rw [if_pos q3]; simp (disch := omega) only [lt_z, cI_s, cJ_s, cV_s, bI_s, bI_e, bV_s, bV_e, zl, zi_neg, zi_add, zi_sub, zi_mul, ↓reduceIte, zb0, zb1, bb_and, bb_t, bb_f, zi_ltT, zi_ltF, zi_leT, zi_leF, zi_eqT, zi_eqF, zi_ixT, zi_nat, Int.toNat_natCast, Int.reduceToNat, ltNT, and_self]
            · rw [if_neg q3]
              by_cases q4 : i < 16
              · rw [if_pos q4]; simp (disch := omega) only [lt_z, cI_s, cJ_s, cV_s, bI_s, bI_e, bV_s, bV_e, zl, zi_neg, zi_add, zi_sub, zi_mul, ↓reduceIte, zb0, zb1, bb_and, bb_t, bb_f, zi_ltT, zi_ltF, zi_leT, zi_leF, zi_eqT, zi_eqF, zi_ixT, zi_nat, Int.toNat_natCast, Int.reduceToNat, ltNT, and_self]
              · rw [if_neg q4]; simp (disch := omega) only [lt_z, cI_s, cJ_s, cV_s, bI_s, bI_e, bV_s, bV_e, zl, zi_neg, zi_add, zi_sub, zi_mul, ↓reduceIte, zb0, zb1, bb_and, bb_t, bb_f, zi_ltT, zi_ltF, zi_leT, zi_leF, zi_eqT, zi_eqF, zi_ixT, zi_nat, Int.toNat_natCast, Int.reduceToNat, ltNT, and_self]) 20 (0, M) FUEL ⟨by show 0 ≤ 20; omega, rfl, h1, fun j => by show mA M 100 j = if s ≤ j ∧ j < s + 0 then _ else _; rw [if_neg (by omega)], fun _ _ _ => rfl, rfl, fun _ _ => rfl, rfl⟩ (FUEL_gt (by omega))
  exact h
theorem ok0 : OK_0 Rel := fun M a1 a2 a3 a4 a5 hR => by
  have hR2 := hR
  obtain ⟨C, S, W, h1, h2, h3, h4, h5, h6, h7, h8, h9, h10, h11, h12⟩ := hR2
  obtain ⟨t, b, t1, t2, t3, t4⟩ := h11
  unfold c_0
  by_cases h : t + 20 ≤ 500
  · obtain ⟨N, n1, n2, n3, n4⟩ := feedC (a := a1) (b := a2) (c := a3) (d := a4) (e := a5) t2 h
    have m1 : mI (sI N 99 0 (zi 0)) 99 1 = zi t := (n4.1 99 1 (by decide)).trans t3
    obtain ⟨K, k1, k2, k3, k4⟩ := feedM (M := sI N 99 0 (zi 0)) (a := a1) (b := a2) (c := a3) (d := a4) (e := a5) m1 h
    refine ⟨K, dirI_ok n1 ?_, ?_⟩
    · unfold F_X11_feed_99
      rw [show (0 : Int32) = zi 0 from rfl, m1, show (20 : Int32) = zi 20 from rfl, zi_add, if_pos (by rw [show (500 : Int32) = zi 500 from rfl, zi_le (by omega) (by omega)]; omega)]
      exact k1
    · have i0 : ∀ q k, ¬ (q = 1 ∧ k = 1) → ¬ (q = 99 ∧ k = 1) → ¬ (q = 99 ∧ k = 0) → K.1 q k = M.1 q k := fun q k x y z => (k4.1 q k y).trans ((u2_ne z).trans (n4.1 q k x))
      refine Rel_tp (S := S) h1 h2 h3 h7 h8 h9 h10 h4 h5 h6 h12 ?_ (fun p hp q => i0 p.1 p.2 (fun e => q (by rw [show p = (1, 1) from Prod.ext e.1 e.2]; decide)) (fun e => q (by rw [show p = (99, 1) from Prod.ext e.1 e.2]; decide)) (fun e => by rw [show p = (99, 0) from Prod.ext e.1 e.2] at hp; exact absurd hp (by decide))) (fun q x y => (k4.2.2.1 q y).trans (n4.2.2.1 q x)) (fun q _ => by rw [k4.2.2.2]; show N.2.2.2.1 q = _; rw [n4.2.2.2]) (fun q i _ => by rw [k4.2.2.2]; show N.2.2.2.2 q i = _; rw [n4.2.2.2])
      have hx : ∀ j, ∃ v : Nat, j < t + 20 → mA K 2 j = zi v ∧ mA K 100 j = zi v ∧ v < 256 := fun j => by
        have e1 : mA K 2 j = if t ≤ j ∧ j < t + 20 then byt (ag a1 a2 a3 a4 a5 (j - t)) ((j - t) % 4) else mA M 2 j := by
          have := k4.2.2.1 2 (by decide)
          show K.2.2.1 2 j = _
          rw [this]
          exact n3 j
        have e2 : mA K 100 j = if t ≤ j ∧ j < t + 20 then byt (ag a1 a2 a3 a4 a5 (j - t)) ((j - t) % 4) else mA M 100 j := by
          rw [k3 j]
          have : mA (sI N 99 0 (zi 0)) 100 j = mA M 100 j := by show N.2.2.1 100 j = _; rw [n4.2.2.1 100 (by decide)]
          rw [this]
        rw [e1, e2]
        by_cases q : t ≤ j ∧ j < t + 20
        · rw [if_pos q, if_pos q]
          obtain ⟨v, v1, v2⟩ := byt_rng (ag a1 a2 a3 a4 a5 (j - t)) ((j - t) % 4)
          exact ⟨v, fun _ => ⟨v1, v1, v2⟩⟩
        · rw [if_neg q, if_neg q]
          exact ⟨b j, fun hj => t4 j (by omega)⟩
      refine ⟨t + 20, fun j => Classical.choose (hx j), h, (k4.1 1 1 (by decide)).trans n2, k2, fun i hi => Classical.choose_spec (hx i) hi⟩
  · refine ⟨sI M 99 0 (zi 0), dirI_ok (x := zi (-1)) (M1 := M) ?_ ?_, hR.sm Sam.th.1⟩
    · unfold F_X10_feed_0
      rw [t2, show (20 : Int32) = zi 20 from rfl, zi_add, if_neg (by rw [show (500 : Int32) = zi 500 from rfl, zi_le (by omega) (by omega)]; omega)]
      rfl
    · have m1 : mI (sI M 99 0 (zi 0)) 99 1 = zi t := t3
      unfold F_X11_feed_99
      rw [show (0 : Int32) = zi 0 from rfl, m1, show (20 : Int32) = zi 20 from rfl, zi_add, if_neg (by rw [show (500 : Int32) = zi 500 from rfl, zi_le (by omega) (by omega)]; omega)]
      rfl
