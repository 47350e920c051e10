theorem ok39 : OK_39 Rel := fun M hR => by
  have hR2 := hR
  obtain ⟨C, S, W, h1, h2, h3, h4, h5, h6, h7, h8, h9, h10, h11, h12⟩ := hR2
  obtain ⟨n, n1, n2, n3, n4⟩ := h10
  unfold c_39
  by_cases q : n = 0
  · refine ⟨sI M 99 0 (zi 0), dirI_ok (x := zi (-1)) (M1 := M) ?_ ?_, hR.sm Sam.th.1⟩
    · unfold F_X10_restore_0
      rw [n2, q, if_pos (by decide)]
      rfl
    · have e : mI (sI M 99 0 0) 99 35 = zi (n : Nat) := n3
      unfold F_X11_restore_99
      rw [e, q, if_pos (by decide)]
      rfl
  · obtain ⟨r, rfl⟩ : ∃ r, n = r + 1 := ⟨n - 1, by omega⟩
    obtain ⟨S', s1, s2, s3⟩ := n4 r (by omega)
    have ed : zi ((r + 1 : Nat) : Int) - 1 = zi (r : Nat) := by rw [show (1 : Int32) = zi 1 from rfl, zi_sub]; exact congrArg zi (by omega)
    have e05 : mI (sI M 0 5 (zi (r : Nat))) 0 5 = zi (r : Nat) := rI_at
    have cl : ∃ N, F_X10_restore_0 M = rI (zi (r : Nat)) N ∧ StaC N C S' 16 ∧ FrK 16 (sI M 0 5 (zi (r : Nat))) N := by
      have s2' : StaC (sI M 0 5 (zi (r : Nat))) C S' (43 + 11 * r) := s2.of (fun k => rI_ne (by omega)) (fun j _ _ => rfl)
      have hl : ¬ (zi ((r + 1 : Nat) : Int) < 1) := by rw [show (1 : Int32) = zi 1 from rfl, zi_lt (by omega) (by omega)]; omega
      have hl2 : zi ((r + 1 : Nat) : Int) ≤ 3 := by rw [show (3 : Int32) = zi 3 from rfl, zi_le (by omega) (by omega)]; omega
      have hn : r = 0 ∨ r = 1 ∨ r = 2 := by omega
      rcases hn with rfl | rfl | rfl
      · obtain ⟨N, a, b, c⟩ := copy_16_43 h1 s1 s2'
        refine ⟨N, ?_, b, c⟩
        have e : mI N 0 5 = zi ((0 : Nat) : Int) := (c.1 0 5 (by decide)).trans e05
        unfold F_X10_restore_0
        rw [n2, if_neg hl, if_pos hl2, ed, e05, if_pos (by decide), a, cV_s, e]
      · obtain ⟨N, a, b, c⟩ := copy_16_54 h1 s1 s2'
        refine ⟨N, ?_, b, c⟩
        have e : mI N 0 5 = zi ((1 : Nat) : Int) := (c.1 0 5 (by decide)).trans e05
        unfold F_X10_restore_0
        rw [n2, if_neg hl, if_pos hl2, ed, e05, if_neg (by decide), if_pos (by decide), a, cV_s, e]
      · obtain ⟨N, a, b, c⟩ := copy_16_65 h1 s1 s2'
        refine ⟨N, ?_, b, c⟩
        have e : mI N 0 5 = zi ((2 : Nat) : Int) := (c.1 0 5 (by decide)).trans e05
        unfold F_X10_restore_0
        rw [n2, if_neg hl, if_pos hl2, ed, e05, if_neg (by decide), if_neg (by decide), if_pos (by decide), a, cV_s, e]
    obtain ⟨N, f1, f2, f3⟩ := cl
    have hgN : ∀ q j, mG N q j = mG M q j := fun q j => by
      show N.2.2.2.2 q j = M.2.2.2.2 q j
      rw [f3.2.2.2]
      rfl
    have hbN : ∀ q, mB N q = mB M q := fun q => by
      show N.2.2.2.1 q = M.2.2.2.1 q
      rw [f3.2.2.2]
      rfl
    have haN : ∀ q, q < 17 ∨ 26 < q → mA N q = mA M q := fun q hq => funext (fun k => f3.2.1 q k hq)
    have hiN : ∀ q k, q ≠ 16 → ¬ (q = 0 ∧ k = 5) → mI N q k = mI M q k := fun q k hq hq2 => (f3.1 q k hq).trans (u2_ne hq2)
    have n05 : mI N 0 5 = zi (r : Nat) := (f3.1 0 5 (by decide)).trans e05
    generalize hX : sI (sI N 99 0 (zi 0)) 99 35 (zi (r : Nat)) = X
    have xI : ∀ q k, ¬ (q = 99 ∧ (k = 0 ∨ k = 35)) → mI X q k = mI N q k := fun q k hq => by
      rw [← hX]
      exact (u2_ne (by omega)).trans (u2_ne (by omega))
    have x35 : mI X 99 35 = zi (r : Nat) := by rw [← hX]; exact rI_at
    have xR : X.2.2.1 = N.2.2.1 ∧ X.2.2.2 = N.2.2.2 := by rw [← hX]; exact ⟨rfl, rfl⟩
    have hgX : ∀ q j, mG X q j = mG M q j := fun q j => by
      rw [← hgN]
      show X.2.2.2.2 q j = N.2.2.2.2 q j
      rw [xR.2]
    obtain ⟨P, p1, p2⟩ := movesAll_s (M := X) (r := r) (V := mG X 122 r) (b := false) (by omega) (fun _ k _ => rfl) (fun h => by cases h)
    have sv : StV (mG X 122 r) C S' := by rw [hgX 122 r]; exact s3
    obtain ⟨m1, m2⟩ := end_sta h1 s1 p2 sv
    have pI : ∀ q k, ¬ (q = 99 ∧ (k = 32 ∨ k = 33 ∨ k = 34 ∨ k = 36)) → mI P q k = mI X q k := p2.2.2.2.1
    have pA : ∀ q, mA P q = mA N q := fun q => by
      show P.2.2.1 q = N.2.2.1 q
      rw [p2.2.2.2.2.2.1, xR.1]
    have pB : ∀ q, mB P q = mB N q := fun q => by
      show P.2.2.2.1 q = N.2.2.2.1 q
      rw [p2.2.2.2.2.2.2.1, xR.2]
    have pG : ∀ g i, ¬ (g = 115 ∨ g = 119 ∨ g = 120 ∨ g = 121) → ¬ (g = 122 ∧ i = r) → mG P g i = mG M g i := fun g i ha hb => (p2.2.2.2.2.2.2.2 g i ha hb).trans (hgX g i)
    have p35 : mI P 99 35 = zi (r : Nat) := (pI 99 35 (by decide)).trans x35
    refine ⟨P, dirI_ok f1 ?_, ?_⟩
    · have e1 : mI (sI N 99 0 (zi 0)) 99 35 = zi ((r + 1 : Nat)) := by
        have : mI (sI N 99 0 (zi 0)) 99 35 = mI N 99 35 := rI_nk (by decide)
        rw [this, hiN 99 35 (by decide) (by decide)]
        exact n3
      unfold F_X11_restore_99
      rw [show (0 : Int32) = zi 0 from rfl, e1, if_neg (by rw [zi_eq (by omega) (by omega)]; omega), ed, hX, x35, if_pos (zi_ixT (by omega) (by omega)), zi_natN (by omega), show F_X11_movesAll_99_g122 X r 1 = rV P from p1, cV_s, p35]
    · refine Rel_im (M := M) h1 h2 h3 h7 h8 h9 h11 h12 s1 ?_ m1 ?_ ?_ ?_ ?_ ?_
      · exact f2.of (fun k => (pI 16 k (by omega)).trans (xI 16 k (by omega))) (fun j _ _ => pA _)
      · refine ⟨r, by omega, ?_, p35, fun t ht => ?_⟩
        · rw [pI 0 5 (by decide), xI 0 5 (by decide)]; exact n05
        · obtain ⟨T, t1, t2, t3⟩ := n4 t (by omega)
          refine ⟨T, t1, ?_, t3.of (pG 122 t (by decide) (by omega))⟩
          refine t2.of (fun k => ?_) (fun j j1 j2 => (pA _).trans (haN _ (by omega)))
          rw [pI _ k (by omega), xI _ k (by omega)]
          exact hiN _ k (by omega) (by omega)
      · intro q k hq hq2
        have hk : q = 99 → k ≠ 0 ∧ k ≠ 32 ∧ k ≠ 33 ∧ k ≠ 34 ∧ k ≠ 35 ∧ k ≠ 36 := fun e => by
          subst e
          exact ⟨fun h => hq (by rw [h]; decide), fun h => hq (by rw [h]; decide), fun h => hq (by rw [h]; decide), fun h => hq (by rw [h]; decide), fun h => hq (by rw [h]; decide), fun h => hq (by rw [h]; decide)⟩
        have hk0 : ¬ (q = 0 ∧ k = 5) := fun ⟨u, v⟩ => hq (by rw [u, v]; decide)
        rw [pI q k (fun ⟨u, v⟩ => by have := hk u; omega), xI q k (fun ⟨u, v⟩ => by have := hk u; omega)]
        exact hiN q k hq2.1 hk0
      · intro q hq
        exact (pA q).trans (haN q (by omega))
      · intro q _
        exact (pB q).trans (hbN q)
      · intro i
        exact pG 116 i (by decide) (by omega)
