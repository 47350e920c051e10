/-! the n-th free day from one on -/
/-- r is the n-th free day from a on up to the last; -1 without -/
def NthF (C : Cal) (L O a n : Nat) (r : Int) : Prop := (∃ k : Nat, a + k ≤ 999999999 ∧ fd C L O (a + k) = true ∧ fb_ct (fun i => fd C L O (a + i)) k + 1 = n ∧ r = ((a + k : Nat) : Int)) ∨ (r = -1 ∧ ∀ k : Nat, a + k ≤ 999999999 → fd C L O (a + k) = true → fb_ct (fun i => fd C L O (a + i)) k + 1 ≠ n)
theorem NthF_one {C : Cal} {L O a n : Nat} {r r' : Int} (h : NthF C L O a n r) (h' : NthF C L O a n r') : r = r' := by
  rcases h with ⟨k, k1, k2, k3, k4⟩ | ⟨k1, k2⟩
  · rcases h' with ⟨j, j1, j2, j3, j4⟩ | ⟨j1, j2⟩
    · have : k = j := fb_ct_kth_one (p := fun i => fd C L O (a + i)) k2 j2 (by omega)
      rw [k4, j4, this]
    · exact absurd k3 (j2 k k1 k2)
  · rcases h' with ⟨j, j1, j2, j3, j4⟩ | ⟨j1, j2⟩
    · exact absurd j3 (k2 j j1 j2)
    · rw [k1, j1]
/-- a stretch of free days, as bits -/
theorem block_s {M : PM} {C : Cal} {L O d : Nat} (hc : WFC C) (c : CalC M C) (hL : L < 4096) (hO : O < 4096) (h2 : mI M 27 2 = zi L) (h3 : mI M 27 3 = zi O) (hd : d ≤ 999999999) : ∃ (n : Nat) (x y : Int64), F_X0_stretchFrom_3 M (zi d) = rI (zi n) M ∧ F_X0_turnsOn_3 M (zi d) = rI (zi (tO C (d : Int))) M ∧ F_X1_daysFrom_27 M (zi (tO C (d : Int))) = rJ x M ∧ F_X10_low M (zi n) = rJ y M ∧ 1 ≤ n ∧ n ≤ 64 ∧ d + n ≤ 1000000000 ∧ ∀ i, i < 64 → lb (x &&& y) i = (fd C L O (d + i) && decide (i < n)) := by
  have h0 := tO_nn hc (d := (d : Int)) (by omega)
  obtain ⟨n, n1, n2, n3, n4, n5⟩ := stretch_s hc c hd
  have t1 := turnsOn_s (d := (d : Int)) hc c.2.2.2.1.2.1 c.2.2.2.2 (by omega)
  obtain ⟨x, x1, x2⟩ := daysFrom_s (t := tO C (d : Int)) hc c hL hO h2 h3 (by omega)
  obtain ⟨y, y1, y2⟩ := low_s (M := M) (b := (n : Int)) (by omega)
  refine ⟨n, x, y, n1, t1, x1, y1, n2, n3, n4, fun i hi => ?_⟩
  rw [lb_and, x2 i hi, y2 i hi, decide_eq_decide.mpr (show (i : Int) < (n : Int) ↔ i < n by omega)]
  by_cases q : i < n
  · unfold fd
    rw [n5 i q]
  · rw [decide_eq_false q, Bool.and_false, Bool.and_false]
theorem ct_cutN (q : Nat → Bool) (m : Nat) : fb_ct (fun i => q i && decide (i < m)) 64 = fb_ct q (min 64 m) := by
  rw [fb_ct_cong (q := fun i => q i && decide ((i : Int) < (m : Int))) (fun k _ => by rw [decide_eq_decide.mpr (show k < m ↔ (k : Int) < (m : Int) by omega)]), ct_cut, Int.toNat_natCast]
theorem nthFrom_s {M : PM} {C : Cal} {L O a n : Nat} (hc : WFC C) (c : CalC M C) (hL : L < 4096) (hO : O < 4096) (h2 : mI M 27 2 = zi L) (h3 : mI M 27 3 = zi O) (h4 : mI M 27 4 = zi (tB C L O)) (ha : a ≤ 1000000000) (hn : 1 ≤ n ∧ n ≤ 100000) : ∃ r, F_X1_nthFrom_27 M (zi a) (zi n) = rI (zi r) M ∧ NthF C L O a n r := by
  have hT := tB_le hc L O
  unfold F_X1_nthFrom_27
  have e0 : F_X1_patience_27 M = rI (zi ((tB C L O : Int) + 3)) M := by
    unfold F_X1_patience_27
    rw [h4, show (3 : Int32) = zi 3 from rfl, zi_add]
  rw [e0, cI_s]
  refine loopS (σ := Nat × Nat × Int) (fun f s => F_X1_nthFrom_27_14 f M (zi (s.2.1 : Nat)) (zi s.2.2) (zi ((a + s.1 : Nat)))) (fun o => ∃ r, o = rI (zi r) M ∧ NthF C L O a n r) (fun r s => r = 1000000000 - (a + s.1) ∧ a + s.1 ≤ 1000000000 ∧ 1 ≤ s.2.1 ∧ fb_ct (fun i => fd C L O (a + i)) s.1 + s.2.1 = n ∧ s.2.2 ≤ (tB C L O : Int) + 3 ∧ ∃ z : Nat, z ≤ s.1 ∧ (z : Int) + s.2.2 = (tB C L O : Int) + 3 ∧ ∀ i, s.1 - z ≤ i → i < s.1 → fd C L O (a + i) = false) ?_ (1000000000 - a) (0, n, (tB C L O : Int) + 3) FUEL ⟨rfl, ha, hn.1, by show 0 + n = n; omega, by show (tB C L O : Int) + 3 ≤ (tB C L O : Int) + 3; omega, 0, Nat.le_refl 0, by show ((0 : Nat) : Int) + ((tB C L O : Int) + 3) = _; omega, fun i h5 h6 => absurd h6 (Nat.not_lt_zero i)⟩ (FUEL_gt (by omega))
  rintro f r ⟨j, m, p⟩ ⟨i1, i2, i3, i4, i5, z, i6, i7, i8⟩
  simp only at i1 i2 i3 i4 i5 i6 i7 i8
  have below : ∀ k, k < j → fd C L O (a + k) = true → fb_ct (fun i => fd C L O (a + i)) k + 1 ≠ n := fun k hk hf => by
    have := ct_lt_of (p := fun i => fd C L O (a + i)) hk hf
    omega
  show (∃ r, F_X1_nthFrom_27_14 (f + 1) M (zi m) (zi p) (zi ((a + j : Nat))) = rI (zi r) M ∧ _) ∨ _
  by_cases q1 : 999999999 < a + j
  · left
    refine ⟨-1, ?_, Or.inr ⟨rfl, fun k hk hf => below k (by omega) hf⟩⟩
    rw [F_X1_nthFrom_27_14, if_pos (by rw [show (999999999 : Int32) = zi 999999999 from rfl, zi_lt (by omega) (by omega)]; omega)]
    rfl
  · by_cases q2 : p ≤ 0
    · left
      have hz : tB C L O + 3 ≤ z := by omega
      have hnev := fd_never (a := a + (j - z)) (n := z) hc hz (fun i hi => by rw [show a + (j - z) + i = a + (j - z + i) by omega]; exact i8 _ (by omega) (by omega))
      refine ⟨-1, ?_, Or.inr ⟨rfl, fun k hk hf => by rw [hnev] at hf; exact absurd hf (by decide)⟩⟩
      rw [F_X1_nthFrom_27_14, if_neg (by rw [show (999999999 : Int32) = zi 999999999 from rfl, zi_lt (by omega) (by omega)]; omega), if_pos (by rw [show (0 : Int32) = zi 0 from rfl, zi_le (by omega) (by omega)]; omega)]
      rfl
    · obtain ⟨g, x, y, b1, b2, b3, b4, b5, b6, b7, b8⟩ := block_s (d := a + j) hc c hL hO h2 h3 (by omega)
      have ecnt : fb_ct (lb (x &&& y)) 64 = fb_ct (fun i => fd C L O (a + (j + i))) g := by
        rw [fb_ct_cong b8, ct_cutN (fun i => fd C L O (a + j + i)), show min 64 g = g by omega]
        exact fb_ct_cong (fun i _ => by rw [show a + j + i = a + (j + i) by omega])
      have esp := fb_ct_split (fun i => fd C L O (a + i)) j g
      have h64 := fb_ct_le (lb (x &&& y)) 64
      rw [F_X1_nthFrom_27_14, if_neg (by rw [show (999999999 : Int32) = zi 999999999 from rfl, zi_lt (by omega) (by omega)]; omega), if_neg (by rw [show (0 : Int32) = zi 0 from rfl, zi_le (by omega) (by omega)]; omega), b1, cI_s, b2, cI_s, b3, cJ_s, b4, cJ_s, lt_z, bitCount_lb, cI_s]
      unfold F_X1_nthFrom_27_103
      by_cases q3 : fb_ct (lb (x &&& y)) 64 < m
      · right
        rw [if_pos (by rw [zi_lt (by omega) (by omega)]; omega), lt_z]
        by_cases q4 : fb_ct (lb (x &&& y)) 64 = 0
        · refine ⟨1000000000 - (a + (j + g)), (j + g, m, p - g), by omega, ⟨rfl, by show a + (j + g) ≤ 1000000000; omega, i3, by show fb_ct (fun i => fd C L O (a + i)) (j + g) + m = n; omega, by show p - (g : Int) ≤ (tB C L O : Int) + 3; omega, z + g, by show z + g ≤ j + g; omega, by show ((z + g : Nat) : Int) + (p - g) = _; omega, fun i h5 h6 => ?_⟩, ?_⟩
          · have h5' : j + g - (z + g) ≤ i := h5
            have h6' : i < j + g := h6
            by_cases q5 : i < j
            · exact i8 i (by omega) q5
            · have := fb_ct_zero.mp (ecnt.symm.trans q4) (i - j) (by omega)
              rw [show j + (i - j) = i by omega] at this
              exact this
          · show _ = F_X1_nthFrom_27_14 f M (zi m) (zi (p - g)) (zi ((a + (j + g) : Nat)))
            rw [q4, if_pos (by decide), mx1 (by omega) (by omega), cI_s, lt_z, zi_sub, zi_sub, zi_add, zc (show (m : Int) - ((0 : Nat) : Int) = m by omega), zc (show ((a + j : Nat) : Int) + g = ((a + (j + g) : Nat) : Int) by omega)]
        · refine ⟨1000000000 - (a + (j + g)), (j + g, m - fb_ct (lb (x &&& y)) 64, (tB C L O : Int) + 3), by omega, ⟨rfl, by show a + (j + g) ≤ 1000000000; omega, by show 1 ≤ m - fb_ct (lb (x &&& y)) 64; omega, by show fb_ct (fun i => fd C L O (a + i)) (j + g) + (m - fb_ct (lb (x &&& y)) 64) = n; omega, by show (tB C L O : Int) + 3 ≤ (tB C L O : Int) + 3; omega, 0, Nat.zero_le _, by show ((0 : Nat) : Int) + ((tB C L O : Int) + 3) = _; omega, fun i h5 h6 => by have h5' : j + g - 0 ≤ i := h5; have h6' : i < j + g := h6; omega⟩, ?_⟩
          show _ = F_X1_nthFrom_27_14 f M (zi ((m - fb_ct (lb (x &&& y)) 64 : Nat))) (zi ((tB C L O : Int) + 3)) (zi ((a + (j + g) : Nat)))
          rw [if_neg (by rw [show (0 : Int32) = zi 0 from rfl, zi_le (by omega) (by omega)]; omega), e0, cI_s, mx1 (by omega) (by omega), cI_s, lt_z, zi_sub, zi_add, zc (show (m : Int) - (fb_ct (lb (x &&& y)) 64 : Nat) = ((m - fb_ct (lb (x &&& y)) 64 : Nat) : Int) by omega), zc (show ((a + j : Nat) : Int) + g = ((a + (j + g) : Nat) : Int) by omega)]
      · left
        obtain ⟨k, k1, k2, k3, k4⟩ := nthLowest_s (M := M) (x := x &&& y) (n := m) i3 (by omega)
        have k5 : fd C L O (a + j + k) = true ∧ k < g := by rw [b8 k k2] at k3; simpa using k3
        have k6 : fb_ct (lb (x &&& y)) k = fb_ct (fun i => fd C L O (a + (j + i))) k := fb_ct_cong (fun i hi => by
          rw [b8 i (by omega), decide_eq_true (by omega), Bool.and_true, show a + j + i = a + (j + i) by omega])
        have k7 := fb_ct_split (fun i => fd C L O (a + i)) j k
        refine ⟨((a + (j + k) : Nat) : Int), ?_, Or.inl ⟨j + k, by omega, by rw [show a + (j + k) = a + j + k by omega]; exact k5.1, by omega, rfl⟩⟩
        rw [if_neg (by rw [zi_lt (by omega) (by omega)]; omega), k1, cI_s, zi_add, zc (show ((a + j : Nat) : Int) + k = ((a + (j + k) : Nat) : Int) by omega)]
