/-! soonest: free days counted back -/
def BN (p : Nat → Bool) (n b r : Nat) : Prop := p r = true ∧ fb_ct p b = fb_ct p r + n
def NbR (p : Nat → Bool) (n b bound : Nat) (r : Int) : Prop := (∃ k : Nat, BN p n b k ∧ bound ≤ k ∧ r = (k : Int)) ∨ (r = -1 ∧ ∀ k, BN p n b k → k < bound)
theorem BN_one {p : Nat → Bool} {n b k k' : Nat} (h : BN p n b k) (h' : BN p n b k') : k = k' := fb_ct_kth_one h.1 h'.1 (by have := h.2; have := h'.2; omega)
theorem BN_lt {p : Nat → Bool} {n b k : Nat} (hn : 1 ≤ n) (h : BN p n b k) : k < b := ct_gt_of (p := p) (by have := h.2; omega)
theorem maxZ {M : PM} {x y : Int} (hx : -2147483648 ≤ x ∧ x < 2147483648) (hy : -2147483648 ≤ y ∧ y < 2147483648) : F_J9_max_7cf53 M (zi x) (zi y) = rI (zi (max x y)) M := by
  unfold F_J9_max_7cf53
  by_cases q : x < y
  · rw [if_pos (by rw [zi_lt (by omega) (by omega)]; omega), Int.max_eq_right (by omega)]
  · rw [if_neg (by rw [zi_lt (by omega) (by omega)]; omega), Int.max_eq_left (by omega)]
theorem stretchTo_s {M : PM} {C : Cal} {d : Nat} (hc : WFC C) (c : CalC M C) (hd : d ≤ 999999999) : ∃ n : Nat, F_X0_stretchTo_3 M (zi d) = rI (zi n) M ∧ 1 ≤ n ∧ n ≤ 64 ∧ n ≤ d + 1 ∧ ∀ i, i < n → tO C ((d + 1 - n + i : Nat) : Int) = tO C ((d + 1 - n : Nat) : Int) + i := by
  have hK := hc.1.2.2.2
  have hk := c.2.2.2.1.2.1
  have hs := c.2.2.2.2
  have e0 : F_X0_stretchTo_3 M (zi d) = F_X0_stretchTo_3_13 FUEL M (zi d) (zi ((d - 63 : Nat))) (zi ((0 : Nat) : Int)) := by
    unfold F_X0_stretchTo_3
    rw [show (64 : Int32) = zi 64 from rfl, show (1 : Int32) = zi 1 from rfl, show (0 : Int32) = zi 0 from rfl, zi_sub, zi_add, maxZ (by omega) (by omega), cI_s, zc (show max ((d : Int) - 64 + 1) 0 = ((d - 63 : Nat) : Int) by omega)]
    rfl
  rw [e0]
  refine loopS (σ := Nat × Nat) (fun f s => F_X0_stretchTo_3_13 f M (zi d) (zi (s.2 : Nat)) (zi (s.1 : Nat))) (fun o => ∃ n : Nat, o = rI (zi n) M ∧ 1 ≤ n ∧ n ≤ 64 ∧ n ≤ d + 1 ∧ ∀ i, i < n → tO C ((d + 1 - n + i : Nat) : Int) = tO C ((d + 1 - n : Nat) : Int) + i) (fun r s => s.1 ≤ cK C ∧ r = cK C - s.1 ∧ s.2 ≤ d ∧ d ≤ s.2 + 63 ∧ ∀ j, j < s.1 → cS C j < d → cS C j < s.2) ?_ (cK C) (0, d - 63) FUEL ⟨Nat.zero_le _, rfl, by show d - 63 ≤ d; omega, by show d ≤ d - 63 + 63; omega, fun j hj => absurd hj (Nat.not_lt_zero j)⟩ (FUEL_gt (by omega))
  rintro f r ⟨i, z⟩ ⟨h1, h2, h3, h4, h6⟩
  simp only at h1 h2 h3 h4 h6
  show (∃ n : Nat, F_X0_stretchTo_3_13 (f + 1) M (zi d) (zi (z : Nat)) (zi (i : Nat)) = _ ∧ _) ∨ _
  rw [F_X0_stretchTo_3_13, hk]
  by_cases hi : i = cK C
  · left
    subst hi
    refine ⟨d - z + 1, ?_, by omega, by omega, by omega, fun k hk2 => ?_⟩
    · rw [if_pos (by rw [zi_le (by omega) (by omega)]; omega), zi_sub, show (1 : Int32) = zi 1 from rfl, zi_add, zc (show (d : Int) - z + 1 = ((d - z + 1 : Nat) : Int) by omega)]
    · rw [show d + 1 - (d - z + 1) = z by omega]
      unfold tO
      rw [fb_ct_cong (q := fun i => decide ((cS C i : Int) < (z : Int))) (fun j hj => decide_eq_decide.mpr (by
        have := h6 j hj
        omega))]
      omega
  · right
    have hs2 := hs i (by omega)
    have hS := hc.2.2.2.1 i (by omega)
    rw [if_neg (by rw [zi_le (by omega) (by omega)]; omega), if_pos (zi_ixT (by omega) (by omega)), zi_natN (by omega), hs2]
    unfold F_X0_stretchTo_3_47
    by_cases q : d ≤ cS C i
    · refine ⟨cK C - (i + 1), (i + 1, z), by omega, ⟨by show i + 1 ≤ cK C; omega, rfl, h3, h4, fun j hj hd2 => ?_⟩, ?_⟩
      · show cS C j < z
        by_cases e : j = i
        · subst e; omega
        · exact h6 j (by have : j < i + 1 := hj; omega) hd2
      · rw [if_pos (by rw [zi_le (by omega) (by omega)]; omega), show (1 : Int32) = zi 1 from rfl, zi_add, lt_z, zc (show (i : Int) + 1 = ((i + 1 : Nat) : Int) by omega)]
    · refine ⟨cK C - (i + 1), (i + 1, max z (cS C i + 1)), by omega, ⟨by show i + 1 ≤ cK C; omega, rfl, by show max z (cS C i + 1) ≤ d; omega, by show d ≤ max z (cS C i + 1) + 63; omega, fun j hj hd2 => ?_⟩, ?_⟩
      · show cS C j < max z (cS C i + 1)
        by_cases e : j = i
        · subst e; omega
        · have := h6 j (by have : j < i + 1 := hj; omega) hd2
          omega
      · rw [if_neg (by rw [zi_le (by omega) (by omega)]; omega), if_pos (zi_ixT (by omega) (by omega)), show (1 : Int32) = zi 1 from rfl, zi_add, maxZ (by omega) (by omega), cI_s, zi_add, lt_z, zc (show (i : Int) + 1 = ((i + 1 : Nat) : Int) by omega), zc (show max (z : Int) ((cS C i : Int) + 1) = ((max z (cS C i + 1) : Nat) : Int) by omega)]
theorem nthBack_s {M : PM} {C : Cal} {L b n bound : Nat} (hc : WFC C) (c : CalC M C) (hL : L < 4096) (h2 : mI M 27 2 = zi L) (h3 : mI M 27 3 = zi ((0 : Nat) : Int)) (hb : b ≤ 1000000000) (hbd : bound ≤ 1000000000) (hn : 1 ≤ n ∧ n ≤ 60) : ∃ r, F_X1_nthBack_27 M (zi ((b : Int) - 1)) (zi n) (zi bound) = rI (zi r) M ∧ NbR (fd C L 0) n b bound r := by
  unfold F_X1_nthBack_27
  generalize hp : fd C L 0 = p
  refine loopS (σ := Nat × Nat) (fun f s => F_X1_nthBack_27_9 f M (zi bound) (zi (s.2 : Nat)) (zi ((s.1 : Int) - 1))) (fun o => ∃ r, o = rI (zi r) M ∧ NbR p n b bound r) (fun q s => q = s.1 ∧ s.1 ≤ b ∧ 1 ≤ s.2 ∧ s.2 ≤ n ∧ fb_ct p b + s.2 = fb_ct p s.1 + n) ?_ b (b, n) FUEL ⟨rfl, Nat.le_refl _, hn.1, Nat.le_refl _, rfl⟩ (FUEL_gt (by omega))
  rintro f q ⟨e, m⟩ ⟨i1, i2, i3, i4, i5⟩
  simp only at i1 i2 i3 i4 i5
  show (∃ r, F_X1_nthBack_27_9 (f + 1) M (zi bound) (zi (m : Nat)) (zi ((e : Int) - 1)) = rI (zi r) M ∧ _) ∨ _
  rw [F_X1_nthBack_27_9]
  by_cases q1 : e ≤ bound
  · left
    refine ⟨-1, ?_, Or.inr ⟨rfl, fun k hk => ?_⟩⟩
    · rw [if_pos (by rw [zi_lt (by omega) (by omega)]; omega)]
      rfl
    · have := ct_gt_of (p := p) (x := k) (y := e) (by have := hk.2; omega)
      omega
  · obtain ⟨g, n1, n2, n3, n4, n5⟩ := stretchTo_s (d := e - 1) hc c (by omega)
    rw [show e - 1 + 1 - g = e - g by omega] at n5
    have h0 := tO_nn hc (d := ((e - g : Nat) : Int)) (by omega)
    have t1 := turnsOn_s (d := ((e - g : Nat) : Int)) hc c.2.2.2.1.2.1 c.2.2.2.2 (by omega)
    obtain ⟨x, x1, x2⟩ := daysFrom_s (t := tO C ((e - g : Nat) : Int)) hc c hL (show 0 < 4096 by decide) h2 h3 (by omega)
    obtain ⟨y, y1, y2⟩ := low_s (M := M) (b := (g : Int)) (by omega)
    have b8 : ∀ i, i < 64 → lb (x &&& y) i = (p (e - g + i) && decide (i < g)) := fun i hi => by
      rw [lb_and, x2 i hi, y2 i hi, decide_eq_decide.mpr (show (i : Int) < (g : Int) ↔ i < g by omega), ← hp]
      by_cases q : i < g
      · unfold fd
        rw [n5 i q]
      · rw [decide_eq_false q, Bool.and_false, Bool.and_false]
    have ecnt : fb_ct (lb (x &&& y)) 64 = fb_ct (fun i => p (e - g + i)) g := by
      rw [fb_ct_cong b8, ct_cutN (fun i => p (e - g + i)), show min 64 g = g by omega]
    have esp := fb_ct_split p (e - g) g
    rw [show e - g + g = e by omega] at esp
    have h64 := fb_ct_le (lb (x &&& y)) 64
    rw [if_neg (by rw [zi_lt (by omega) (by omega)]; omega), zc (show (e : Int) - 1 = ((e - 1 : Nat) : Int) by omega), n1, cI_s, zi_sub, show (1 : Int32) = zi 1 from rfl, zi_add, lt_z, zc (show ((e - 1 : Nat) : Int) - g + 1 = ((e - g : Nat) : Int) by omega), t1, cI_s, x1, cJ_s, y1, cJ_s, lt_z, bitCount_lb, cI_s]
    by_cases q3 : fb_ct (lb (x &&& y)) 64 < m
    · right
      refine ⟨e - g, (e - g, m - fb_ct (lb (x &&& y)) 64), by omega, ⟨rfl, by show e - g ≤ b; omega, by show 1 ≤ m - fb_ct (lb (x &&& y)) 64; omega, by show m - fb_ct (lb (x &&& y)) 64 ≤ n; omega, by show fb_ct p b + (m - fb_ct (lb (x &&& y)) 64) = fb_ct p (e - g) + n; omega⟩, ?_⟩
      rw [if_pos (by rw [zi_lt (by omega) (by omega)]; omega), lt_z, maxZ (by omega) (by omega), cI_s, lt_z, zc (show max (g : Int) 1 = (g : Int) by omega), zi_sub, zi_sub, zc (show (m : Int) - (fb_ct (lb (x &&& y)) 64 : Nat) = ((m - fb_ct (lb (x &&& y)) 64 : Nat) : Int) by omega), zc (show ((e - 1 : Nat) : Int) - g = ((e - g : Nat) : Int) - 1 by omega)]
    · left
      obtain ⟨k, k1, k2, k3, k4⟩ := nthLowest_s (M := M) (x := x &&& y) (n := fb_ct (lb (x &&& y)) 64 - m + 1) (by omega) (by omega)
      have k5 : p (e - g + k) = true ∧ k < g := by rw [b8 k k2] at k3; simpa using k3
      have k6 : fb_ct (lb (x &&& y)) k = fb_ct (fun i => p (e - g + i)) k := fb_ct_cong (fun i hi => by
        rw [b8 i (by omega), decide_eq_true (by omega), Bool.and_true])
      have k7 := fb_ct_split p (e - g) k
      have hBN : BN p n b (e - g + k) := ⟨k5.1, by omega⟩
      rw [if_neg (by rw [zi_lt (by omega) (by omega)]; omega), zi_sub, zi_add, zc (show ((fb_ct (lb (x &&& y)) 64 : Nat) : Int) - m + 1 = ((fb_ct (lb (x &&& y)) 64 - m + 1 : Nat) : Int) by omega), k1, cI_s, zi_add, lt_z, zc (show ((e - g : Nat) : Int) + k = ((e - g + k : Nat) : Int) by omega)]
      by_cases q4 : e - g + k < bound
      · refine ⟨-1, ?_, Or.inr ⟨rfl, fun k' hk' => by rw [BN_one hk' hBN]; exact q4⟩⟩
        rw [if_pos (by rw [zi_lt (by omega) (by omega)]; omega)]
        rfl
      · refine ⟨((e - g + k : Nat) : Int), ?_, Or.inl ⟨e - g + k, hBN, by omega, rfl⟩⟩
        rw [if_neg (by rw [zi_lt (by omega) (by omega)]; omega)]
theorem latestOf_s {M : PM} {C : Cal} {S : Sta} {w b : Nat} (hc : WFC C) (hw : WFS C S) (c : CalM M C) (st : StaM M C S) (hk : w < kN S) (hb : b ≤ 1000000000) : ∃ r, F_X11_latestOf_99 M (zi w) (zi ((b : Int) - 1)) = rI (zi r) M ∧ NbR (fd C (kL S w) 0) (kD S w) b 0 r := by
  have hn := hc.1.1
  have hp2 := p2 hn
  have h8 := hw.2.2.1.2.2
  obtain ⟨w1, w2⟩ := hw.2.2.2.2.2 w hk
  obtain ⟨s1, s2⟩ := st.2.2.2.2 w hk
  have hT : tA C (kL S w) ≤ 100000 := Nat.le_trans (Nat.le_of_dvd (t4_pos hc) (tA_dvd C (kL S w) _ (Nat.le_refl _))) (t4_le hc)
  have e0 : F_X11_latestOf_99 M (zi w) (zi ((b : Int) - 1)) = F_X11_latestOf_99_29 FUEL M (zi w) (zi (kD S w)) (zi ((0 : Nat) : Int)) (zi (tA C (kL S w))) (zi ((b : Int) - 1)) := by
    unfold F_X11_latestOf_99
    have t1 := turnOf_s hc c (show kL S w < 4096 by omega)
    have s1' : mG M 121 (zi (w : Int)).toNatClampNeg (0 : Int32).toNatClampNeg = zi (kD S w) := by rw [zi_natN (by omega)]; exact s1
    have s2' : mG M 121 (zi (w : Int)).toNatClampNeg (1 : Int32).toNatClampNeg = zi (kL S w) := by rw [zi_natN (by omega)]; exact s2
    rw [s1', s2', if_pos (zi_ixT (by omega) (by omega)), if_pos ⟨by rw [zi_natN (by omega)]; omega, by decide⟩, lt_z, if_pos (zi_ixT (by omega) (by omega)), if_pos ⟨by rw [zi_natN (by omega)]; omega, by decide⟩, t1, cI_s]
    rfl
  rw [e0]
  generalize hLg : kL S w = L at *
  generalize hNg : kD S w = n at *
  have s2' : mG M 121 (zi (w : Int)).toNatClampNeg (1 : Int32).toNatClampNeg = zi L := by rw [zi_natN (by omega)]; exact s2
  refine loopS (σ := Nat × Nat × Nat) (fun f s => F_X11_latestOf_99_29 f M (zi w) (zi (s.2.1 : Nat)) (zi (s.2.2 : Nat)) (zi (tA C L)) (zi ((s.1 : Int) - 1))) (fun o => ∃ r, o = rI (zi r) M ∧ NbR (fd C L 0) n b 0 r) (fun q s => q = s.1 ∧ s.1 ≤ b ∧ 1 ≤ s.2.1 ∧ s.2.1 ≤ n ∧ fb_ct (fd C L 0) b + s.2.1 = fb_ct (fd C L 0) s.1 + n ∧ s.2.2 ≤ tA C L + 10 ∧ ∀ i, i < s.2.2 → fd C L 0 (s.1 + i) = false) ?_ b (b, n, 0) FUEL ⟨rfl, Nat.le_refl _, w1.1, Nat.le_refl _, rfl, Nat.zero_le _, fun i hi => absurd hi (Nat.not_lt_zero i)⟩ (FUEL_gt (by omega))
  rintro f q ⟨e, m, z⟩ ⟨i1, i2, i3, i4, i5, i6, i7⟩
  simp only at i1 i2 i3 i4 i5 i6 i7
  show (∃ r, F_X11_latestOf_99_29 (f + 1) M (zi w) (zi (m : Nat)) (zi (z : Nat)) (zi (tA C L)) (zi ((e : Int) - 1)) = rI (zi r) M ∧ _) ∨ _
  rw [F_X11_latestOf_99_29]
  by_cases q1 : e = 0
  · left
    refine ⟨-1, ?_, Or.inr ⟨rfl, fun k hk => ?_⟩⟩
    · rw [if_pos (by rw [show (0 : Int32) = zi 0 from rfl, zi_lt (by omega) (by omega)]; omega)]
      rfl
    · have := ct_gt_of (p := fd C L 0) (x := k) (y := e) (by have := hk.2; omega)
      omega
  · have hfr := isFree_s (d := e - 1) hc c (show L < 4096 by omega) (by omega)
    rw [if_neg (by rw [show (0 : Int32) = zi 0 from rfl, zi_lt (by omega) (by omega)]; omega), if_pos (zi_ixT (by omega) (by omega)), if_pos ⟨by rw [zi_natN (by omega)]; omega, by decide⟩, s2', zc (show (e : Int) - 1 = ((e - 1 : Nat) : Int) by omega), hfr, cI_s]
    unfold F_X11_latestOf_99_79
    cases hf : fd C L 0 (e - 1) with
    | false =>
      have hct := ctF (p := fd C L 0) hf
      rw [show e - 1 + 1 = e by omega] at hct
      have run : ∀ i, i < z + 1 → fd C L 0 (e - 1 + i) = false := fun i hi => by
        by_cases q5 : i = 0
        · rw [q5]; exact hf
        · rw [show e - 1 + i = e + (i - 1) by omega]
          exact i7 (i - 1) (by omega)
      rw [if_pos (by decide), show (-1 : Int32) = zi (-1) from rfl, show (1 : Int32) = zi 1 from rfl, show (10 : Int32) = zi 10 from rfl, zi_add, zi_add, lt_z]
      by_cases q3 : z + 1 ≤ tA C L + 10
      · right
        refine ⟨e - 1, (e - 1, m, z + 1), by omega, ⟨rfl, by show e - 1 ≤ b; omega, i3, i4, by show fb_ct (fd C L 0) b + m = fb_ct (fd C L 0) (e - 1) + n; omega, q3, run⟩, ?_⟩
        rw [if_pos (by rw [zi_le (by omega) (by omega)]; omega), zi_add, lt_z, zc (show (z : Int) + 1 = ((z + 1 : Nat) : Int) by omega), zc (show ((e - 1 : Nat) : Int) + -1 = ((e - 1 : Nat) : Int) - 1 by omega)]
      · left
        have hnev := fd_never (L := L) (O := 0) (a := e - 1) (n := z + 1) hc (by rw [tB_0]; omega) run
        refine ⟨-1, ?_, Or.inr ⟨rfl, fun k hk => by have := hk.1; rw [hnev] at this; exact absurd this (by decide)⟩⟩
        rw [if_neg (by rw [zi_le (by omega) (by omega)]; omega)]
    | true =>
      have hct := ctT (p := fd C L 0) hf
      rw [show e - 1 + 1 = e by omega] at hct
      rw [if_neg (by decide), show (-1 : Int32) = zi (-1) from rfl, zi_add, lt_z]
      by_cases q3 : m = 1
      · left
        refine ⟨((e - 1 : Nat) : Int), ?_, Or.inl ⟨e - 1, ⟨hf, by omega⟩, Nat.zero_le _, rfl⟩⟩
        rw [if_pos (by rw [q3]; decide)]
      · right
        refine ⟨e - 1, (e - 1, m - 1, 0), by omega, ⟨rfl, by show e - 1 ≤ b; omega, by show 1 ≤ m - 1; omega, by show m - 1 ≤ n; omega, by show fb_ct (fd C L 0) b + (m - 1) = fb_ct (fd C L 0) (e - 1) + n; omega, Nat.zero_le _, fun i hi => absurd hi (Nat.not_lt_zero i)⟩, ?_⟩
        rw [if_neg (by rw [show (0 : Int32) = zi 0 from rfl, zi_eq (by omega) (by omega)]; omega), zi_add, lt_z, zc (show (m : Int) + -1 = ((m - 1 : Nat) : Int) by omega), zc (show ((e - 1 : Nat) : Int) + -1 = ((e - 1 : Nat) : Int) - 1 by omega)]
        rfl
