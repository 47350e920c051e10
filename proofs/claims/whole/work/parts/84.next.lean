/-! next -/
/-- the wish holds on day d -/
def wd (C : Cal) (S : Sta) (W : Wsh) (d : Nat) : Bool := wsB C S W (d : Int) (tO C (d : Int))
/-- r is the first day from a on up to the last that has g; -1 without -/
def Fst (g : Nat → Bool) (a : Nat) (r : Int) : Prop := (∃ k : Nat, a + k ≤ 999999999 ∧ g (a + k) = true ∧ (∀ j, j < k → g (a + j) = false) ∧ r = ((a + k : Nat) : Int)) ∨ (r = -1 ∧ ∀ k : Nat, a + k ≤ 999999999 → g (a + k) = false)
theorem Fst_one {g : Nat → Bool} {a : Nat} {r r' : Int} (h : Fst g a r) (h' : Fst g a r') : r = r' := by
  rcases h with ⟨k, k1, k2, k3, k4⟩ | ⟨k1, k2⟩
  · rcases h' with ⟨j, j1, j2, j3, j4⟩ | ⟨j1, j2⟩
    · rcases Nat.lt_trichotomy k j with q | q | q
      · rw [j3 k q] at k2; exact absurd k2 (by decide)
      · rw [k4, j4, q]
      · rw [k3 j q] at j2; exact absurd j2 (by decide)
    · rw [j2 k k1] at k2; exact absurd k2 (by decide)
  · rcases h' with ⟨j, j1, j2, j3, j4⟩ | ⟨j1, j2⟩
    · rw [k2 j j1] at j2; exact absurd j2 (by decide)
    · rw [k1, j1]
theorem atm_per {C : Cal} {S : Sta} {W : Wsh} {k : Nat} {d t : Int} (hv : WFW C W) (hk : k < hN W) (h5 : hS W k < 5) : atm C S W k (d + (hT C W : Nat)) (t + (hT C W : Nat)) = atm C S W k d t := by
  obtain ⟨v7, v0, v1, v2, v3, v4, -, -⟩ := hv.2.2.2 k hk
  have d5 : t5 C ∣ hT C W := lcs_base _ _ _ _
  have hp : ∀ {w x : Nat} (z : Int), w ∣ hT C W → hb w x (z + (hT C W : Nat)) = hb w x z := fun {w x} z h => by
    have := hb_per (w := w) (d := x) (t := z) (m := 1) h
    rw [Int.mul_one] at this
    exact this
  unfold atm
  by_cases e0 : hS W k = 0
  · rw [if_pos e0, if_pos e0, hp _ (Nat.dvd_trans (w_dvd5 (v0 e0)) d5)]
  · rw [if_neg e0, if_neg e0]
    by_cases e1 : hS W k = 1
    · rw [if_pos e1, if_pos e1]
      have : hcN (cW C) (cD C) (cN C) (t + (hT C W : Nat)) = hcN (cW C) (cD C) (cN C) t := fb_ct_cong (fun l hl => hp _ (Nat.dvd_trans (w_dvd5 hl) d5))
      rw [this]
    · rw [if_neg e1, if_neg e1]
      by_cases e2 : hS W k = 2
      · rw [if_pos e2, if_pos e2, hp _ (lcs_in (p := fun i => decide (hS W i = 2)) hk (decide_eq_true e2))]
      · rw [if_neg e2, if_neg e2]
        by_cases e3 : hS W k = 3
        · rw [if_pos e3, if_pos e3, show t + ((hT C W : Nat) : Int) + (aS S (hA W k) (hB W k) : Int) = t + (aS S (hA W k) (hB W k) : Int) + ((hT C W : Nat) : Int) by omega, hp _ (Nat.dvd_trans (w_dvd5 (v3 e3).2) d5)]
        · rw [if_neg e3, if_neg e3]
          rw [hp _ (Nat.dvd_trans (o_dvd5 (v4 (by omega))) d5)]
theorem ev_per {C : Cal} {S : Sta} {W : Wsh} {d t : Int} (hv : WFW C W) : ∀ k, k ≤ hN W → ∀ j, evS C S W (d + (hT C W : Nat)) (t + (hT C W : Nat)) k j = evS C S W d t k j
  | 0, _, _ => rfl
  | k + 1, hk, j => by
    have ih := ev_per (S := S) (d := d) (t := t) hv k (by omega)
    rw [evS, evS]
    by_cases q5 : hS W k < 5
    · rw [if_pos q5, if_pos q5, atm_per hv (by omega) q5, ih]
    · rw [if_neg q5, if_neg q5, ih, ih, ih]
theorem tO_set2 {C : Cal} {d : Nat} (hd : ∀ i, i < cK C → cS C i < d) (n : Nat) : tO C ((d + n : Nat) : Int) = tO C (d : Int) + n := by
  unfold tO
  rw [fb_ct_cong (q := fun i => decide ((cS C i : Int) < (d : Int))) (fun j hj => decide_eq_decide.mpr (by
    have := hd j hj
    omega))]
  omega
theorem wd_per {C : Cal} {S : Sta} {W : Wsh} {d : Nat} (hv : WFW C W) (hd : ∀ i, i < cK C → cS C i < d) : wd C S W (d + hT C W) = wd C S W d := by
  unfold wd wsB
  rw [tO_set2 hd, show ((d + hT C W : Nat) : Int) = (d : Int) + (hT C W : Nat) from Int.natCast_add _ _]
  split
  · rfl
  · exact ev_per hv _ (Nat.le_refl _) 0
theorem per2 {g : Nat → Bool} {T a : Nat} (hT : 0 < T) (hg : ∀ d, a ≤ d → g (d + T) = g d) (h : ∀ i, i < T → g (a + i) = false) : ∀ k, a ≤ k → g k = false := by
  intro k hk
  have key : ∀ q r, r < T → g (a + r + T * q) = false := by
    intro q
    induction q with
    | zero => intro r hr; rw [Nat.mul_zero, Nat.add_zero]; exact h r hr
    | succ q ih =>
      intro r hr
      rw [Nat.mul_succ, ← Nat.add_assoc, hg _ (by omega)]
      exact ih r hr
  have := key ((k - a) / T) ((k - a) % T) (Nat.mod_lt _ hT)
  have e := Nat.mod_add_div (k - a) T
  rw [show a + (k - a) % T + T * ((k - a) / T) = k by omega] at this
  exact this
theorem hT_pos {C : Cal} {W : Wsh} (hc : WFC C) (hv : WFW C W) : 0 < hT C W := by
  have hb : ∀ n, n ≤ hN W → 0 < lcs (t5 C) (fun i => decide (hS W i = 2)) (hA W) n := by
    intro n
    induction n with
    | zero => intro _; exact t5_pos hc
    | succ n ih =>
      intro hn
      have h1 := ih (by omega)
      rw [lcs]
      by_cases e : hS W n = 2
      · rw [if_pos (decide_eq_true e)]
        obtain ⟨-, -, -, v2, -⟩ := hv.2.2.2 n (by omega)
        exact Nat.lcm_pos h1 (by have := v2 e; omega)
      · rw [if_neg (by rw [decide_eq_false e]; decide)]
        exact h1
  exact hb _ (Nat.le_refl _)
theorem settled_s {M : PM} {C : Cal} (hc : WFC C) (c : CalC M C) : ∃ s : Nat, F_X0_settledDay_3 M = rI (zi s) M ∧ s ≤ 100000 ∧ ∀ i, i < cK C → cS C i < s := by
  have hK := hc.1.2.2.2
  have hk := c.2.2.2.1.2.1
  have hs := c.2.2.2.2
  unfold F_X0_settledDay_3
  refine loopS (σ := Nat × Nat) (fun f s => F_X0_settledDay_3_4 f M (zi (s.2 : Nat)) (zi (s.1 : Nat))) (fun o => ∃ s : Nat, o = rI (zi s) M ∧ s ≤ 100000 ∧ ∀ i, i < cK C → cS C i < s) (fun r s => s.1 ≤ cK C ∧ r = cK C - s.1 ∧ s.2 ≤ 100000 ∧ ∀ i, i < s.1 → cS C i < s.2) ?_ (cK C) (0, 0) FUEL ⟨Nat.zero_le _, rfl, Nat.zero_le _, fun i hi => absurd hi (Nat.not_lt_zero i)⟩ (FUEL_gt (by omega))
  rintro f r ⟨i, z⟩ ⟨h1, h2, h3, h4⟩
  simp only at h1 h2 h3 h4
  by_cases hi : i = cK C
  · left
    subst hi
    refine ⟨z, ?_, h3, h4⟩
    show F_X0_settledDay_3_4 (f + 1) M (zi z) (zi (cK C)) = _
    rw [F_X0_settledDay_3_4]
    simp (disch := omega) only [lt_z, cI_s, cJ_s, cV_s, bI_s, bI_e, bV_s, bV_e, zl, zi_neg, zi_add, zi_sub, zi_mul, ↓reduceIte, zb0, zb1, bb_and, bb_t, bb_f, zi_ltT, zi_ltF, zi_leT, zi_leF, zi_eqT, zi_eqF, zi_ixT, zi_nat, Int.toNat_natCast, Int.reduceToNat, ltNT, and_self, hk]
  · right
    have hs2 := hs i (by omega)
    have hS := hc.2.2.2.1 i (by omega)
    refine ⟨cK C - (i + 1), (i + 1, max z (cS C i + 1)), by omega, ⟨by show i + 1 ≤ cK C; omega, rfl, by show max z (cS C i + 1) ≤ 100000; omega, fun j hj => ?_⟩, ?_⟩
    · show cS C j < max z (cS C i + 1)
      by_cases e : j = i
      · subst e; omega
      · have := h4 j (by have : j < i + 1 := hj; omega)
        omega
    · show F_X0_settledDay_3_4 (f + 1) M (zi z) (zi i) = F_X0_settledDay_3_4 f M (zi ((max z (cS C i + 1) : Nat))) (zi ((i + 1 : Nat)))
      rw [F_X0_settledDay_3_4, zc (show ((i + 1 : Nat) : Int) = i + 1 by omega)]
      unfold F_J9_max_7cf53
      by_cases q : z < cS C i + 1
      · rw [show max z (cS C i + 1) = cS C i + 1 by omega, zc (show ((cS C i + 1 : Nat) : Int) = cS C i + 1 by omega)]
        simp (disch := omega) only [lt_z, cI_s, cJ_s, cV_s, bI_s, bI_e, bV_s, bV_e, zl, zi_neg, zi_add, zi_sub, zi_mul, ↓reduceIte, zb0, zb1, bb_and, bb_t, bb_f, zi_ltT, zi_ltF, zi_leT, zi_leF, zi_eqT, zi_eqF, zi_ixT, zi_nat, Int.toNat_natCast, Int.reduceToNat, ltNT, and_self, hk, hs2]
      · rw [show max z (cS C i + 1) = z by omega]
        simp (disch := omega) only [lt_z, cI_s, cJ_s, cV_s, bI_s, bI_e, bV_s, bV_e, zl, zi_neg, zi_add, zi_sub, zi_mul, ↓reduceIte, zb0, zb1, bb_and, bb_t, bb_f, zi_ltT, zi_ltF, zi_leT, zi_leF, zi_eqT, zi_eqF, zi_ixT, zi_nat, Int.toNat_natCast, Int.reduceToNat, ltNT, and_self, hk, hs2]
theorem firstFrom_s {M : PM} {C : Cal} {S : Sta} {W : Wsh} {a : Nat} (hc : WFC C) (hw : WFS C S) (hv : WFW C W) (c : CalC M C) (st : StaC M C S 16) (ws : WisC M C W) (ha : a ≤ 999999999) : ∃ r N, F_X7_firstFrom_76 M (zi a) = rI (zi r) N ∧ Sam M N ∧ Fst (wd C S W) a r := by
  obtain ⟨s, s1, s2, s3⟩ := settled_s hc c
  have hTb := hv.2.1
  have hTp := hT_pos hc hv
  have e0 : F_X7_firstFrom_76 M (zi a) = F_X7_firstFrom_76_27 FUEL M (zi ((min (max a s + hT C W) 999999999 : Nat))) (zi a) := by
    unfold F_X7_firstFrom_76
    rw [s1, cI_s]
    unfold F_J9_max_7cf53 F_J9_min_7cf53
    have a9 := ws.2.2.1
    by_cases q1 : a < s
    · rw [if_pos (by rw [zi_lt (by omega) (by omega)]; omega), cI_s, a9, zi_add]
      by_cases q2 : 999999999 < s + hT C W
      · rw [if_pos (by rw [show (999999999 : Int32) = zi 999999999 from rfl, zi_lt (by omega) (by omega)]; omega), cI_s, show min (max a s + hT C W) 999999999 = 999999999 by omega]
        rfl
      · rw [if_neg (by rw [show (999999999 : Int32) = zi 999999999 from rfl, zi_lt (by omega) (by omega)]; omega), cI_s, show min (max a s + hT C W) 999999999 = s + hT C W by omega, zc (show ((s + hT C W : Nat) : Int) = (s : Int) + (hT C W : Int) from Int.natCast_add _ _)]
    · rw [if_neg (by rw [zi_lt (by omega) (by omega)]; omega), cI_s, a9, zi_add]
      by_cases q2 : 999999999 < a + hT C W
      · rw [if_pos (by rw [show (999999999 : Int32) = zi 999999999 from rfl, zi_lt (by omega) (by omega)]; omega), cI_s, show min (max a s + hT C W) 999999999 = 999999999 by omega]
        rfl
      · rw [if_neg (by rw [show (999999999 : Int32) = zi 999999999 from rfl, zi_lt (by omega) (by omega)]; omega), cI_s, show min (max a s + hT C W) 999999999 = a + hT C W by omega, zc (show ((a + hT C W : Nat) : Int) = (a : Int) + (hT C W : Int) from Int.natCast_add _ _)]
  rw [e0]
  have hb1 : min (max a s + hT C W) 999999999 = 999999999 ∨ min (max a s + hT C W) 999999999 = max a s + hT C W := by omega
  have hb2 : a ≤ min (max a s + hT C W) 999999999 := by omega
  have hb3 : min (max a s + hT C W) 999999999 ≤ 999999999 := by omega
  generalize min (max a s + hT C W) 999999999 = e at *
  have h := loopS (σ := Nat × PM) (fun f s => F_X7_firstFrom_76_27 f s.2 (zi e) (zi ((a + s.1 : Nat)))) (fun o => ∃ r N, o = rI (zi r) N ∧ Sam M N ∧ Fst (wd C S W) a r) (fun r s => r = 1000000000 - (a + s.1) ∧ a + s.1 ≤ 1000000000 ∧ Sam M s.2 ∧ ∀ i, i < s.1 → wd C S W (a + i) = false) (fun f r sg hI => by
    obtain ⟨j, N⟩ := sg
    obtain ⟨i1, i2, i3, i4⟩ := hI
    simp only at i1 i2 i3 i4
    have cn := c.sm i3.1
    have sn := st.sm i3.1 (Or.inl rfl)
    have wn := ws.sm i3.1
    show (∃ r N', F_X7_firstFrom_76_27 (f + 1) N (zi e) (zi ((a + j : Nat))) = rI (zi r) N' ∧ _) ∨ _
    by_cases q1 : e < a + j
    · left
      refine ⟨-1, N, ?_, i3, Or.inr ⟨rfl, fun k hk => ?_⟩⟩
      · rw [F_X7_firstFrom_76_27, if_pos (by rw [zi_lt (by omega) (by omega)]; omega)]
        rfl
      · rcases hb1 with h9 | h9
        · exact i4 k (by omega)
        · by_cases q : k < j
          · exact i4 k q
          · refine per2 (g := wd C S W) (T := hT C W) (a := max a s) hTp (fun d hd => wd_per hv (fun i hi => by have := s3 i hi; omega)) (fun i hi => ?_) (a + k) (by omega)
            have := i4 (max a s - a + i) (by omega)
            rw [show a + (max a s - a + i) = max a s + i by omega] at this
            exact this
    · have h0 := tO_nn hc (d := ((a + j : Nat) : Int)) (by omega)
      obtain ⟨g, n1, n2, n3, n4, n5⟩ := stretch_s (d := a + j) hc cn (by omega)
      have t1 := turnsOn_s (d := ((a + j : Nat) : Int)) hc cn.2.2.2.1.2.1 cn.2.2.2.2 (by omega)
      obtain ⟨K, x, x1, x2, x3⟩ := wishFrom_s (d := ((a + j : Nat) : Int)) (t := tO C ((a + j : Nat) : Int)) hc hw hv cn sn wn (by omega) (by omega)
      obtain ⟨y, y1, y2⟩ := low_s (M := K) (b := (g : Int)) (by omega)
      have z2 : ∀ i, i < 64 → lb (x &&& y) i = (wd C S W (a + j + i) && decide (i < g)) := fun i hi => by
        rw [lb_and, x3 i hi, y2 i hi, decide_eq_decide.mpr (show (i : Int) < (g : Int) ↔ i < g by omega)]
        by_cases q : i < g
        · unfold wd
          rw [n5 i q, show ((a + j + i : Nat) : Int) = ((a + j : Nat) : Int) + i by omega]
        · rw [decide_eq_false q, Bool.and_false, Bool.and_false]
      rw [F_X7_firstFrom_76_27, if_neg (by rw [zi_lt (by omega) (by omega)]; omega), n1, cI_s, t1, cI_s, x1, cJ_s, y1, cJ_s, lt_z]
      by_cases q : fb_ct (lb (x &&& y)) 64 = 0
      · right
        refine ⟨1000000000 - (a + (j + g)), (j + g, K), by omega, ⟨rfl, by show a + (j + g) ≤ 1000000000; omega, i3.tr x2, fun i hi => ?_⟩, ?_⟩
        · have hi2 : i < j + g := hi
          by_cases q5 : i < j
          · exact i4 i q5
          · have := fb_ct_zero.mp q (i - j) (by omega)
            rw [z2 _ (by omega), decide_eq_true (by omega), Bool.and_true, show a + j + (i - j) = a + i by omega] at this
            exact this
        · show _ = F_X7_firstFrom_76_27 f K (zi e) (zi ((a + (j + g) : Nat)))
          rw [if_pos (by rw [lb_zero q]; exact lg_cmp_self 0), mx1 n2 n3, cI_s, lt_z, zi_add, zc (show ((a + j : Nat) : Int) + g = ((a + (j + g) : Nat) : Int) by omega)]
      · left
        have hne : ¬ lg_cmp (x &&& y) (0 : Int64) = 0 := fun h9 => by
          have : x &&& y = 0 := by
            unfold lg_cmp at h9
            split at h9
            · exact absurd h9 (by decide)
            · split at h9
              · assumption
              · exact absurd h9 (by decide)
          rw [this] at q
          exact q (fb_ct_zero.mpr (fun k _ => lb_0 k))
        obtain ⟨p, p1, p2⟩ := fb_ct_pos.mp (Nat.pos_of_ne_zero q)
        have hlt : fa_first (lb (x &&& y)) 64 < 64 := by
          have := first_lt (p := lb (x &&& y)) p1 p2
          omega
        have f1 := fa_first_yes (lb (x &&& y)) 64 hlt
        have f2 := fa_first_no (lb (x &&& y)) 64
        have l1 := lowest_s (M := K) (x &&& y)
        generalize fa_first (lb (x &&& y)) 64 = m at *
        rw [z2 m hlt] at f1
        have f3 : wd C S W (a + j + m) = true ∧ m < g := by simpa using f1
        refine ⟨((a + (j + m) : Nat) : Int), K, ?_, i3.tr x2, Or.inl ⟨j + m, by omega, by rw [show a + (j + m) = a + j + m by omega]; exact f3.1, fun i hi => ?_, rfl⟩⟩
        · rw [if_neg hne, l1, cI_s, zi_add, zc (show ((a + j : Nat) : Int) + m = ((a + (j + m) : Nat) : Int) by omega)]
        · by_cases q5 : i < j
          · exact i4 i q5
          · have := f2 (i - j) (by omega)
            rw [z2 _ (by omega), decide_eq_true (by omega), Bool.and_true, show a + j + (i - j) = a + i by omega] at this
            exact this) (1000000000 - a) (0, M) FUEL ⟨rfl, by show a + 0 ≤ 1000000000; omega, Sam.rf, fun i hi => absurd hi (Nat.not_lt_zero i)⟩ (FUEL_gt (by omega))
  exact h
