/-! the survey of the days that fit -/
def frN (p : Nat → Bool) (n : Nat) : Int := if fa_first p n < n then (fa_first p n : Int) else -1
def lsN (p : Nat → Bool) : Nat → Int
  | 0 => -1
  | n + 1 => if p n = true then (n : Int) else lsN p n
theorem frN_rng (p : Nat → Bool) (n : Nat) : -1 ≤ frN p n ∧ frN p n < (n : Int) + 1 := by
  unfold frN
  split <;> omega
theorem frN_0 {p : Nat → Bool} {n : Nat} (h : frN p n = -1) : ∀ j, j < n → p j = false := by
  unfold frN at h
  by_cases e : fa_first p n < n
  · rw [if_pos e] at h; omega
  · intro j hj
    exact fa_first_no p n j (by omega)
theorem frN_none {p : Nat → Bool} {n : Nat} (h : ∀ j, j < n → p j = false) : frN p n = -1 := by
  unfold frN
  rw [first_none h, if_neg (by omega)]
theorem frN_at {p : Nat → Bool} {n i : Nat} (hi : i < n) (hp : p i = true) (hb : ∀ j, j < i → p j = false) : frN p n = i := by
  unfold frN
  rw [first_eq hi hp hb, if_pos hi]
theorem frN_keep {p : Nat → Bool} {n m : Nat} (h : frN p n ≠ -1) (hm : n ≤ m) : frN p m = frN p n := by
  unfold frN at h
  by_cases e : fa_first p n < n
  · have h1 := fa_first_yes p n e
    have h2 := fa_first_no p n
    rw [frN_at (i := fa_first p n) (by omega) h1 h2, frN_at e h1 h2]
  · rw [if_neg e] at h; omega
theorem lsN_none {p : Nat → Bool} : ∀ {n m : Nat}, n ≤ m → (∀ j, n ≤ j → j < m → p j = false) → lsN p m = lsN p n
  | n, 0, h, _ => by
    have : n = 0 := by omega
    subst this; rfl
  | n, m + 1, h, hp => by
    by_cases e : n = m + 1
    · subst e; rfl
    · rw [lsN, if_neg (by rw [hp m (by omega) (by omega)]; decide)]
      exact lsN_none (by omega) (fun j h1 h2 => hp j h1 (by omega))
theorem lsN_at {p : Nat → Bool} {n i : Nat} (hi : i < n) (hp : p i = true) (hb : ∀ j, i < j → j < n → p j = false) : lsN p n = i := by
  rw [lsN_none (n := i + 1) (by omega) (fun j h1 h2 => hb j (by omega) h2), lsN, if_pos hp]
theorem note57 {M : PM} {C : Cal} {x : Int64} {t : Int} (hc : WFC C) (c : CalC M C) (ht : -1000000000 ≤ t ∧ t ≤ 1000000000) : ∃ N, F_X5_note_93_57 FUEL M (zi t) x (zi 0) = rV N ∧ Sam M N ∧ (∀ k, mI N 93 k = mI M 93 k) ∧ ∀ l, l < cN C → mA N 94 l = mA M 94 l + zi (fb_ct (fun i => lb x i && hb (cW C l) (cD C l) (t + i)) 64) := by
  have hn := hc.1.1
  have h := loopS (σ := Nat × PM) (fun f s => F_X5_note_93_57 f s.2 (zi t) x (zi (s.1 : Nat))) (fun o => ∃ N, o = rV N ∧ Sam M N ∧ (∀ k, mI N 93 k = mI M 93 k) ∧ ∀ l, l < cN C → mA N 94 l = mA M 94 l + zi (fb_ct (fun i => lb x i && hb (cW C l) (cD C l) (t + i)) 64)) (fun r s => s.1 ≤ cN C ∧ r = cN C - s.1 ∧ Sam M s.2 ∧ (∀ k, mI s.2 93 k = mI M 93 k) ∧ (∀ l, l < s.1 → mA s.2 94 l = mA M 94 l + zi (fb_ct (fun i => lb x i && hb (cW C l) (cD C l) (t + i)) 64)) ∧ ∀ l, s.1 ≤ l → mA s.2 94 l = mA M 94 l) (fun f r s hI => by
    obtain ⟨k, N⟩ := s
    obtain ⟨h1, h2, h3, h4, h5, h6⟩ := hI
    simp only at h1 h2 h3 h4 h5 h6
    have cn := c.sm h3.1
    have a1 := cn.1.1
    by_cases hk : k = cN C
    · left
      subst hk
      refine ⟨N, ?_, h3, h4, h5⟩
      show F_X5_note_93_57 (f + 1) N (zi t) x (zi (cN C)) = _
      rw [F_X5_note_93_57]
      simp (disch := omega) only [lt_z, cI_s, cJ_s, cV_s, bI_s, bI_e, bV_s, bV_e, zl, zi_neg, zi_add, zi_sub, zi_mul, ↓reduceIte, zb0, zb1, bb_and, bb_t, bb_f, zi_ltT, zi_ltF, zi_leT, zi_leF, zi_eqT, zi_eqF, zi_ixT, zi_nat, Int.toNat_natCast, Int.reduceToNat, ltNT, and_self, a1]
    · right
      have hkn : k < cN C := by omega
      obtain ⟨y, y1, y2⟩ := heldFrom_s (M := N) (l := k) (t := t) hc cn.1 hkn (by omega)
      have e2 : fb_ct (lb (x &&& y)) 64 = fb_ct (fun i => lb x i && hb (cW C k) (cD C k) (t + i)) 64 := fb_ct_cong (fun i hi => by rw [lb_and, y2 i hi])
      refine ⟨cN C - (k + 1), (k + 1, sA N 94 k (mA M 94 k + zi (fb_ct (fun i => lb x i && hb (cW C k) (cD C k) (t + i)) 64))), by omega, ⟨by show k + 1 ≤ cN C; omega, rfl, Sam.a 94 k _ (by decide) h3, h4, fun l hl => ?_, fun l hl => ?_⟩, ?_⟩
      · show (sA N 94 k _).2.2.1 94 l = _
        by_cases q : l = k
        · rw [q, rA_at]
        · rw [rA_nk q]
          exact h5 l (by have : l < k + 1 := hl; omega)
      · show (sA N 94 k _).2.2.1 94 l = _
        have : k + 1 ≤ l := hl
        rw [rA_nk (by omega)]
        exact h6 l (by omega)
      · show F_X5_note_93_57 (f + 1) N (zi t) x (zi k) = F_X5_note_93_57 f (sA N 94 k (mA M 94 k + zi (fb_ct (fun i => lb x i && hb (cW C k) (cD C k) (t + i)) 64))) (zi t) x (zi ((k + 1 : Nat)))
        rw [F_X5_note_93_57, y1, cJ_s, bitCount_lb, cI_s, e2, zc (show ((k + 1 : Nat) : Int) = k + 1 by omega), ← h6 k (Nat.le_refl _)]
        generalize fb_ct (fun i => lb x i && hb (cW C k) (cD C k) (t + i)) 64 = n1
        simp (disch := omega) only [lt_z, zl, ↓reduceIte, zi_ltT, zi_ltF, zi_leT, zi_leF, zi_eqT, zi_eqF, zi_ixT, zi_nat, Int.toNat_natCast, Int.reduceToNat, ltNT, and_self, a1]
        rw [zi_add]) (cN C) (0, M) FUEL ⟨Nat.zero_le _, rfl, Sam.rf, fun _ => rfl, fun l hl => absurd hl (Nat.not_lt_zero l), fun _ _ => rfl⟩ (FUEL_gt (by omega))
  exact h
/-- what is known of the survey ahead of day m -/
def Srv (C : Cal) (p : Nat → Bool) (m : Nat) (N : PM) : Prop := mI N 93 3 = zi (fb_ct p m) ∧ mI N 93 4 = zi (frN p m) ∧ mI N 93 5 = zi (lsN p m) ∧ ∀ l, l < cN C → mA N 94 l = zi (fb_ct (fun t => p t && hb (cW C l) (cD C l) (t : Nat)) m)
theorem note_s {M : PM} {C : Cal} {p : Nat → Bool} {x : Int64} {a T : Nat} (hc : WFC C) (c : CalC M C) (ha : a < T) (hT : T ≤ 100000) (hv : Srv C p a M) (hx : ∀ i, i < 64 → lb x i = (p (a + i) && decide ((i : Int) < (T : Int) - a))) (h0 : 0 < fb_ct (lb x) 64) : ∃ N, F_X5_note_93 M (zi a) x = rV N ∧ Sam M N ∧ Srv C p (min (a + 64) T) N := by
  obtain ⟨v1, v2, v3, v4⟩ := hv
  have h64 := fb_ct_le (lb x) 64
  have hr := frN_rng p a
  obtain ⟨j, j1, j2, j3, j4⟩ := nthLowest_s (M := M) (x := x) (n := fb_ct (lb x) 64) (by omega) (Nat.le_refl _)
  have jp : p (a + j) = true ∧ (j : Int) < (T : Int) - a := by rw [hx j j2] at j3; simpa using j3
  have jl : ∀ i, j < i → i < 64 → lb x i = false := fun i h1 h2 => by
    cases hq : lb x i
    · rfl
    · have q2 := ct_lt_of (p := lb x) h2 hq
      have q3 := ct_lt_of (p := lb x) (show j < i from h1) j3
      omega
  have pz : ∀ i, i < 64 → a + i < min (a + 64) T → p (a + i) = lb x i := fun i h1 h2 => by
    rw [hx i h1, decide_eq_true (by omega), Bool.and_true]
  have hls : lsN p (min (a + 64) T) = ((a + j : Nat) : Int) := lsN_at (by omega) jp.1 (fun i h1 h2 => by
    have := pz (i - a) (by omega) (by omega)
    rw [show a + (i - a) = i by omega] at this
    rw [this]
    exact jl _ (by omega) (by omega))
  have hct : fb_ct p a + fb_ct (lb x) 64 = fb_ct p (min (a + 64) T) := by
    have := blk (p := p) (T := T) (a := a) ha
    rw [show min a T = a by omega] at this
    rw [← this, fb_ct_cong hx]
  have hlo := fa_first_le (lb x) 64
  have hlt : fa_first (lb x) 64 < 64 := by
    have := first_lt (p := lb x) j2 j3
    omega
  have hfy := fa_first_yes (lb x) 64 hlt
  have hfn := fa_first_no (lb x) 64
  have hheld : ∀ l, l < cN C → zi (fb_ct (fun t => p t && hb (cW C l) (cD C l) (t : Nat)) a) + zi (fb_ct (fun i => lb x i && hb (cW C l) (cD C l) ((a : Int) + i)) 64) = zi (fb_ct (fun t => p t && hb (cW C l) (cD C l) (t : Nat)) (min (a + 64) T)) := fun l hl => by
    have := blk (p := fun t => p t && hb (cW C l) (cD C l) (t : Nat)) (T := T) (a := a) ha
    rw [show min a T = a by omega] at this
    rw [zi_add, ← Int.natCast_add, ← this, fb_ct_cong (p := fun i => lb x i && hb (cW C l) (cD C l) ((a : Int) + i)) (q := fun i => (p (a + i) && hb (cW C l) (cD C l) ((a + i : Nat) : Int)) && decide ((i : Int) < (T : Int) - a)) (fun i hi => by
      rw [hx i hi, ← Int.natCast_add]
      cases p (a + i) <;> cases decide ((i : Int) < (T : Int) - a) <;> cases hb (cW C l) (cD C l) ((a + i : Nat) : Int) <;> rfl)]
  have key : ∀ N1 : PM, Sam M N1 → mI N1 93 3 = zi (fb_ct p (min (a + 64) T)) → (∀ l, mA N1 94 l = mA M 94 l) → ∃ N, F_X5_note_93_39 N1 (zi a) x (zi (fb_ct (lb x) 64)) (zi (frN p (min (a + 64) T))) = rV N ∧ Sam M N ∧ Srv C p (min (a + 64) T) N := by
    intro N1 s1 s2 s3
    obtain ⟨j', g1, g2, g3, g4⟩ := nthLowest_s (M := sI N1 93 4 (zi (frN p (min (a + 64) T)))) (x := x) (n := fb_ct (lb x) 64) (by omega) (Nat.le_refl _)
    have ejj : j' = j := fb_ct_kth_one g3 j3 (by omega)
    subst ejj
    have s5 : Sam M (sI (sI N1 93 4 (zi (frN p (min (a + 64) T)))) 93 5 (zi a + zi (j' : Nat))) := Sam.i 93 5 _ (by decide) (Sam.i 93 4 _ (by decide) s1)
    obtain ⟨N, n1, n2, n3, n4⟩ := note57 (x := x) (t := (a : Int)) hc (c.sm s5.1) (by omega)
    refine ⟨N, ?_, s5.tr n2, ?_, ?_, ?_, fun l hl => ?_⟩
    · unfold F_X5_note_93_39
      rw [g1, cI_s]
      exact n1
    · rw [n3 3]
      exact s2
    · rw [n3 4]
      rfl
    · rw [n3 5, hls]
      show (sI (sI N1 93 4 (zi (frN p (min (a + 64) T)))) 93 5 (zi a + zi (j' : Nat))).1 93 5 = _
      rw [rI_at, zi_add, ← Int.natCast_add]
    · rw [n4 l hl]
      show mA N1 94 l + _ = _
      rw [s3 l, v4 l hl]
      exact hheld l hl
  have e3 : mI M 93 3 + zi (fb_ct (lb x) 64) = zi (fb_ct p (min (a + 64) T)) := by rw [v1, zi_add, ← Int.natCast_add, hct]
  unfold F_X5_note_93
  rw [bitCount_lb, cI_s, e3]
  have s1 : Sam M (sI M 93 3 (zi (fb_ct p (min (a + 64) T)))) := Sam.i 93 3 _ (by decide) Sam.rf
  obtain ⟨N, k1, k2⟩ := key (sI M 93 3 (zi (fb_ct p (min (a + 64) T)))) s1 rfl (fun _ => rfl)
  refine ⟨N, ?_, k2⟩
  have e4 : mI (sI M 93 3 (zi (fb_ct p (min (a + 64) T)))) 93 4 = zi (frN p a) := v2
  rw [e4, show (-1 : Int32) = zi (-1) from rfl, lowest_s, cI_s]
  by_cases e : frN p a = -1
  · have pn := frN_0 e
    have e5 : frN p (min (a + 64) T) = ((a + fa_first (lb x) 64 : Nat) : Int) := by
      have hq : lb x (fa_first (lb x) 64) = true := hfy
      rw [hx _ hlt] at hq
      have hq2 : p (a + fa_first (lb x) 64) = true ∧ ((fa_first (lb x) 64 : Nat) : Int) < (T : Int) - a := by simpa using hq
      refine frN_at (by omega) hq2.1 (fun i hi => ?_)
      by_cases q : i < a
      · exact pn i q
      · have := pz (i - a) (by omega) (by omega)
        rw [show a + (i - a) = i by omega] at this
        rw [this]
        exact hfn _ (by omega)
    rw [e, if_pos rfl, zi_add, ← Int.natCast_add, ← e5]
    exact k1
  · rw [if_neg (by rw [zi_eq (by omega) (by omega)]; exact e), ← frN_keep e (show a ≤ min (a + 64) T by omega)]
    exact k1
