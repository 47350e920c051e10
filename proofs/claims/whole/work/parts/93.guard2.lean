/-! guard, the rest -/
def Gd (C : Cal) (a b : Nat) (r : Int) : Prop := (∃ w t0, (2 ≤ w ∧ w ≤ 24) ∧ wP C a b w t0 ∧ (∀ v, w < v → v ≤ 24 → ∀ t, ¬ wP C a b v t) ∧ r = ((100 * w + t0 % w : Nat) : Int)) ∨ (r = -1 ∧ ∀ w, 2 ≤ w → w ≤ 24 → ∀ t, ¬ wP C a b w t)
theorem Gd_one {C : Cal} {a b : Nat} {r s : Int} (h : Gd C a b r) (g : Gd C a b s) : r = s := by
  rcases h with ⟨w, t, h1, h2, h3, h4⟩ | ⟨h1, h2⟩
  · rcases g with ⟨v, u, g1, g2, g3, g4⟩ | ⟨g1, g2⟩
    · have : w = v := by
        rcases Nat.lt_trichotomy w v with q | q | q
        · exact absurd g2 (h3 v q g1.2 u)
        · exact q
        · exact absurd h2 (g3 w q h1.2 t)
      subst this
      have := h2.2.2.2 u g2.2.1 g2.2.2.1
      omega
    · exact absurd h2 (g2 w h1.1 h1.2 t)
  · rcases g with ⟨v, u, g1, g2, g3, g4⟩ | ⟨g1, g2⟩
    · exact absurd g2 (h2 v g1.1 g1.2 u)
    · omega
theorem guardC {M : PM} {C : Cal} {a b : Nat} (hc : WFC C) (c : CalC M C) (ha : a < cN C) (hb2 : b < cN C) : ∃ r, F_X10_guard_0_9 FUEL M (zi a) (zi b) (zi 24) = rI (zi r) M ∧ Gd C a b r := by
  refine loopS (σ := Nat) (fun f s => F_X10_guard_0_9 f M (zi a) (zi b) (zi s)) (fun o => ∃ r, o = rI (zi r) M ∧ Gd C a b r) (fun r s => r = s ∧ 1 ≤ s ∧ s ≤ 24 ∧ ∀ v, s < v → v ≤ 24 → ∀ t, ¬ wP C a b v t) ?_ 24 24 FUEL ⟨rfl, by decide, by decide, fun v h1 h2 => absurd h1 (by omega)⟩ (FUEL_gt (by omega))
  rintro f r s ⟨i1, i2, i3, i4⟩
  show (∃ r, F_X10_guard_0_9 (f + 1) M (zi a) (zi b) (zi s) = rI (zi r) M ∧ _) ∨ _
  by_cases q : s < 2
  · left
    refine ⟨-1, ?_, Or.inr ⟨rfl, fun w h1 h2 => i4 w (by omega) h2⟩⟩
    rw [F_X10_guard_0_9, if_pos (by rw [show (2 : Int32) = zi 2 from rfl, zi_lt (by omega) (by omega)]; omega)]
    rfl
  · obtain ⟨x, x1, x2⟩ := watch_s hc c ha hb2 (w := s) (by omega)
    rw [F_X10_guard_0_9, if_neg (by rw [show (2 : Int32) = zi 2 from rfl, zi_lt (by omega) (by omega)]; omega), x1, cI_s, show (-1 : Int32) = zi (-1) from rfl]
    rcases x2 with ⟨t0, y1, y2⟩ | ⟨y1, y2⟩
    · left
      have := Nat.mod_lt t0 (show 0 < s by omega)
      refine ⟨((100 * s + t0 % s : Nat) : Int), ?_, Or.inl ⟨s, t0, by omega, y1, i4, rfl⟩⟩
      rw [if_neg (by rw [zi_eq (by omega) (by omega)]; omega), show (100 : Int32) = zi 100 from rfl, zi_mul, zi_add, zc (show 100 * (s : Int) + x = ((100 * s + t0 % s : Nat) : Int) by omega)]
    · right
      refine ⟨s - 1, s - 1, by omega, ⟨rfl, by omega, by omega, fun v h1 h2 => ?_⟩, ?_⟩
      · by_cases q2 : v = s
        · rw [q2]; exact y2
        · exact i4 v (by omega) h2
      · rw [if_pos (by rw [y1]), lt_z, zi_add, zc (show (s : Int) + -1 = ((s - 1 : Nat) : Int) by omega)]
theorem dvd_sub_mod {w f t : Nat} (h : f ≤ t) : w ∣ t - f ↔ t % w = f % w := by
  constructor
  · rintro ⟨k, hk⟩
    have : t = f + w * k := by omega
    rw [this, Nat.add_mul_mod_self_left]
  · intro e
    exact Nat.dvd_of_mod_eq_zero (Nat.sub_mod_eq_zero_of_mod_eq e)
def gF (C : Cal) (a b i f g : Nat) : Prop := f < i ∧ thB C a b f = true ∧ (∀ t, t < f → thB C a b t = false) ∧ 0 < g ∧ g ≤ t4 C ∧ ∀ w, w ∣ g ↔ w ∣ t4 C ∧ ∀ t, t < i → thB C a b t = true → t % w = f % w
theorem thB_per {C : Cal} {a b t k : Nat} : thB C a b (t + Nat.lcm (cW C a) (cW C b) * k) = thB C a b t := by
  unfold thB
  rw [show ((t + Nat.lcm (cW C a) (cW C b) * k : Nat) : Int) = (t : Int) + (Nat.lcm (cW C a) (cW C b) : Int) * (k : Int) by rw [Int.natCast_add, Int.natCast_mul], hb_per (Nat.dvd_lcm_left _ _), hb_per (Nat.dvd_lcm_right _ _)]
theorem thB_mod {C : Cal} {a b t : Nat} : thB C a b (t % Nat.lcm (cW C a) (cW C b)) = thB C a b t := by
  have := thB_per (C := C) (a := a) (b := b) (t := t % Nat.lcm (cW C a) (cW C b)) (k := t / Nat.lcm (cW C a) (cW C b))
  rw [Nat.mod_add_div] at this
  exact this.symm
theorem gF_wP {C : Cal} {a b f g w : Nat} (hc : WFC C) (ha : a < cN C) (hb2 : b < cN C) (h : gF C a b (t4 C) f g) (hw : 2 ≤ w) : (w ∣ g → ∃ t0, wP C a b w t0 ∧ t0 % w = f % w) ∧ (¬ w ∣ g → ∀ t0, ¬ wP C a b w t0) := by
  obtain ⟨h1, h2, h3, h4, h5, h6⟩ := h
  have hmT : Nat.lcm (cW C a) (cW C b) ∣ t4 C := Nat.lcm_dvd (w_dvd4 ha) (w_dvd4 hb2)
  have w1 := hc.2.1 a ha
  have w2 := hc.2.1 b hb2
  have hlp : 0 < Nat.lcm (cW C a) (cW C b) := Nat.lcm_pos (by omega) (by omega)
  have hT := t4_pos hc
  have hle := Nat.le_of_dvd hT hmT
  have hfm := thB_mod (C := C) (a := a) (b := b) (t := f)
  rw [h2] at hfm
  have hlt := Nat.mod_lt f hlp
  have hpr := thB_per (C := C) (a := a) (b := b) (t := f % Nat.lcm (cW C a) (cW C b)) (k := 1)
  rw [hfm, Nat.mul_one] at hpr
  have hmodT : ∀ t : Nat, thB C a b (t % Nat.lcm (cW C a) (cW C b)) = thB C a b t := fun t => thB_mod
  unfold wP
  generalize Nat.lcm (cW C a) (cW C b) = m at *
  constructor
  · intro hg
    obtain ⟨e1, e2⟩ := (h6 w).mp hg
    have e3 := e2 (f % m) (by omega) hfm
    refine ⟨f % m, ⟨?_, hlt, hfm, fun t h7 h8 => ?_⟩, e3⟩
    · by_cases q : t4 C = m
      · rw [← q]; exact e1
      · have : 2 * m ≤ t4 C := by
          obtain ⟨k, hk⟩ := hmT
          have : 2 ≤ k := by
            rcases Nat.lt_or_ge k 2 with u | u
            · have : k = 0 ∨ k = 1 := by omega
              rcases this with rfl | rfl
              · rw [Nat.mul_zero] at hk; omega
              · rw [Nat.mul_one] at hk; omega
            · exact u
          rw [hk, Nat.mul_comm 2 m]
          exact Nat.mul_le_mul_left m this
        have e4 := e2 (f % m + m) (by omega) hpr
        have e5 := (dvd_sub_mod (w := w) (f := f % m) (t := f % m + m) (by omega)).mpr (by rw [e4, e3])
        rw [Nat.add_sub_cancel_left] at e5
        exact e5
    · rw [e2 t (by omega) h8, e3]
  · rintro hg t0 ⟨e1, e2, e3, e4⟩
    refine hg ((h6 w).mpr ⟨Nat.dvd_trans e1 hmT, fun t h7 h8 => ?_⟩)
    have a1 : ∀ t, thB C a b t = true → t % w = t0 % w := fun t ht => by
      have := e4 (t % m) (Nat.mod_lt t hlp) (by rw [hmodT]; exact ht)
      rw [Nat.mod_mod_of_dvd t e1] at this
      exact this
    rw [a1 t h8, a1 f h2]
theorem zmodN {x w : Nat} (hx : x < 2147483648) (hw : 0 < w ∧ w < 2147483648) : zi x - zi x / zi w * zi w = zi ((x % w : Nat)) := by
  rw [zi_div (by omega) (by omega), zi_mul, zi_sub]
  refine congrArg zi ?_
  rw [Int.natCast_emod, Int.emod_def, Int.mul_comm]
theorem guardM2 {M : PM} {C : Cal} {a b f g : Nat} (hc : WFC C) (ha : a < cN C) (hb2 : b < cN C) (h : gF C a b (t4 C) f g) : ∃ r, F_X11_guard_99_97 FUEL M (zi f) (zi g) (zi 24) = rI (zi r) M ∧ Gd C a b r := by
  have hT := t4_le hc
  have hf := h.1
  have hg := h.2.2.2.2.1
  refine loopS (σ := Nat) (fun n s => F_X11_guard_99_97 n M (zi f) (zi g) (zi s)) (fun o => ∃ r, o = rI (zi r) M ∧ Gd C a b r) (fun r s => r = s ∧ 1 ≤ s ∧ s ≤ 24 ∧ ∀ v, s < v → v ≤ 24 → ∀ t, ¬ wP C a b v t) ?_ 24 24 FUEL ⟨rfl, by decide, by decide, fun v h1 h2 => absurd h1 (by omega)⟩ (FUEL_gt (by omega))
  rintro n r s ⟨i1, i2, i3, i4⟩
  show (∃ r, F_X11_guard_99_97 (n + 1) M (zi f) (zi g) (zi s) = rI (zi r) M ∧ _) ∨ _
  by_cases q : s < 2
  · left
    refine ⟨-1, ?_, Or.inr ⟨rfl, fun w h1 h2 => i4 w (by omega) h2⟩⟩
    rw [F_X11_guard_99_97, if_pos (by rw [show (1 : Int32) = zi 1 from rfl, zi_le (by omega) (by omega)]; omega)]
    rfl
  · have hne : ¬ zi s = 0 := by rw [show (0 : Int32) = zi 0 from rfl, zi_eq (by omega) (by omega)]; omega
    have hml := Nat.mod_lt g (show 0 < s by omega)
    have hml2 := Nat.mod_lt f (show 0 < s by omega)
    have hx := gF_wP hc ha hb2 h (w := s) (by omega)
    rw [F_X11_guard_99_97, if_neg (by rw [show (1 : Int32) = zi 1 from rfl, zi_le (by omega) (by omega)]; omega), if_neg hne, zmodN (by omega) (by omega), zmodN (by omega) (by omega), if_neg hne]
    by_cases q2 : s ∣ g
    · left
      obtain ⟨t0, y1, y2⟩ := hx.1 q2
      refine ⟨((100 * s + t0 % s : Nat) : Int), ?_, Or.inl ⟨s, t0, by omega, y1, i4, rfl⟩⟩
      rw [if_pos (by rw [Nat.mod_eq_zero_of_dvd q2]; rfl), show (100 : Int32) = zi 100 from rfl, zi_mul, zi_add, zc (show 100 * (s : Int) + ((f % s : Nat) : Int) = ((100 * s + t0 % s : Nat) : Int) by omega)]
    · right
      have : g % s ≠ 0 := fun e => q2 (Nat.dvd_of_mod_eq_zero e)
      refine ⟨s - 1, s - 1, by omega, ⟨rfl, by omega, by omega, fun v h1 h2 => ?_⟩, ?_⟩
      · by_cases q3 : v = s
        · rw [q3]; exact hx.2 q2
        · exact i4 v (by omega) h2
      · rw [if_neg (by rw [show (0 : Int32) = zi 0 from rfl, zi_eq (by omega) (by omega)]; omega), lt_z, show (-1 : Int32) = zi (-1) from rfl, zi_add, zc (show (s : Int) + -1 = ((s - 1 : Nat) : Int) by omega)]
theorem gcdStep {C : Cal} {a b i f g : Nat} (h : gF C a b i f g) (ht : thB C a b i = true) : gF C a b (i + 1) f (Nat.gcd g (i - f)) := by
  obtain ⟨h1, h2, h3, h4, h5, h6⟩ := h
  have hd : Nat.gcd g (i - f) ∣ g := Nat.gcd_dvd_left _ _
  refine ⟨by omega, h2, h3, Nat.gcd_pos_of_pos_left _ h4, Nat.le_trans (Nat.le_of_dvd h4 hd) h5, fun w => ?_⟩
  rw [Nat.dvd_gcd_iff, h6, dvd_sub_mod (by omega)]
  constructor
  · rintro ⟨⟨u1, u2⟩, u3⟩
    refine ⟨u1, fun t q1 q2 => ?_⟩
    by_cases q : t = i
    · rw [q]; exact u3
    · exact u2 t (by omega) q2
  · rintro ⟨u1, u2⟩
    exact ⟨⟨u1, fun t q1 q2 => u2 t (by omega) q2⟩, u2 i (by omega) ht⟩
theorem gFno {C : Cal} {a b i f g : Nat} (h : gF C a b i f g) (ht : thB C a b i = false) : gF C a b (i + 1) f g := by
  obtain ⟨h1, h2, h3, h4, h5, h6⟩ := h
  refine ⟨by omega, h2, h3, h4, h5, fun w => ?_⟩
  rw [h6]
  constructor
  · rintro ⟨u1, u2⟩
    refine ⟨u1, fun t q1 q2 => ?_⟩
    by_cases q : t = i
    · rw [q, ht] at q2; exact absurd q2 (by decide)
    · exact u2 t (by omega) q2
  · rintro ⟨u1, u2⟩
    exact ⟨u1, fun t q1 q2 => u2 t (by omega) q2⟩
theorem gF0 {C : Cal} {a b i : Nat} (hc : WFC C) (h : ∀ t, t < i → thB C a b t = false) (ht : thB C a b i = true) : gF C a b (i + 1) i (t4 C) := by
  refine ⟨by omega, ht, h, t4_pos hc, Nat.le_refl _, fun w => ?_⟩
  constructor
  · intro u
    refine ⟨u, fun t q1 q2 => ?_⟩
    by_cases q : t = i
    · rw [q]
    · rw [h t (by omega)] at q2; exact absurd q2 (by decide)
  · rintro ⟨u1, u2⟩
    exact u1
theorem guardM {M : PM} {C : Cal} {a b : Nat} (hc : WFC C) (c : CalM M C) (ha : a < cN C) (hb2 : b < cN C) : ∃ r, F_X11_guard_99_32 FUEL M (zi a) (zi b) (zi (t4 C)) (zi (-1)) (zi (t4 C)) (zi 0) = rI (zi r) M ∧ Gd C a b r := by
  have hT := t4_le hc
  have hTp := t4_pos hc
  refine loopS (σ := Nat × Int × Nat) (fun n s => F_X11_guard_99_32 n M (zi a) (zi b) (zi (t4 C)) (zi s.2.1) (zi s.2.2) (zi s.1)) (fun o => ∃ r, o = rI (zi r) M ∧ Gd C a b r) (fun r s => r = t4 C - s.1 ∧ s.1 ≤ t4 C ∧ ((s.2.1 = -1 ∧ s.2.2 = t4 C ∧ ∀ t, t < s.1 → thB C a b t = false) ∨ ∃ f, s.2.1 = (f : Nat) ∧ gF C a b s.1 f s.2.2)) ?_ (t4 C) (0, -1, t4 C) FUEL ⟨by show t4 C = t4 C - 0; omega, Nat.zero_le _, Or.inl ⟨rfl, rfl, fun t ht => absurd ht (Nat.not_lt_zero t)⟩⟩ (FUEL_gt (by omega))
  rintro n r ⟨i, v, g⟩ ⟨i1, i2, i3⟩
  simp only at i1 i2 i3
  show (∃ r, F_X11_guard_99_32 (n + 1) M (zi a) (zi b) (zi (t4 C)) (zi v) (zi g) (zi i) = rI (zi r) M ∧ _) ∨ _
  by_cases q : i = t4 C
  · left
    rw [F_X11_guard_99_32, if_pos (by rw [zi_le (by omega) (by omega)]; omega), show (-1 : Int32) = zi (-1) from rfl]
    rcases i3 with ⟨e1, e2, e3⟩ | ⟨f, e1, e2⟩
    · refine ⟨-1, by rw [if_pos (by rw [e1])], Or.inr ⟨rfl, fun w _ _ t hw => ?_⟩⟩
      have hmT : Nat.lcm (cW C a) (cW C b) ∣ t4 C := Nat.lcm_dvd (w_dvd4 ha) (w_dvd4 hb2)
      have hle := Nat.le_of_dvd hTp hmT
      have := e3 t (by have := hw.2.1; omega)
      rw [hw.2.2.1] at this
      exact absurd this (by decide)
    · have hf := e2.1
      rw [q] at e2
      rw [if_neg (by rw [zi_eq (by omega) (by omega)]; omega), e1]
      exact guardM2 hc ha hb2 e2
  · right
    have hg : g ≤ t4 C := by
      rcases i3 with ⟨e1, e2, e3⟩ | ⟨f, e1, e2⟩
      · omega
      · exact e2.2.2.2.2.1
    have e := isThief_s (t := (i : Int)) hc c ha hb2 (by omega)
    have tail : ∀ x y, F_X11_guard_99_79 (F_X11_guard_99_32 n) M (zi a) (zi b) (zi (t4 C)) x y (zi i) = F_X11_guard_99_32 n M (zi a) (zi b) (zi (t4 C)) x y (zi ((i + 1 : Nat))) := fun x y => by
      unfold F_X11_guard_99_79
      rw [lt_z, show (1 : Int32) = zi 1 from rfl, zi_add, zc (show (i : Int) + 1 = ((i + 1 : Nat) : Int) by omega)]
    rw [F_X11_guard_99_32, if_neg (by rw [zi_le (by omega) (by omega)]; omega), e, cI_s]
    change ∃ r' s', _ ∧ _ ∧ (if bb (thB C a b i) = 0 then _ else _) = _
    cases ht : thB C a b i with
    | false =>
      refine ⟨t4 C - (i + 1), (i + 1, v, g), by omega, ⟨rfl, by show i + 1 ≤ t4 C; omega, ?_⟩, ?_⟩
      · rcases i3 with ⟨e1, e2, e3⟩ | ⟨f, e1, e2⟩
        · refine Or.inl ⟨e1, e2, fun t h7 => ?_⟩
          have h8 : t < i + 1 := h7
          by_cases q2 : t = i
          · rw [q2]; exact ht
          · exact e3 t (by omega)
        · exact Or.inr ⟨f, e1, gFno e2 ht⟩
      · rw [if_pos (show bb false = 0 from rfl)]
        exact tail _ _
    | true =>
      rw [if_neg (by decide), show (-1 : Int32) = zi (-1) from rfl]
      unfold F_X11_guard_99_65
      dsimp only
      rcases i3 with ⟨e1, e2, e3⟩ | ⟨f, e1, e2⟩
      · have h0 := common_s (M := M) (a := g) (b := 0) (by omega) (by omega)
        rw [Nat.gcd_zero_right] at h0
        refine ⟨t4 C - (i + 1), (i + 1, (i : Nat), t4 C), by omega, ⟨rfl, by show i + 1 ≤ t4 C; omega, Or.inr ⟨i, rfl, gF0 hc e3 ht⟩⟩, ?_⟩
        rw [if_pos (by rw [e1]), zi_sub, zc (show (i : Int) - (i : Int) = ((0 : Nat) : Int) by omega), h0, cI_s, e2]
        exact tail _ _
      · have hf := e2.1
        have h0 := common_s (M := M) (a := g) (b := i - f) (by omega) (by omega)
        refine ⟨t4 C - (i + 1), (i + 1, (f : Nat), Nat.gcd g (i - f)), by omega, ⟨rfl, by show i + 1 ≤ t4 C; omega, Or.inr ⟨f, rfl, gcdStep e2 ht⟩⟩, ?_⟩
        rw [if_neg (by rw [zi_eq (by omega) (by omega)]; omega), zi_sub, zc (show (i : Int) - v = ((i - f : Nat) : Int) by omega), h0, cI_s, e1]
        exact tail _ _
theorem ok35 : OK_35 Rel := fun M a1 a2 hR => by
  obtain ⟨x, rfl, hx⟩ := zi_rng a1
  obtain ⟨z, rfl, hz⟩ := zi_rng a2
  have hR2 := hR
  obtain ⟨C, S, W, h1, h2, h3, h4, h5, h6, h7, h8, h9, h10, h11, h12⟩ := hR2
  have hb := h1.1.1
  unfold c_35 w_guard
  by_cases hl : (0 ≤ x ∧ x < cN C) ∧ 0 ≤ z ∧ z < cN C
  · by_cases he : x = z
    · refine okr3 (y := zi 0) 2 hR (by decide) (by decide) ?_ ?_
      · unfold F_X10_guard_0
        rw [needTwo_same h2.1.1 hb hl.1 hl.2 he, bV_e]
      · unfold F_X11_guard_99
        rw [show (0 : Int32) = zi 0 from rfl, badTwo_same (M := rf M 2) h3.1.1 hb hl.1 hl.2 he, cI_s, if_neg (by decide)]
    · obtain ⟨a, rfl, ha⟩ := natOf hl.1
      obtain ⟨b, rfl, hb2⟩ := natOf hl.2
      obtain ⟨r, r1, r2⟩ := guardC h1 h2 ha hb2
      refine okq2 (x := zi r) (M1 := M) hR ?_ Sam0.rf (fun M' hs => ⟨sI M' 99 0 (zi 0), ?_, th0, Sam.th⟩)
      · unfold F_X10_guard_0
        rw [needTwo_t h2.1.1 hb hl.1 hl.2 he, bV_s]
        exact r1
      · have c : CalM (sI M' 99 0 (zi 0)) C := h3.sm (hs.tr Sam.th.1)
        obtain ⟨s, s1, s2⟩ := guardM h1 c ha hb2
        have a4 := c.1.2.2.2.2.1
        rw [Gd_one r2 s2]
        unfold F_X11_guard_99
        rw [show (0 : Int32) = zi 0 from rfl, badTwo_t rfl c.1.1 hb hl.1 hl.2 he, cI_s, if_pos rfl, if_pos (by decide), lt_z, show mA (sI M' 99 0 (zi 0)) 103 (4 : Int32).toNatClampNeg = zi (t4 C) from a4]
        exact s1
  · refine okr2 (y := zi 0) 1 hR (by decide) ?_ ?_
    · unfold F_X10_guard_0
      rw [needTwo_f h2.1.1 hb hx hz hl, bV_e]
    · unfold F_X11_guard_99
      rw [show (0 : Int32) = zi 0 from rfl, badTwo_f (M := rf M 1) h3.1.1 hb hx hz hl, cI_s, if_neg (by decide)]
