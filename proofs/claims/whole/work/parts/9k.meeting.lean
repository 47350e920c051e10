/-! meeting -/
def mup (P : Nat → Nat → Nat) (s : Nat × Nat × Nat) (w d : Nat) : Nat × Nat × Nat := if s.2.1 * w < P w d * s.2.2 then (100 * w + d, P w d, w) else s
def mrow (P : Nat → Nat → Nat) (s : Nat × Nat × Nat) (w : Nat) : Nat → Nat × Nat × Nat
  | 0 => s
  | d + 1 => mup P (mrow P s w d) w d
def mall (P : Nat → Nat → Nat) : Nat → Nat × Nat × Nat
  | 0 => (200, 0, 2)
  | k + 1 => mrow P (mall P k) (k + 2) (k + 2)
def MS (T : Nat) (s : Nat × Nat × Nat) : Prop := s.1 ≤ 2500 ∧ s.2.1 ≤ T ∧ 2 ≤ s.2.2 ∧ s.2.2 ≤ 24
theorem mup_MS {P : Nat → Nat → Nat} {T : Nat} {s : Nat × Nat × Nat} {w d : Nat} (h : MS T s) (hP : P w d ≤ T) (hw : 2 ≤ w ∧ w ≤ 24) (hd : d < w) : MS T (mup P s w d) := by
  unfold mup
  split
  · exact ⟨by show 100 * w + d ≤ 2500; omega, hP, hw.1, hw.2⟩
  · exact h
theorem mrow_MS {P : Nat → Nat → Nat} {T : Nat} {s : Nat × Nat × Nat} {w : Nat} (h : MS T s) (hP : ∀ d, P w d ≤ T) (hw : 2 ≤ w ∧ w ≤ 24) : ∀ d, d ≤ w → MS T (mrow P s w d)
  | 0, _ => h
  | d + 1, hd => mup_MS (mrow_MS h hP hw d (by omega)) (hP d) hw (by omega)
theorem mall_MS {P : Nat → Nat → Nat} {T : Nat} (hP : ∀ w d, 2 ≤ w → w ≤ 24 → P w d ≤ T) : ∀ k, k ≤ 23 → MS T (mall P k)
  | 0, _ => ⟨(by decide : 200 ≤ 2500), Nat.zero_le _, (by decide : 2 ≤ 2), (by decide : 2 ≤ 24)⟩
  | k + 1, hk => mrow_MS (mall_MS hP k (by omega)) (fun d => hP (k + 2) d (by omega) (by omega)) (by omega) (k + 2) (Nat.le_refl _)
theorem mrow_seen {P : Nat → Nat → Nat} {s : Nat × Nat × Nat} {w : Nat} (hw : 0 < w) : ∀ d r, r < d → P w r * (mrow P s w d).2.2 ≤ (mrow P s w d).2.1 * w
  | 0, r, h => absurd h (Nat.not_lt_zero r)
  | d + 1, r, h => by
    show P w r * (mup P (mrow P s w d) w d).2.2 ≤ (mup P (mrow P s w d) w d).2.1 * w
    unfold mup
    split
    · rename_i q
      show P w r * w ≤ P w d * w
      by_cases e : r = d
      · rw [e]; exact Nat.le_refl _
      · have := mrow_seen (P := P) (s := s) hw d r (by omega)
        have : P w r * (mrow P s w d).2.2 < P w d * (mrow P s w d).2.2 := by omega
        exact Nat.mul_le_mul_right _ (Nat.le_of_lt (Nat.lt_of_mul_lt_mul_right this))
    · rename_i q
      by_cases e : r = d
      · rw [e]; omega
      · exact mrow_seen hw d r (by omega)
theorem mrow_cut {P : Nat → Nat → Nat} {s : Nat × Nat × Nat} {w g : Nat} (hw : 0 < w) (hg : 0 < g) (hP : ∀ d, P w d = P w (d % g)) : ∀ j, mrow P s w (g + j) = mrow P s w g
  | 0 => rfl
  | j + 1 => by
    show mup P (mrow P s w (g + j)) w (g + j) = _
    have h := mrow_seen (P := P) (s := s) hw (g + j) ((g + j) % g) (by have := Nat.mod_lt (g + j) hg; omega)
    unfold mup
    rw [hP (g + j), if_neg (by omega)]
    exact mrow_cut hw hg hP j
theorem mrow_idle {P : Nat → Nat → Nat} {T : Nat} {s : Nat × Nat × Nat} {w v : Nat} (hP : ∀ d, P v d ≤ T) (h : T * s.2.2 ≤ s.2.1 * w) (hv : w ≤ v) : ∀ d, mrow P s v d = s
  | 0 => rfl
  | d + 1 => by
    show mup P (mrow P s v d) v d = s
    rw [mrow_idle hP h hv d]
    unfold mup
    have h1 := Nat.mul_le_mul_right s.2.2 (hP d)
    have h2 := Nat.mul_le_mul_left s.2.1 hv
    rw [if_neg (by omega)]
theorem mall_idle {P : Nat → Nat → Nat} {T k : Nat} (hP : ∀ w d, 2 ≤ w → w ≤ 24 → P w d ≤ T) (h : T * (mall P k).2.2 ≤ (mall P k).2.1 * (k + 2)) : ∀ j, k + j ≤ 23 → mall P (k + j) = mall P k
  | 0, _ => rfl
  | j + 1, hj => by
    show mrow P (mall P (k + j)) (k + j + 2) (k + j + 2) = _
    rw [mall_idle hP h j (by omega)]
    exact mrow_idle (fun d => hP _ d (by omega) (by omega)) h (by omega) _
/-- the part of a turn on which law (w, d) meets a barred day, as both count it -/
def ptM (C : Cal) (L w d : Nat) : Nat := Nat.gcd w (tA C L) * fb_ct (bq C L (Nat.gcd w (tA C L)) (d % Nat.gcd w (tA C L))) (tA C L)
theorem ptM_le {C : Cal} {L w d : Nat} (hw : 2 ≤ w) : ptM C L w d ≤ tA C L := by
  have hg : 0 < Nat.gcd w (tA C L) := Nat.gcd_pos_of_pos_left _ (by omega)
  have h1 : fb_ct (bq C L (Nat.gcd w (tA C L)) (d % Nat.gcd w (tA C L))) (tA C L) ≤ fb_ct (fun t => hb (Nat.gcd w (tA C L)) (d % Nat.gcd w (tA C L)) (t : Nat)) (tA C L) := fb_ct_sub (fun k _ h => by
    unfold bq at h
    exact ((Bool.and_eq_true _ _).mp h).2)
  rw [ct_hbT (Nat.mod_lt d hg) (Nat.gcd_dvd_right _ _)] at h1
  unfold ptM
  exact Nat.le_trans (Nat.mul_le_mul_left _ h1) (Nat.mul_div_le _ _)
theorem ptM_mod {C : Cal} {L w : Nat} (d : Nat) : ptM C L w d = ptM C L w (d % Nat.gcd w (tA C L)) := by
  unfold ptM
  rw [Nat.mod_mod]
theorem mm {a b A B : Nat} (ha : a ≤ A) (hb : b ≤ B) : a * b ≤ A * B := Nat.mul_le_mul ha hb
theorem most58 {M : PM} {C : Cal} {L w : Nat} {s : Nat × Nat × Nat} {k : PM → Int32 → Int64 → Int64 → Int32 → Option PR} (hc : WFC C) (hw : 2 ≤ w ∧ w ≤ 24) (hs : MS (tA C L) s) (hm : ∀ r, r < Nat.gcd w (tA C L) → mA M 28 r = zi (fb_ct (bq C L (Nat.gcd w (tA C L)) r) (tA C L))) : F_X1_mostBarredLaw_27_58 k FUEL M (zi s.1) (zj s.2.1) (zj s.2.2) (zi w) (zi (Nat.gcd w (tA C L))) (zi 0) = F_X1_mostBarredLaw_27_126 k M (zi (mrow (ptM C L) s w w).1) (zj (mrow (ptM C L) s w w).2.1) (zj (mrow (ptM C L) s w w).2.2) (zi w) := by
  have hT : tA C L ≤ 100000 := by have := tB_le hc L 0; rw [tB_0] at this; exact this
  have hg : 0 < Nat.gcd w (tA C L) := Nat.gcd_pos_of_pos_left _ (by omega)
  have hgw : Nat.gcd w (tA C L) ≤ w := Nat.le_of_dvd (by omega) (Nat.gcd_dvd_left _ _)
  have ecut : mrow (ptM C L) s w w = mrow (ptM C L) s w (Nat.gcd w (tA C L)) := by
    have := mrow_cut (P := ptM C L) (s := s) (w := w) (by omega) hg ptM_mod (w - Nat.gcd w (tA C L))
    rw [show Nat.gcd w (tA C L) + (w - Nat.gcd w (tA C L)) = w by omega] at this
    exact this
  rw [ecut]
  have pd : ∀ r, r < Nat.gcd w (tA C L) → ptM C L w r = Nat.gcd w (tA C L) * fb_ct (bq C L (Nat.gcd w (tA C L)) r) (tA C L) := fun r hr => by
    unfold ptM
    rw [Nat.mod_eq_of_lt hr]
  have pl : ∀ d, ptM C L w d ≤ tA C L := fun d => ptM_le hw.1
  generalize Nat.gcd w (tA C L) = g at *
  refine loopU g (fun f r => F_X1_mostBarredLaw_27_58 k f M (zi (mrow (ptM C L) s w r).1) (zj (mrow (ptM C L) s w r).2.1) (zj (mrow (ptM C L) s w r).2.2) (zi w) (zi g) (zi (r : Nat))) _ (fun f => ?_) (fun f r hr => ?_) 0 FUEL (by omega) (FUEL_gt (by omega))
  · rw [F_X1_mostBarredLaw_27_58, if_pos (by rw [zi_le (by omega) (by omega)]; omega)]
  · obtain ⟨b1, b2, b3, b4⟩ := mrow_MS hs pl hw r (by omega)
    have ep := pd r hr
    have lp := pl r
    rw [F_X1_mostBarredLaw_27_58, if_neg (by rw [zi_le (by omega) (by omega)]; omega), if_neg (by rw [show (24 : Int32) = zi 24 from rfl, zi_le (by omega) (by omega)]; omega), if_pos (zi_ixT (by omega) (by omega)), zi_natN (by omega), hm r hr]
    show _ = F_X1_mostBarredLaw_27_58 k f M (zi (mup (ptM C L) (mrow (ptM C L) s w r) w r).1) (zj (mup (ptM C L) (mrow (ptM C L) s w r) w r).2.1) (zj (mup (ptM C L) (mrow (ptM C L) s w r) w r).2.2) (zi w) (zi g) (zi ((r + 1 : Nat)))
    unfold mup
    generalize mrow (ptM C L) s w r = t at *
    have hle : fb_ct (bq C L g r) (tA C L) ≤ tA C L := fb_ct_le _ _
    rw [zi_j (by omega), zi_j (by omega), zj_mul, ← Int.natCast_mul, ← ep, lt_z, zi_j (by omega), zj_mul, zj_mul, ← Int.natCast_mul, ← Int.natCast_mul]
    generalize ptM C L w r = P at *
    have m1 : P * t.2.2 ≤ 100000 * 24 := mm (by omega) b4
    have m2 : t.2.1 * w ≤ 100000 * 24 := mm (by omega) hw.2
    unfold F_X1_mostBarredLaw_27_120
    rw [show (1 : Int32) = zi 1 from rfl, zi_add, lt_z, zc (show (r : Int) + 1 = ((r + 1 : Nat) : Int) by omega)]
    generalize P * t.2.2 = A at *
    generalize t.2.1 * w = B at *
    rcases Nat.lt_trichotomy A B with q | q | q
    · rw [cmp_lt (by omega) (by omega) (by omega), if_pos (by decide), if_neg (by omega)]
    · rw [cmp_eq (by omega), if_pos (by decide), if_neg (by omega)]
    · rw [cmp_gt (by omega) (by omega) (by omega), if_neg (by decide), if_pos q, show (100 : Int32) = zi 100 from rfl, zi_mul, zi_add, lt_z, zc (show 100 * (w : Int) + (r : Int) = ((100 * w + r : Nat) : Int) by omega), lt_z]
theorem most14 {M : PM} {C : Cal} {L : Nat} (hc : WFC C) (cc : CalC M C) (hL : L < 4096) (h2 : mI M 27 2 = zi L) (h3 : mI M 27 3 = zi ((0 : Nat) : Int)) (h4 : mI M 27 4 = zi (tB C L 0)) : ∃ M', F_X1_mostBarredLaw_27 M = rI (zi (mall (ptM C L) 23).1) M' ∧ Sam0 M M' := by
  have hT : tA C L ≤ 100000 := by have := tB_le hc L 0; rw [tB_0] at this; exact this
  have hP : ∀ w d, 2 ≤ w → w ≤ 24 → ptM C L w d ≤ tA C L := fun w d h _ => ptM_le h
  unfold F_X1_mostBarredLaw_27
  rw [lt_z, lt_z]
  refine loopS (σ := PM × Nat) (fun f s => F_X1_mostBarredLaw_27_14 f s.1 (zi (mall (ptM C L) s.2).1) (zj (mall (ptM C L) s.2).2.1) (zj (mall (ptM C L) s.2).2.2) (zi ((s.2 + 2 : Nat)))) (fun o => ∃ M', o = rI (zi (mall (ptM C L) 23).1) M' ∧ Sam0 M M') (fun q s => q = 23 - s.2 ∧ s.2 ≤ 23 ∧ s.1.1 = M.1 ∧ Sam0 M s.1) ?_ 23 (M, 0) FUEL ⟨rfl, by show 0 ≤ 23; decide, rfl, Sam0.rf⟩ (FUEL_gt (by omega))
  rintro f q ⟨M1, k⟩ ⟨i1, i2, i3, i4⟩
  simp only at i1 i2 i3 i4
  have k2 : mI M1 27 2 = zi L := by rw [mI, i3]; exact h2
  have k3 : mI M1 27 3 = zi ((0 : Nat) : Int) := by rw [mI, i3]; exact h3
  have k4 : mI M1 27 4 = zi (tB C L 0) := by rw [mI, i3]; exact h4
  have k5 : mI M1 27 4 = zi (tA C L) := by rw [k4, tB_0]
  show (∃ M', F_X1_mostBarredLaw_27_14 (f + 1) M1 (zi (mall (ptM C L) k).1) (zj (mall (ptM C L) k).2.1) (zj (mall (ptM C L) k).2.2) (zi ((k + 2 : Nat))) = _ ∧ _) ∨ _
  have hms := mall_MS hP k i2
  rw [F_X1_mostBarredLaw_27_14]
  by_cases q1 : k = 23
  · left
    exact ⟨M1, by rw [if_pos (by rw [show (24 : Int32) = zi 24 from rfl, zi_lt (by omega) (by omega)]; omega), q1], i4⟩
  rw [if_neg (by rw [show (24 : Int32) = zi 24 from rfl, zi_lt (by omega) (by omega)]; omega), k5, zi_j (by omega), zi_j (by omega), zj_mul, zj_mul, ← Int.natCast_mul, ← Int.natCast_mul]
  have m1 : (mall (ptM C L) k).2.1 * (k + 2) ≤ 100000 * 24 := mm (by have := hms.2.1; omega) (by omega)
  have m2 : tA C L * (mall (ptM C L) k).2.2 ≤ 100000 * 24 := mm hT hms.2.2.2
  by_cases q2 : tA C L * (mall (ptM C L) k).2.2 ≤ (mall (ptM C L) k).2.1 * (k + 2)
  · left
    have e := mall_idle hP q2 (23 - k) (by omega)
    rw [show k + (23 - k) = 23 by omega] at e
    refine ⟨M1, ?_, i4⟩
    rw [e]
    rw [if_pos]
    rcases Nat.lt_or_eq_of_le q2 with u | u
    · rw [cmp_gt (by omega) (by omega) (by omega)]; decide
    · rw [cmp_eq (by omega)]; decide
  · right
    rw [if_neg (by rw [cmp_lt (by omega) (by omega) (by omega)]; decide), commonDivisor_s (by omega) (by omega), cI_s]
    rw [Nat.gcd_comm]
    have hg : 0 < Nat.gcd (k + 2) (tA C L) := Nat.gcd_pos_of_pos_left _ (by omega)
    have hgw : Nat.gcd (k + 2) (tA C L) ≤ k + 2 := Nat.le_of_dvd (by omega) (Nat.gcd_dvd_left _ _)
    obtain ⟨M2, c1, c2, c3, c4⟩ := cm_s (M := M1) (g := Nat.gcd (k + 2) (tA C L)) hc (cc.sm i4) hL k2 k3 k4 (by omega)
    rw [c1, cV_s]
    rw [tB_0] at c4
    refine ⟨23 - (k + 1), (M2, k + 1), by omega, ⟨rfl, by show k + 1 ≤ 23; omega, c2.trans i3, i4.tr c3⟩, ?_⟩
    rw [show (0 : Int32) = zi 0 from rfl, most58 hc (by omega) hms c4]
    unfold F_X1_mostBarredLaw_27_126
    rw [show (1 : Int32) = zi 1 from rfl, zi_add, lt_z, zc (show ((k + 2 : Nat) : Int) + 1 = ((k + 1 + 2 : Nat) : Int) by omega)]
    rfl
