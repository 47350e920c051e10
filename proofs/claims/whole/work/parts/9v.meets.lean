/-! weeks: the class's tests -/
def mtN (W d : Nat → Nat) (i : Nat) : Nat := obN (fun j => meR W d j i) i
theorem mtN_lt {W d : Nat → Nat} {i : Nat} (hi : i < 6) : mtN W d i < 64 := Nat.lt_of_lt_of_le (obN_lt _ i) (Nat.pow_le_pow_right (by decide) (by omega) : 2 ^ i ≤ 2 ^ 6)
theorem mtN_cong {W d e : Nat → Nat} {i : Nat} (h : ∀ t, t ≤ i → d t = e t) : mtN W d i = mtN W e i := Nat.eq_of_testBit_eq (fun j => by
  unfold mtN
  rw [obN_bit, obN_bit]
  by_cases q : j < i
  · unfold meR
    rw [h j (by omega), h i (by omega)]
  · rw [decide_eq_false q, Bool.false_and, Bool.false_and])
theorem sub_dec : ∀ v m : Fin 64, decide ((zi (v.val : Int) &&& (zi (m.val : Int) ^^^ (-1))) = 0) = decide (v.val &&& m.val = v.val) := by decide +kernel
theorem sub_z {v m : Nat} (hv : v < 64) (hm : m < 64) : ((zi (v : Int) &&& (zi (m : Int) ^^^ (-1))) = 0) ↔ v &&& m = v := decide_eq_decide.mp (sub_dec ⟨v, hv⟩ ⟨m, hm⟩)
theorem sub_bits {v m : Nat} : v &&& m = v ↔ ∀ j, v.testBit j = true → m.testBit j = true := by
  constructor
  · intro h j hj
    rw [← h, Nat.testBit_and, Bool.and_eq_true] at hj
    exact hj.2
  · intro h
    refine Nat.eq_of_testBit_eq (fun j => ?_)
    rw [Nat.testBit_and]
    cases q : v.testBit j
    · rfl
    · rw [h j q]; rfl
theorem loC_s {M : PM} {W d : Nat → Nat} {k : Nat} (hk : k < 6) (hW : ∀ i, i ≤ k → mA M 96 i = zi (W i) ∧ W i ≤ 24) (hd : ∀ i, i < k → mA M 97 i = zi (d i)) : F_X6_leastDay_95 M (zi k) = rI (zi (loC W d k k)) M := by
  obtain ⟨k1, k2⟩ := hW k (Nat.le_refl _)
  unfold F_X6_leastDay_95
  refine loopU k (fun f i => F_X6_leastDay_95_4 f M (zi k) (zi (loC W d k i)) (zi (i : Nat))) _ (fun f => ?_) (fun f i hi => ?_) 0 FUEL (Nat.zero_le _) (FUEL_gt (by omega))
  · rw [F_X6_leastDay_95_4, if_pos (by rw [zi_le (by omega) (by omega)]; omega)]
  · obtain ⟨i1, i2⟩ := hW i (by omega)
    rw [F_X6_leastDay_95_4, if_neg (by rw [zi_le (by omega) (by omega)]; omega), if_pos (zi_ixT (by omega) (by omega)), if_pos (zi_ixT (by omega) (by omega)), zi_natN (by omega), zi_natN (by omega), i1, k1, hd i hi]
    unfold F_X6_leastDay_95_34
    rw [show (1 : Int32) = zi 1 from rfl, zi_add, lt_z, zc (show (i : Int) + 1 = ((i + 1 : Nat) : Int) by omega), loC]
    by_cases q : W i = W k
    · rw [if_pos (by rw [q]), if_pos q, if_pos (zi_ixT (by omega) (by omega))]
    · rw [if_neg (by rw [zi_eq (by omega) (by omega)]; omega), if_neg q]
      rw [lt_z]
/-- all of v meet each other -/
def AMs (W d : Nat → Nat) (v : Nat) : Prop := PWs W d 6 (fun j => v.testBit j)
theorem allMeetW_s {M : PM} {W d : Nat → Nat} {k v : Nat} (hk : k ≤ 6) (hv : v < 64) (hvk : ∀ j, v.testBit j = true → j < k) (hm : ∀ i, i < k → mA M 98 i = zi (mtN W d i)) : ∃ b, F_X6_allMeet_95 M (zi v) = rI (bb b) M ∧ (b = true ↔ AMs W d v) := by
  unfold F_X6_allMeet_95
  refine loopS (σ := Nat) (fun f i => F_X6_allMeet_95_2 f M (zi v) (zi (i : Nat))) (fun o => ∃ b, o = rI (bb b) M ∧ (b = true ↔ AMs W d v)) (fun r i => r = 6 - i ∧ i ≤ 6 ∧ PWs W d i (fun j => v.testBit j)) ?_ 6 0 FUEL ⟨rfl, Nat.zero_le _, fun a b _ h => absurd h (Nat.not_lt_zero b)⟩ (FUEL_gt (by omega))
  rintro f r i ⟨i1, i2, i3⟩
  show (∃ b, F_X6_allMeet_95_2 (f + 1) M (zi v) (zi (i : Nat)) = _ ∧ _) ∨ _
  rw [F_X6_allMeet_95_2]
  by_cases q1 : i = 6
  · left
    subst q1
    exact ⟨true, by rw [if_pos (by decide), if_pos (by decide)]; rfl, ⟨fun _ => i3, fun _ => rfl⟩⟩
  have next : (v.testBit i = true → ∀ j, j < i → v.testBit j = true → meR W d j i = true) → ∃ r' s', r' < r ∧ (fun r i => r = 6 - i ∧ i ≤ 6 ∧ PWs W d i (fun j => v.testBit j)) r' s' ∧ F_X6_allMeet_95_36 (F_X6_allMeet_95_2 f) M (zi v) (zi (i : Nat)) = (fun f i => F_X6_allMeet_95_2 f M (zi v) (zi (i : Nat))) f s' := fun h => by
    refine ⟨6 - (i + 1), i + 1, by omega, ⟨rfl, by omega, fun a b h1 h2 h3 h4 => ?_⟩, ?_⟩
    · by_cases q : b = i
      · subst q
        exact h h4 a h1 h3
      · exact i3 a b h1 (by omega) h3 h4
    · unfold F_X6_allMeet_95_36
      rw [show (1 : Int32) = zi 1 from rfl, zi_add, lt_z, zc (show (i : Int) + 1 = ((i + 1 : Nat) : Int) by omega)]
  rw [if_neg (by rw [show (6 : Int32) = zi 6 from rfl, zi_le (by omega) (by omega)]; omega), isIn_s (by omega) (by omega), cI_s]
  cases hb : v.testBit i with
  | false =>
    right
    rw [if_pos (by decide)]
    exact next (fun h => by rw [hb] at h; exact absurd h (by decide))
  | true =>
    have hik := hvk i hb
    have e1 : v &&& (2 ^ i - 1) < 64 := Nat.lt_of_le_of_lt Nat.and_le_left hv
    have key : (v &&& (2 ^ i - 1)) &&& mtN W d i = v &&& (2 ^ i - 1) ↔ ∀ j, j < i → v.testBit j = true → meR W d j i = true := by
      rw [sub_bits]
      unfold mtN
      constructor
      · intro h j hj hv2
        have := h j (by rw [Nat.testBit_and, hv2, Nat.testBit_two_pow_sub_one, decide_eq_true hj]; rfl)
        rw [obN_bit, Bool.and_eq_true] at this
        exact this.2
      · intro h j hj
        rw [Nat.testBit_and, Nat.testBit_two_pow_sub_one, Bool.and_eq_true, decide_eq_true_eq] at hj
        rw [obN_bit, decide_eq_true hj.2, h j hj.2 hj.1]
        rfl
    have hsz := sub_z e1 (mtN_lt (W := W) (d := d) (i := i) (by omega))
    unfold F_X10_all
    rw [if_neg (by decide), cI_s, if_pos (zi_ixT (by omega) (by omega)), all_z (by omega), zi_natN (by omega), hm i hik, zand]
    by_cases q2 : (v &&& (2 ^ i - 1)) &&& mtN W d i = v &&& (2 ^ i - 1)
    · right
      rw [if_pos (hsz.mpr q2)]
      exact next (fun _ => key.mp q2)
    · left
      refine ⟨false, by rw [if_neg (fun h => q2 (hsz.mp h)), if_pos (by decide)]; rfl, ⟨fun h => absurd h (by decide), fun h => absurd (key.mpr (fun j hj hv2 => h j i hj (by omega) hv2 hb)) q2⟩⟩
/-- the first n of a set -/
theorem ct_first (T : Nat → Bool) (n : Nat) : ∀ k, fb_ct (fun i => T i && decide (fb_ct T i < n)) k = min n (fb_ct T k)
  | 0 => (Nat.min_zero n).symm
  | k + 1 => by
    rw [fb_ct_succ, fb_ct_succ, ct_first T n k]
    cases T k
    · simp only [Bool.false_and, Bool.false_eq_true, if_false, Nat.add_zero]
    · by_cases q : fb_ct T k < n
      · rw [decide_eq_true q, if_pos (by decide), if_pos rfl]
        omega
      · rw [decide_eq_false q, if_neg (by decide), if_pos rfl]
        omega
theorem okk_sets {W d : Nat → Nat} {n k : Nat} (hk : k < 6) : ¬ okk W n d k ↔ ∃ v, v ≤ mtN W d k ∧ v &&& mtN W d k = v ∧ pop v = n ∧ AMs W d v := by
  constructor
  · intro h
    have hx := XT_okk.mpr h
    obtain ⟨T, _, t2, t3, t4⟩ := hx
    rw [ctT t2] at t4
    let T' : Nat → Bool := fun i => T i && decide (fb_ct T i < n)
    have hsub : obN T' k &&& mtN W d k = obN T' k := sub_bits.mpr (fun j hj => by
      rw [obN_bit, Bool.and_eq_true, decide_eq_true_eq] at hj
      unfold mtN
      have hT : T j = true := ((Bool.and_eq_true _ _).mp hj.2).1
      rw [obN_bit, decide_eq_true hj.1, t3 j k hj.1 (by omega) hT t2]
      rfl)
    refine ⟨obN T' k, ?_, hsub, ?_, fun a b h1 h2 h3 h4 => ?_⟩
    · rw [← hsub]; exact Nat.and_le_right
    · rw [pop_ob (by omega)]
      have := ct_first T n k
      have e : fb_ct T' k = min n (fb_ct T k) := this
      omega
    · have h3' : (obN T' k).testBit a = true := h3
      have h4' : (obN T' k).testBit b = true := h4
      rw [obN_bit, Bool.and_eq_true, decide_eq_true_eq] at h3' h4'
      exact t3 a b h1 (by omega) ((Bool.and_eq_true _ _).mp h3'.2).1 ((Bool.and_eq_true _ _).mp h4'.2).1
  · rintro ⟨v, v1, v2, v3, v4⟩ h
    rw [sub_bits] at v2
    have hvk : ∀ j, v.testBit j = true → j < k ∧ meR W d j k = true := fun j hj => by
      have := v2 j hj
      unfold mtN at this
      rw [obN_bit, Bool.and_eq_true, decide_eq_true_eq] at this
      exact this
    have := h (fun j => v.testBit j || decide (j = k)) (by rw [decide_eq_true rfl, Bool.or_true]) (fun a b h1 h2 h3 h4 => by
      simp only [Bool.or_eq_true, decide_eq_true_eq] at h3 h4
      rcases h4 with u | u
      · rcases h3 with w | w
        · exact v4 a b h1 (by omega) w u
        · have := (hvk b u).1; omega
      · rcases h3 with w | w
        · rw [u]; exact (hvk a w).2
        · omega)
    rw [ctT (p := fun j => v.testBit j || decide (j = k)) (by rw [decide_eq_true rfl, Bool.or_true]), fb_ct_cong (q := fun j => v.testBit j) (fun j hj => by rw [decide_eq_false (by omega), Bool.or_false])] at this
    have e : pop v = fb_ct (fun j => v.testBit j) k := by
      unfold pop
      have e := fb_ct_split (fun j => v.testBit j) k (12 - k)
      rw [show k + (12 - k) = 12 by omega, (fb_ct_zero (p := fun i => v.testBit (k + i)) (n := 12 - k)).mpr (fun i _ => by
        cases q : v.testBit (k + i)
        · rfl
        · have := (hvk _ q).1; omega)] at e
      exact e
    omega
theorem tooMany_s {M : PM} {W d : Nat → Nat} {n k : Nat} (hk : k < 6) (hn : n ≤ 6) (hW : ∀ i, i ≤ k → mA M 96 i = zi (W i) ∧ 1 ≤ W i ∧ W i ≤ 24) (hd : ∀ i, i ≤ k → mA M 97 i = zi (d i) ∧ d i < 100) (hm : ∀ i, i < k → mA M 98 i = zi (mtN W d i)) : ∃ b, F_X6_meetsTooMany_95 M (zi k) (zi n) = rI (bb b) (sA M 98 k (zi (mtN W d k))) ∧ (b = true ↔ ¬ okk W n d k) := by
  obtain ⟨k1, k2, k3⟩ := hW k (Nat.le_refl _)
  obtain ⟨k4, k5⟩ := hd k (Nat.le_refl _)
  have hl := mtN_lt (W := W) (d := d) hk
  have e5 : F_X6_meetsTooMany_95 M (zi k) (zi n) = F_X6_meetsTooMany_95_78 FUEL (sA M 98 k (zi (mtN W d k))) (zi n) (zi (mtN W d k)) (zi ((0 : Nat) : Int)) := by
    unfold F_X6_meetsTooMany_95
    refine loopU k (fun f i => F_X6_meetsTooMany_95_5 f M (zi k) (zi n) (ob (fun i => meR W d i k) i) (zi (i : Nat))) _ (fun f => ?_) (fun f i hi => ?_) 0 FUEL (Nat.zero_le _) (FUEL_gt (by omega))
    · rw [F_X6_meetsTooMany_95_5, if_pos (by rw [zi_le (by omega) (by omega)]; omega), if_pos (zi_ixT (by omega) (by omega)), zi_natN (by omega), ob_zi _ _ (by omega)]
      rfl
    · obtain ⟨i1, i2, i3⟩ := hW i (by omega)
      obtain ⟨i4, i5⟩ := hd i (by omega)
      have hg := Nat.gcd_pos_of_pos_right (W i) (show 0 < W k by omega)
      have hg2 : Nat.gcd (W i) (W k) ≤ 24 := Nat.le_trans (Nat.le_of_dvd (by omega) (Nat.gcd_dvd_right (W i) (W k))) k3
      have m1 := Int.emod_nonneg ((d i : Int) - d k) (b := (Nat.gcd (W i) (W k) : Int)) (by omega)
      have m2 := Int.emod_lt_of_pos ((d i : Int) - d k) (b := (Nat.gcd (W i) (W k) : Int)) (by omega)
      rw [F_X6_meetsTooMany_95_5, if_neg (by rw [zi_le (by omega) (by omega)]; omega), if_pos (zi_ixT (by omega) (by omega)), if_pos (zi_ixT (by omega) (by omega)), zi_natN (by omega), zi_natN (by omega), i1, k1, commonDivisor_s (by omega) (by omega), cI_s, if_pos (zi_ixT (by omega) (by omega)), if_pos (zi_ixT (by omega) (by omega)), i4, k4, zi_sub, left_s (by omega) (by omega), cI_s]
      unfold F_X6_meetsTooMany_95_60
      rw [show (1 : Int32) = zi 1 from rfl, zi_add, lt_z, lt_z, lt_z, zc (show (i : Int) + 1 = ((i + 1 : Nat) : Int) by omega), ob]
      by_cases q : ((d i : Int) - d k) % (Nat.gcd (W i) (W k) : Int) = 0
      · have : meR W d i k = true := decide_eq_true q
        rw [if_pos (by rw [q]; rfl), if_pos this]
        rfl
      · have : meR W d i k = false := decide_eq_false q
        rw [if_neg (by rw [show (0 : Int32) = zi 0 from rfl, zi_eq (by omega) (by omega)]; exact q), this, if_neg (by decide)]
        rw [lt_z]
        rfl
  rw [e5]
  have hm2 : ∀ i, i < k → mA (sA M 98 k (zi (mtN W d k))) 98 i = zi (mtN W d i) := fun i hi => (rA_nk (by omega)).trans (hm i hi)
  generalize sA M 98 k (zi (mtN W d k)) = M1 at *
  refine loopS (σ := Nat) (fun f v => F_X6_meetsTooMany_95_78 f M1 (zi n) (zi (mtN W d k)) (zi (v : Nat))) (fun o => ∃ b, o = rI (bb b) M1 ∧ (b = true ↔ ¬ okk W n d k)) (fun r v => r = 64 - v ∧ v ≤ mtN W d k + 1 ∧ ∀ u, u < v → ¬ (u &&& mtN W d k = u ∧ pop u = n ∧ AMs W d u)) ?_ 64 0 FUEL ⟨rfl, Nat.zero_le _, fun u h => absurd h (Nat.not_lt_zero u)⟩ (FUEL_gt (by omega))
  rintro f r v ⟨i1, i2, i3⟩
  show (∃ b, F_X6_meetsTooMany_95_78 (f + 1) M1 (zi n) (zi (mtN W d k)) (zi (v : Nat)) = _ ∧ _) ∨ _
  rw [F_X6_meetsTooMany_95_78]
  by_cases q1 : mtN W d k < v
  · left
    refine ⟨false, by rw [if_pos (by rw [zi_lt (by omega) (by omega)]; omega), if_pos (by decide)]; rfl, ⟨fun h => absurd h (by decide), fun h => ?_⟩⟩
    obtain ⟨u, u1, u2⟩ := (okk_sets hk).mp h
    exact absurd u2 (i3 u (by omega))
  have next : (¬ (v &&& mtN W d k = v ∧ pop v = n ∧ AMs W d v)) → ∃ r' s', r' < r ∧ (fun r v => r = 64 - v ∧ v ≤ mtN W d k + 1 ∧ ∀ u, u < v → ¬ (u &&& mtN W d k = u ∧ pop u = n ∧ AMs W d u)) r' s' ∧ F_X6_meetsTooMany_95_113 (F_X6_meetsTooMany_95_78 f) M1 (zi n) (zi (mtN W d k)) (zi (v : Nat)) = (fun f v => F_X6_meetsTooMany_95_78 f M1 (zi n) (zi (mtN W d k)) (zi (v : Nat))) f s' := fun h => by
    refine ⟨64 - (v + 1), v + 1, by omega, ⟨rfl, by omega, fun u hu => ?_⟩, ?_⟩
    · by_cases q : u = v
      · rw [q]; exact h
      · exact i3 u (by omega)
    · unfold F_X6_meetsTooMany_95_113
      rw [show (1 : Int32) = zi 1 from rfl, zi_add, lt_z, zc (show (v : Int) + 1 = ((v + 1 : Nat) : Int) by omega)]
  have hsz := sub_z (show v < 64 by omega) hl
  rw [if_neg (by rw [zi_lt (by omega) (by omega)]; omega)]
  by_cases q2 : v &&& mtN W d k = v
  · have hp12 := pop_le v
    rw [if_pos (hsz.mpr q2), bitCount_s (by omega), cI_s]
    by_cases q3 : pop v = n
    · have hvk : ∀ j, v.testBit j = true → j < k := fun j hj => by
        have := (sub_bits.mp q2) j hj
        unfold mtN at this
        rw [obN_bit, Bool.and_eq_true, decide_eq_true_eq] at this
        exact this.1
      obtain ⟨b, b1, b2⟩ := allMeetW_s (M := M1) (W := W) (d := d) (k := k) (v := v) (by omega) (by omega) hvk hm2
      rw [if_pos (by rw [q3]), b1, cI_s]
      cases b with
      | false =>
        right
        rw [if_pos (by decide)]
        exact next (fun h => absurd (b2.mpr h.2.2) (by decide))
      | true =>
        left
        refine ⟨true, by rw [if_neg (by decide), if_pos (by decide)]; rfl, ⟨fun _ => (okk_sets hk).mpr ⟨v, by omega, q2, q3, b2.mp rfl⟩, fun _ => rfl⟩⟩
    · right
      rw [if_neg (by rw [zi_eq (by omega) (by omega)]; omega)]
      exact next (fun h => q3 h.2.1)
  · right
    rw [if_neg (fun h => q2 (hsz.mp h))]
    exact next (fun h => q2 h.1)
