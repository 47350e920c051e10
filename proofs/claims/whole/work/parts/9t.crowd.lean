/-! weeks: the reference's crowds -/
def XT (W d : Nat → Nat) (n k fr s : Nat) : Prop := ∃ T : Nat → Bool, (∀ j, j < fr → T j = s.testBit j) ∧ T k = true ∧ PWs W d (k + 1) T ∧ n < fb_ct T (k + 1)
def SOK (W d : Nat → Nat) (k fr s : Nat) : Prop := s < 64 ∧ s.testBit k = true ∧ (∀ j, fr ≤ j → j ≠ k → s.testBit j = false) ∧ PWs W d (k + 1) (fun j => s.testBit j)
def RDm (M : PM) (W d : Nat → Nat) (k : Nat) : Prop := ∀ i, i < k → (mA M 124 i = zi (W i) ∧ mA M 125 i = zi (d i)) ∧ (1 ≤ W i ∧ W i ≤ 24) ∧ d i < 100
theorem XT_okk {W d : Nat → Nat} {n k : Nat} : XT W d n k 0 (2 ^ k) ↔ ¬ okk W n d k := by
  constructor
  · rintro ⟨T, t1, t2, t3, t4⟩ h
    have := h T t2 t3
    omega
  · intro h
    refine Classical.byContradiction (fun g => h (fun T t2 t3 => ?_))
    rcases Nat.lt_or_ge n (fb_ct T (k + 1)) with q | q
    · exact absurd ⟨T, fun j hj => absurd hj (Nat.not_lt_zero j), t2, t3, q⟩ g
    · exact q
theorem pop_cut {s k fr : Nat} (hk : k < 6) (hf : fr ≤ k) (h : ∀ j, fr ≤ j → j ≠ k → s.testBit j = false) : pop s = fb_ct (fun j => s.testBit j) (k + 1) := by
  unfold pop
  have e := fb_ct_split (fun j => s.testBit j) (k + 1) (11 - k)
  rw [show k + 1 + (11 - k) = 12 by omega, fb_ct_zero.mpr (fun i _ => h (k + 1 + i) (by omega) (by omega))] at e
  exact e
theorem XT_end {W d : Nat → Nat} {n k s : Nat} (hs : SOK W d k k s) (hn : fb_ct (fun j => s.testBit j) (k + 1) ≤ n) : ¬ XT W d n k k s := by
  rintro ⟨T, t1, t2, t3, t4⟩
  rw [fb_ct_cong (q := fun j => s.testBit j) (fun j hj => by
    by_cases q : j = k
    · rw [q, t2, hs.2.1]
    · exact t1 j (by omega))] at t4
  omega
theorem or_bit {s i j : Nat} : (s ||| 2 ^ i).testBit j = (s.testBit j || decide (i = j)) := by rw [Nat.testBit_or, Nat.testBit_two_pow]
theorem XT_in {W d : Nat → Nat} {n k i s : Nat} (hik : i < k) (h0 : s.testBit i = false) (h : XT W d n k (i + 1) (s ||| 2 ^ i)) : ∃ T : Nat → Bool, (∀ j, j < i → T j = s.testBit j) ∧ T i = true ∧ T k = true ∧ PWs W d (k + 1) T ∧ n < fb_ct T (k + 1) := by
  obtain ⟨T, t1, t2, t3, t4⟩ := h
  refine ⟨T, fun j hj => ?_, ?_, t2, t3, t4⟩
  · rw [t1 j (by omega), or_bit, decide_eq_false (by omega), Bool.or_false]
  · rw [t1 i (by omega), or_bit, decide_eq_true rfl, Bool.or_true]
theorem XT_step {W d : Nat → Nat} {n k i s : Nat} (hik : i < k) (h0 : s.testBit i = false) : XT W d n k i s ↔ (XT W d n k (i + 1) s ∨ XT W d n k (i + 1) (s ||| 2 ^ i)) := by
  constructor
  · rintro ⟨T, t1, t2, t3, t4⟩
    cases h : T i with
    | false =>
      refine Or.inl ⟨T, fun j hj => ?_, t2, t3, t4⟩
      by_cases q : j = i
      · rw [q, h, h0]
      · exact t1 j (by omega)
    | true =>
      refine Or.inr ⟨T, fun j hj => ?_, t2, t3, t4⟩
      rw [or_bit]
      by_cases q : j = i
      · rw [q, h, decide_eq_true rfl, Bool.or_true]
      · rw [decide_eq_false (by omega), Bool.or_false]
        exact t1 j (by omega)
  · rintro (⟨T, t1, t2, t3, t4⟩ | h)
    · exact ⟨T, fun j hj => t1 j (by omega), t2, t3, t4⟩
    · obtain ⟨T, t1, t2, t3, t4, t5⟩ := XT_in hik h0 h
      exact ⟨T, t1, t3, t4, t5⟩
/-- i meets k and all of s ahead of i -/
def isM (W d : Nat → Nat) (k i s : Nat) : Bool := meR W d i k && noB (fun j => s.testBit j && !meR W d i j) i
theorem isM_t {W d : Nat → Nat} {k i s : Nat} (h : isM W d k i s = true) : meR W d i k = true ∧ ∀ j, j < i → s.testBit j = true → meR W d i j = true := by
  unfold isM at h
  rw [Bool.and_eq_true] at h
  refine ⟨h.1, fun j hj hs => ?_⟩
  have := fb_ct_zero.mp (of_decide_eq_true h.2) j hj
  rw [hs, Bool.true_and] at this
  cases q : meR W d i j
  · rw [q] at this; exact absurd this (by decide)
  · rfl
theorem isM_f {W d : Nat → Nat} {n k i s : Nat} (hik : i < k) (h0 : s.testBit i = false) (h : isM W d k i s = false) : ¬ XT W d n k (i + 1) (s ||| 2 ^ i) := fun hx => by
  obtain ⟨T, t1, t2, t3, t4, t5⟩ := XT_in hik h0 hx
  have m1 := t4 i k hik (by omega) t2 t3
  have m2 : noB (fun j => s.testBit j && !meR W d i j) i = true := noB_t (fun j hj => by
    cases q : s.testBit j
    · rfl
    · have := t4 j i hj (by omega) ((t1 j hj).trans q) t2
      unfold meR at this ⊢
      rw [mee_comm] at this
      rw [this]
      rfl)
  unfold isM at h
  rw [m1, m2] at h
  exact absurd h (by decide)
theorem SOK_or {W d : Nat → Nat} {k i s : Nat} (hk : k < 6) (hik : i < k) (hs : SOK W d k i s) (h : isM W d k i s = true) : SOK W d k (i + 1) (s ||| 2 ^ i) := by
  obtain ⟨h1, h2⟩ := isM_t h
  obtain ⟨s1, s2, s3, s4⟩ := hs
  refine ⟨Nat.or_lt_two_pow (n := 6) s1 (Nat.pow_lt_pow_right (by decide) (by omega)), ?_, fun j hj hne => ?_, fun a b hab hb ha1 hb1 => ?_⟩
  · rw [or_bit, s2, Bool.true_or]
  · rw [or_bit, s3 j (by omega) hne, decide_eq_false (by omega)]
    rfl
  · have ha2 : (s.testBit a || decide (i = a)) = true := by rw [← or_bit]; exact ha1
    have hb2 : (s.testBit b || decide (i = b)) = true := by rw [← or_bit]; exact hb1
    rw [Bool.or_eq_true, decide_eq_true_eq] at ha2 hb2
    rcases ha2 with u | u
    · rcases hb2 with v | v
      · exact s4 a b hab hb u v
      · subst v
        have := h2 a hab u
        unfold meR at this ⊢
        rw [mee_comm]
        exact this
    · rcases hb2 with v | v
      · subst u
        have : b = k := by
          rcases Nat.eq_or_lt_of_le (Nat.le_of_lt_succ hb) with q | q
          · exact q
          · have := s3 b (by omega) (by omega)
            rw [v] at this
            exact absurd this (by decide)
        rw [this]
        exact h1
      · omega
theorem crowd54 {M : PM} {W d : Nat → Nat} {n k i s : Nat} {rc : Nat → PM → Int32 → Int32 → Int32 → Int32 → Option PR} {k14 : PM → Int32 → Int32 → Int32 → Int32 → Option PR} (hR : RDm M W d (k + 1)) (hk : k < 6) (hik : i < k) (hs : s < 64) : F_X11_isCrowd_99_54 rc k14 FUEL M (zi k) (zi n) (zi s) (zi i) (bb (meR W d i k)) (zi 0) = F_X11_isCrowd_99_123 rc k14 M (zi k) (zi n) (zi s) (zi i) (bb (isM W d k i s)) := by
  refine loopS (σ := Nat) (fun f j => F_X11_isCrowd_99_54 rc k14 f M (zi k) (zi n) (zi s) (zi i) (bb (meR W d i k && noB (fun j => s.testBit j && !meR W d i j) j)) (zi (j : Nat))) (fun o => o = F_X11_isCrowd_99_123 rc k14 M (zi k) (zi n) (zi s) (zi i) (bb (isM W d k i s))) (fun r j => r = i - j ∧ j ≤ i) ?_ i 0 FUEL ⟨rfl, Nat.zero_le _⟩ (FUEL_gt (by omega)) |> (fun h => by
    rw [show noB (fun j => s.testBit j && !meR W d i j) 0 = true from rfl, Bool.and_true] at h
    exact h)
  rintro f r j ⟨i1, i2⟩
  rw [F_X11_isCrowd_99_54]
  by_cases q1 : j = i
  · left
    subst q1
    rw [if_pos (by rw [zi_le (by omega) (by omega)]; omega)]
    rfl
  rw [if_neg (by rw [zi_le (by omega) (by omega)]; omega)]
  cases hb1 : (meR W d i k && noB (fun j => s.testBit j && !meR W d i j) j) with
  | false =>
    left
    have : isM W d k i s = false := by
      unfold isM
      rw [Bool.and_eq_false_iff] at hb1 ⊢
      rcases hb1 with u | u
      · exact Or.inl u
      · refine Or.inr (decide_eq_false (fun e => ?_))
        have := of_decide_eq_false u
        exact this (fb_ct_zero.mpr (fun t ht => fb_ct_zero.mp e t (by omega)))
    rw [this, if_pos (by decide)]
  | true =>
    right
    refine ⟨i - (j + 1), j + 1, by omega, ⟨rfl, by omega⟩, ?_⟩
    have hzb : zi (s : Int) >>> (zi (j : Int) &&& 31) &&& 1 = bb (s.testBit j) := zbit1 (by omega) (by omega)
    obtain ⟨⟨a1, a2⟩, a3, a4⟩ := hR i (by omega)
    obtain ⟨⟨b1, b2⟩, b3, b4⟩ := hR j (by omega)
    have hcb := canBe_s (M := M) (w := W i) (d := d i) (v := W j) (e := d j) (by omega) (by omega) (by omega) (by omega)
    rw [if_neg (by decide), hzb, noB_succ]
    rw [Bool.and_eq_true] at hb1
    rw [hb1.1, hb1.2, Bool.true_and, Bool.true_and]
    unfold F_X11_isCrowd_99_110 F_X11_isCrowd_99_115
    cases hsb : s.testBit j with
    | false =>
      rw [if_pos (by decide), show (1 : Int32) = zi 1 from rfl, zi_add, lt_z, zc (show (j : Int) + 1 = ((j + 1 : Nat) : Int) by omega)]
      rfl
    | true =>
      rw [if_neg (by decide), if_pos (zi_ixT (by omega) (by omega)), if_pos (zi_ixT (by omega) (by omega)), if_pos (zi_ixT (by omega) (by omega)), if_pos (zi_ixT (by omega) (by omega)), zi_natN (by omega), zi_natN (by omega), a1, a2, b1, b2, hcb, cI_s, Bool.true_and, Bool.not_not]
      unfold meR
      cases mee (W i) (d i) (W j) (d j) with
      | false => rw [if_pos (by decide), show (1 : Int32) = zi 1 from rfl, zi_add, lt_z, zc (show (j : Int) + 1 = ((j + 1 : Nat) : Int) by omega)]; rfl
      | true => rw [if_neg (by decide), show (1 : Int32) = zi 1 from rfl, zi_add, lt_z, zc (show (j : Int) + 1 = ((j + 1 : Nat) : Int) by omega)]; rfl
theorem crowd_s {M : PM} {W d : Nat → Nat} {n k : Nat} (hR : RDm M W d (k + 1)) (hk : k < 6) (hn : n ≤ 6) : ∀ g fr s, fr ≤ k → k - fr < g → SOK W d k fr s → ∃ b, G_isCrowd g 0 M (zi k) (zi n) (zi fr) (zi s) = rI (bb b) M ∧ (b = true ↔ XT W d n k fr s)
  | 0, fr, s, _, h, _ => absurd h (Nat.not_lt_zero _)
  | g + 1, fr, s, hfr, hg, hs => by
    have hpop := pop_cut hk hfr hs.2.2.1
    have hp12 := pop_le s
    show ∃ b, F_X11_isCrowd_99 (G_isCrowd g) M (zi k) (zi n) (zi fr) (zi s) = rI (bb b) M ∧ _
    unfold F_X11_isCrowd_99
    have hs64 := hs.1
    rw [ones_s (by omega), cI_s]
    by_cases q0 : n < pop s
    · refine ⟨true, ?_, ⟨fun _ => ⟨fun j => s.testBit j, fun _ _ => rfl, hs.2.1, hs.2.2.2, by omega⟩, fun _ => rfl⟩⟩
      rw [if_neg (by rw [zi_le (by omega) (by omega)]; omega), if_pos (by decide)]
      rfl
    rw [if_pos (by rw [zi_le (by omega) (by omega)]; omega)]
    refine loopS (σ := Nat) (fun f i => F_X11_isCrowd_99_14 (G_isCrowd g) f M (zi k) (zi n) (zi s) (zi (i : Nat))) (fun o => ∃ b, o = rI (bb b) M ∧ (b = true ↔ XT W d n k fr s)) (fun r i => r = k - i ∧ fr ≤ i ∧ i ≤ k ∧ (XT W d n k fr s ↔ XT W d n k i s)) ?_ (k - fr) fr FUEL ⟨rfl, Nat.le_refl _, hfr, Iff.rfl⟩ (FUEL_gt (by omega))
    rintro f r i ⟨i1, i2, i3, i4⟩
    have hsi : SOK W d k i s := ⟨hs.1, hs.2.1, fun j hj hne => hs.2.2.1 j (by omega) hne, hs.2.2.2⟩
    show (∃ b, F_X11_isCrowd_99_14 (G_isCrowd g) (f + 1) M (zi k) (zi n) (zi s) (zi (i : Nat)) = _ ∧ _) ∨ _
    rw [F_X11_isCrowd_99_14]
    by_cases q1 : i = k
    · left
      subst q1
      refine ⟨false, ?_, ⟨fun h => absurd h (by decide), fun h => absurd (i4.mp h) (XT_end hsi (by omega))⟩⟩
      rw [if_pos (by rw [zi_le (by omega) (by omega)]; omega), if_pos (by decide)]
      rfl
    have hik : i < k := by omega
    have h0 := hsi.2.2.1 i (Nat.le_refl _) (by omega)
    obtain ⟨⟨a1, a2⟩, a3, a4⟩ := hR i (by omega)
    obtain ⟨⟨b1, b2⟩, b3, b4⟩ := hR k (by omega)
    have hcb := canBe_s (M := M) (w := W i) (d := d i) (v := W k) (e := d k) (by omega) (by omega) (by omega) (by omega)
    have c54 := crowd54 (n := n) (rc := G_isCrowd g) (k14 := F_X11_isCrowd_99_14 (G_isCrowd g) f) hR hk hik hs64
    rw [if_neg (by rw [zi_le (by omega) (by omega)]; omega), if_pos (zi_ixT (by omega) (by omega)), if_pos (zi_ixT (by omega) (by omega)), if_pos (zi_ixT (by omega) (by omega)), if_pos (zi_ixT (by omega) (by omega)), zi_natN (by omega), zi_natN (by omega), a1, a2, b1, b2, hcb, cI_s, show (0 : Int32) = zi 0 from rfl]
    show (∃ b, F_X11_isCrowd_99_54 (G_isCrowd g) (F_X11_isCrowd_99_14 (G_isCrowd g) f) FUEL M (zi k) (zi n) (zi s) (zi i) (bb (meR W d i k)) (zi 0) = _ ∧ _) ∨ ∃ r' s', _ ∧ _ ∧ F_X11_isCrowd_99_54 (G_isCrowd g) (F_X11_isCrowd_99_14 (G_isCrowd g) f) FUEL M (zi k) (zi n) (zi s) (zi i) (bb (meR W d i k)) (zi 0) = _
    rw [c54]
    unfold F_X11_isCrowd_99_123 F_X11_isCrowd_99_150
    have go : (¬ XT W d n k (i + 1) (s ||| 2 ^ i)) → k - (i + 1) < r ∧ (k - (i + 1) = k - (i + 1) ∧ fr ≤ i + 1 ∧ i + 1 ≤ k ∧ (XT W d n k fr s ↔ XT W d n k (i + 1) s)) := fun h => by
      refine ⟨by omega, rfl, by omega, by omega, i4.trans ((XT_step hik h0).trans ⟨fun u => ?_, Or.inl⟩)⟩
      rcases u with v | v
      · exact v
      · exact absurd v h
    rw [show (1 : Int32) = zi 1 from rfl, zi_add, lt_z, zc (show (i : Int) + 1 = ((i + 1 : Nat) : Int) by omega)]
    cases hm : isM W d k i s with
    | false =>
      right
      have gg := go (isM_f hik h0 hm)
      exact ⟨k - (i + 1), i + 1, gg.1, gg.2, by rw [if_pos (by decide)]⟩
    | true =>
      have hor := SOK_or hk hik hsi hm
      obtain ⟨b, r1, r2⟩ := crowd_s hR hk hn g (i + 1) (s ||| 2 ^ i) (by omega) (by omega) hor
      have ez : zi (s : Int) ||| (zi 1 <<< (zi (i : Int) &&& 31)) = zi ((s ||| 2 ^ i : Nat)) := by
        have := zshl i (by omega)
        rw [show (31 : Int32) = zi 31 from rfl, this, zor]
      rw [if_neg (by decide), ez, r1, cI_s]
      cases b with
      | false =>
        right
        have gg := go (fun h => absurd (r2.mpr h) (by decide))
        exact ⟨k - (i + 1), i + 1, gg.1, gg.2, by rw [if_pos (by decide), lt_z]⟩
      | true =>
        left
        refine ⟨true, by rw [if_neg (by decide), if_pos (by decide)]; rfl, ⟨fun _ => i4.mpr ((XT_step hik h0).mpr (Or.inr (r2.mp rfl))), fun _ => rfl⟩⟩
