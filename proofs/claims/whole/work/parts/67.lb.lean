/-! longs by their bits -/
theorem lb_ext {x y : Int64} (h : ∀ i, i < 64 → lb x i = lb y i) : x = y := Int64.toBitVec_inj.mp (BitVec.eq_of_getLsbD_eq (fun i hi => h i hi))
theorem lb_and (x y : Int64) (i : Nat) : lb (x &&& y) i = (lb x i && lb y i) := by unfold lb; rw [Int64.toBitVec_and, BitVec.getLsbD_and]
theorem lb_or (x y : Int64) (i : Nat) : lb (x ||| y) i = (lb x i || lb y i) := by unfold lb; rw [Int64.toBitVec_or, BitVec.getLsbD_or]
theorem lb_xor (x y : Int64) (i : Nat) : lb (x ^^^ y) i = (lb x i ^^ lb y i) := by unfold lb; rw [Int64.toBitVec_xor, BitVec.getLsbD_xor]
theorem lb_m1 : ∀ i, i < 64 → lb (-1) i = true := by decide +kernel
theorem lb_0 (i : Nat) : lb 0 i = false := BitVec.getLsbD_zero
theorem lb_not (x : Int64) {i : Nat} (hi : i < 64) : lb (x ^^^ (-1)) i = !lb x i := by
  rw [lb_xor, lb_m1 i hi]
  cases lb x i <;> rfl
theorem bitCount_lb {M : PM} (x : Int64) : F_J13_bitCount_95d88 M x = rI (zi (fb_ct (lb x) 64)) M := by
  obtain ⟨X, hX, rfl⟩ := wb_of x
  rw [bitCountL hX, fb_ct_cong (fun k hk => (lb_lN X hk).symm)]
theorem lb_shl (x : Int64) {k i : Nat} (hk : k < 64) (hi : i < 64) : lb (x <<< ((zi k).toInt64 &&& 63)) i = (decide (k ≤ i) && lb x (i - k)) := by
  obtain ⟨X, hX, rfl⟩ := wb_of x
  rw [show lN X <<< ((zi k).toInt64 &&& 63) = lN (X * 2 ^ k) from wb_shl X hk, lb_lN _ hi, lb_lN X (by omega), Nat.testBit_mul_two_pow]
theorem ct_dec : ∀ n m, m ≤ n → fb_ct (fun i => decide (i < m)) n = m
  | 0, m, h => by
    have : m = 0 := by omega
    subst this; rfl
  | n + 1, m, h => by
    rw [fb_ct_succ]
    by_cases e : m = n + 1
    · subst e
      rw [fb_ct_cong (q := fun i => decide (i < n)) (fun k hk => decide_eq_decide.mpr (by omega)), ct_dec n n (Nat.le_refl n), decide_eq_true (by omega : n < n + 1), if_pos rfl]
    · rw [ct_dec n m (by omega), decide_eq_false (by omega), if_neg (by decide)]; rfl
theorem lb_low (x : Int64) {i : Nat} (hi : i < 64) : lb ((x &&& (-x)) - 1) i = decide (i < fa_first (lb x) 64) := by
  unfold lb
  rw [Int64.toBitVec_sub, Int64.toBitVec_and, Int64.toBitVec_neg, show (1 : Int64).toBitVec = 1#64 from rfl]
  by_cases hm : fa_first (fun i => x.toBitVec.getLsbD i) 64 < 64
  · have h1 := fa_first_yes _ _ hm
    have h2 := fa_first_no (fun i => x.toBitVec.getLsbD i) 64
    generalize fa_first (fun i => x.toBitVec.getLsbD i) 64 = m at *
    have e : x.toBitVec &&& -x.toBitVec = BitVec.twoPow 64 m := by
      refine BitVec.eq_of_getLsbD_eq (fun j hj => ?_)
      rw [BitVec.getLsbD_and, BitVec.getLsbD_neg, BitVec.getLsbD_twoPow, decide_eq_true hm, Bool.true_and, decide_eq_true hj, Bool.true_and]
      rcases Nat.lt_trichotomy j m with q | q | q
      · rw [h2 j q, Bool.false_and, decide_eq_false (by omega)]
      · subst q
        rw [h1, decide_eq_false (fun ⟨k, hk, hk2⟩ => by rw [h2 k hk] at hk2; exact absurd hk2 (by decide)), decide_eq_true rfl]
        rfl
      · rw [decide_eq_true (⟨m, q, h1⟩ : ∃ k, k < j ∧ x.toBitVec.getLsbD k = true), decide_eq_false (by omega : ¬ m = j)]
        cases x.toBitVec.getLsbD j <;> rfl
    rw [e]
    have hp : 2 ^ m < 2 ^ 64 := Nat.pow_lt_pow_right (by decide) hm
    have hp0 : 0 < 2 ^ m := Nat.two_pow_pos m
    have e2 : (BitVec.twoPow 64 m - 1#64).toNat = 2 ^ m - 1 := by
      rw [BitVec.toNat_sub, BitVec.toNat_twoPow_of_lt hm, BitVec.toNat_ofNat]
      omega
    rw [← BitVec.testBit_toNat, e2, Nat.testBit_two_pow_sub_one]
  · have e0 : fa_first (fun i => x.toBitVec.getLsbD i) 64 = 64 := by
      have := fa_first_le (fun i => x.toBitVec.getLsbD i) 64
      omega
    have h2 := fa_first_no (fun i => x.toBitVec.getLsbD i) 64
    rw [e0] at h2
    rw [e0, decide_eq_true hi]
    have e : x.toBitVec = 0#64 := BitVec.eq_of_getLsbD_eq (fun j hj => by rw [h2 j hj, BitVec.getLsbD_zero])
    rw [e]
    exact (by decide +kernel : ∀ j, j < 64 → ((0#64 &&& -0#64) - 1#64).getLsbD j = true) i hi
theorem lowest_s {M : PM} (x : Int64) : F_X10_lowest M x = rI (zi (fa_first (lb x) 64)) M := by
  unfold F_X10_lowest
  rw [bitCount_lb, cI_s, fb_ct_cong (fun k hk => lb_low x hk), ct_dec 64 _ (fa_first_le _ _)]
theorem lb_clr (x : Int64) {i : Nat} (hi : i < 64) : lb (x &&& (x - 1)) i = (lb x i && decide (∃ j, j < i ∧ lb x j = true)) := by
  unfold lb
  rw [Int64.toBitVec_and, Int64.toBitVec_sub, show (1 : Int64).toBitVec = 1#64 from rfl, ← BitVec.not_neg, BitVec.getLsbD_and, BitVec.getLsbD_not, BitVec.getLsbD_neg, decide_eq_true hi]
  cases x.toBitVec.getLsbD i
  · rfl
  · simp only [Bool.true_and, Bool.not_bne, Bool.true_bne]
    cases decide (∃ j, j < i ∧ x.toBitVec.getLsbD j = true) <;> rfl
