/-! sets of laws as numbers -/
theorem nst {p : Nat × Nat} (hp : p ∈ kIl) (h16 : p.1 ≠ 16) (h99 : p ∉ [(99, 32), (99, 33), (99, 34)]) {q k : Nat} (hq : q = 16 ∨ (q = 99 ∧ (k = 0 ∨ k = 32 ∨ k = 33 ∨ k = 34))) : ¬ (p.1 = q ∧ p.2 = k) := fun e2 => by
  obtain ⟨p1, p2⟩ := p
  obtain ⟨e3, e4⟩ := e2
  simp only at e3 e4 h16
  subst e3 e4
  rcases hq with rfl | ⟨rfl, rfl | rfl | rfl | rfl⟩
  · exact h16 rfl
  · exact absurd hp (by decide)
  · exact h99 (by decide)
  · exact h99 (by decide)
  · exact h99 (by decide)
theorem bt_zi (L : Nat) {i : Nat} (hi : i < 32) : bt (zi L) i = L.testBit i := by
  show (BitVec.ofNat 32 L).getLsbD i = _
  rw [BitVec.getLsbD_ofNat, decide_eq_true hi, Bool.true_and]
theorem zand (a b : Nat) : zi a &&& zi b = zi ((a &&& b : Nat)) := fa_and a b
theorem zor (a b : Nat) : zi a ||| zi b = zi ((a ||| b : Nat)) := fa_or a b
theorem zshl : ∀ n : Nat, n < 31 → zi 1 <<< (zi n &&& zi 31) = zi ((2 ^ n : Nat)) := by decide +kernel
theorem zsr {L k : Nat} (hL : L < 2147483648) (hk : k < 31) : zi L >>> (zi k &&& zi 31) = zi ((L >>> k : Nat)) := by
  refine b_ext (fun i hi => ?_)
  have h := b_sshr k (by omega) (zi L) hi
  rw [bt_zi (L >>> k) hi, Nat.testBit_shiftRight]
  refine h.trans ?_
  have h31 : bt (zi L) 31 = false := by rw [bt_zi L (by omega)]; exact Nat.testBit_lt_two_pow hL
  by_cases e : k + i < 32
  · rw [if_pos e, bt_zi L e]
  · rw [if_neg e, h31]
    exact (Nat.testBit_lt_two_pow (Nat.lt_of_lt_of_le (show L < 2 ^ 31 from hL) (Nat.pow_le_pow_right (by decide) (by omega : 31 ≤ k + i)))).symm
theorem zbit1 {L k : Nat} (hL : L < 2147483648) (hk : k < 31) : zi L >>> (zi k &&& zi 31) &&& zi 1 = bb (L.testBit k) := by
  rw [zsr hL hk]
  have h := zand (L >>> k) 1
  refine h.trans ?_
  have e : L.testBit k = decide ((L >>> k) % 2 = 1) := by
    rw [Nat.testBit, Nat.one_and_eq_mod_two]
    cases hm : (L >>> k) % 2 with
    | zero => rfl
    | succ m =>
      have : m = 0 := by omega
      subst this
      rfl
  rw [Nat.and_one_is_mod, e]
  by_cases e2 : (L >>> k) % 2 = 1
  · rw [e2]; rfl
  · rw [show (L >>> k) % 2 = 0 by omega]; rfl
theorem isIn_s {M : PM} {L k : Nat} (hL : L < 2147483648) (hk : k < 31) : F_X10_isIn M (zi k) (zi L) = rI (bb (L.testBit k)) M := by
  unfold F_X10_isIn
  rw [show (zi k &&& 31) = (zi k &&& zi 31) from rfl, show zi L >>> (zi k &&& zi 31) &&& 1 = zi L >>> (zi k &&& zi 31) &&& zi 1 from rfl, zbit1 hL hk]
  cases L.testBit k <;> rfl
def obN (p : Nat → Bool) : Nat → Nat
  | 0 => 0
  | k + 1 => obN p k + (if p k = true then 2 ^ k else 0)
theorem obN_lt (p : Nat → Bool) : ∀ n, obN p n < 2 ^ n
  | 0 => Nat.zero_lt_one
  | n + 1 => by
    have ih := obN_lt p n
    rw [obN, Nat.pow_succ]
    split <;> omega
theorem obN_bit (p : Nat → Bool) : ∀ n i, (obN p n).testBit i = (decide (i < n) && p i)
  | 0, i => by rw [obN, Nat.zero_testBit]; rfl
  | n + 1, i => by
    have ih := obN_bit p n i
    have hl := obN_lt p n
    rw [obN]
    by_cases hp : p n = true
    · rw [if_pos hp, Nat.add_comm]
      rcases Nat.lt_trichotomy i n with h | h | h
      · rw [Nat.testBit_two_pow_add_gt h, ih, decide_eq_true h, decide_eq_true (by omega : i < n + 1)]
      · subst h
        rw [Nat.testBit_two_pow_add_eq, ih, decide_eq_false (by omega), decide_eq_true (by omega : i < i + 1), hp]
        rfl
      · rw [decide_eq_false (by omega), Bool.false_and]
        refine Nat.testBit_lt_two_pow (Nat.lt_of_lt_of_le ?_ (Nat.pow_le_pow_right (by decide) (by omega : n + 1 ≤ i)))
        rw [Nat.pow_succ]; omega
    · rw [if_neg hp, Nat.add_zero, ih]
      by_cases h : i = n
      · subst h
        rw [Bool.eq_false_iff.mpr hp, Bool.and_false, Bool.and_false]
      · rw [decide_eq_decide.mpr (by omega : i < n ↔ i < n + 1)]
theorem ob_zi (p : Nat → Bool) : ∀ n, n ≤ 31 → ob p n = zi (obN p n)
  | 0, _ => rfl
  | n + 1, h => by
    have ih := ob_zi p n (by omega)
    have hl := obN_lt p n
    rw [ob, obN, ih]
    by_cases hp : p n = true
    · rw [if_pos hp, if_pos hp, zshl n (by omega), zor]
      refine zc ?_
      congr 1
      have := Nat.two_pow_add_eq_or_of_lt hl 1
      rw [Nat.mul_one] at this
      rw [Nat.add_comm, this, Nat.or_comm]
    · rw [if_neg hp, if_neg hp, show zi 0 = zi ((0 : Nat) : Int) from rfl, zor, Nat.or_zero]
      rfl
/-! are these laws? -/
theorem zmask : ∀ n : Nat, n < 31 → (zi ((2 ^ n : Nat) - 1) ^^^ zi (-1)) = zi (-((2 ^ n : Nat) : Int)) := by decide +kernel
theorem zmbit : ∀ n : Nat, n < 31 → ∀ i, i < 32 → bt (zi (-((2 ^ n : Nat) : Int))) i = decide (n ≤ i) := by decide +kernel
theorem zi_bv {z : Int} (h : 0 ≤ z ∧ z < 2147483648) : (zi z).toBitVec.toNat = z.toNat := by
  show (BitVec.ofInt 32 z).toNat = _
  rw [BitVec.toNat_ofInt]
  omega
theorem zi_bvn {z : Int} (h : -2147483648 ≤ z ∧ z < 0) : ((zi z).toBitVec.toNat : Int) = z + 4294967296 := by
  show ((BitVec.ofInt 32 z).toNat : Int) = _
  rw [BitVec.toNat_ofInt]
  omega
theorem zlaws {z : Int} {n : Nat} (hz : -2147483648 ≤ z ∧ z < 2147483648) (hn : n < 31) : (zi z &&& zi (-((2 ^ n : Nat) : Int)) = zi 0) ↔ (0 ≤ z ∧ z < (2 ^ n : Nat)) := by
  have hp : (2 : Nat) ^ n < 2147483648 := Nat.lt_of_lt_of_le (Nat.pow_lt_pow_right (by decide) hn) (by decide)
  have h1 : (zi z &&& zi (-((2 ^ n : Nat) : Int)) = zi 0) ↔ ∀ i, i < 32 → n ≤ i → bt (zi z) i = false := by
    constructor
    · intro e i hi hni
      have := congrArg (fun x => bt x i) e
      simp only [b_and, zmbit n hn i hi, decide_eq_true hni, Bool.and_true] at this
      rw [this]
      exact b_0 i
    · intro h
      refine b_ext (fun i hi => ?_)
      rw [b_and, zmbit n hn i hi]
      refine Eq.trans ?_ (b_0 i).symm
      by_cases hni : n ≤ i
      · rw [h i hi hni, Bool.false_and]
      · rw [decide_eq_false hni, Bool.and_false]
  rw [h1]
  constructor
  · intro h
    have h2 : (zi z).toBitVec.toNat < 2 ^ n := Nat.lt_pow_two_of_testBit _ (fun i hi => by
      by_cases h32 : i < 32
      · exact h i h32 hi
      · exact Nat.testBit_lt_two_pow (Nat.lt_of_lt_of_le (zi z).toBitVec.isLt (Nat.pow_le_pow_right (by decide) (by omega))))
    by_cases h0 : 0 ≤ z
    · rw [zi_bv ⟨h0, hz.2⟩] at h2
      omega
    · have h3 := zi_bvn (z := z) ⟨hz.1, by omega⟩
      omega
  · intro h i hi hni
    show (zi z).toBitVec.toNat.testBit i = false
    rw [zi_bv (by omega)]
    exact Nat.testBit_lt_two_pow (Nat.lt_of_lt_of_le (by omega : z.toNat < 2 ^ n) (Nat.pow_le_pow_right (by decide) hni))
theorem p2 {n : Nat} (hn : n ≤ 12) : 0 < 2 ^ n ∧ 2 ^ n ≤ 4096 := ⟨Nat.two_pow_pos n, Nat.pow_le_pow_right (by decide) hn⟩
theorem needLaws_t {M : PM} {n : Nat} {z : Int} (hn : mI M 4 4 = zi n) (hb : n ≤ 12) (h : 0 ≤ z ∧ z < (2 ^ n : Nat)) : F_X10_needLaws_0 M (zi z) = rV M := by
  have hp := p2 hb
  unfold F_X10_needLaws_0 F_X10_all
  simp (disch := omega) only [lt_z, cI_s, bV_s, zl, zi_neg, hn, zshl, zi_sub, zmask]
  rw [if_pos ((zlaws (by omega) (by omega)).mpr h)]
  rfl
theorem needLaws_f {M : PM} {n : Nat} {z : Int} (hn : mI M 4 4 = zi n) (hb : n ≤ 12) (hr : -2147483648 ≤ z ∧ z < 2147483648) (h : ¬ (0 ≤ z ∧ z < (2 ^ n : Nat))) : F_X10_needLaws_0 M (zi z) = rE nIAE (rf M 2) := by
  unfold F_X10_needLaws_0 F_X10_all
  simp (disch := omega) only [lt_z, cI_s, bV_s, zl, zi_neg, hn, zshl, zi_sub, zmask]
  rw [if_neg (fun e => h ((zlaws hr (by omega)).mp e))]
  rfl
theorem needOthers_t {M : PM} {n : Nat} {z : Int} (hn : mI M 9 4 = zi n) (hb : n ≤ 12) (h : 0 ≤ z ∧ z < (2 ^ n : Nat)) : F_X10_needOthers_0 M (zi z) = rV M := by
  have hp := p2 hb
  unfold F_X10_needOthers_0 F_X10_all
  simp (disch := omega) only [lt_z, cI_s, bV_s, zl, zi_neg, hn, zshl, zi_sub, zmask]
  rw [if_pos ((zlaws (by omega) (by omega)).mpr h)]
  rfl
theorem needOthers_f {M : PM} {n : Nat} {z : Int} (hn : mI M 9 4 = zi n) (hb : n ≤ 12) (hr : -2147483648 ≤ z ∧ z < 2147483648) (h : ¬ (0 ≤ z ∧ z < (2 ^ n : Nat))) : F_X10_needOthers_0 M (zi z) = rE nIAE (rf M 2) := by
  unfold F_X10_needOthers_0 F_X10_all
  simp (disch := omega) only [lt_z, cI_s, bV_s, zl, zi_neg, hn, zshl, zi_sub, zmask]
  rw [if_neg (fun e => h ((zlaws hr (by omega)).mp e))]
  rfl
theorem areLaws_t {M : PM} {n : Nat} {z : Int} (hn : mA M 103 0 = zi n) (hb : n ≤ 12) (h : 0 ≤ z ∧ z < (2 ^ n : Nat)) : F_X11_areLaws_99 M (zi z) = rI (zi 1) M := by
  have hp := p2 hb
  unfold F_X11_areLaws_99
  simp (disch := omega) only [lt_z, cI_s, cJ_s, cV_s, bI_s, bI_e, bV_s, bV_e, zl, zi_neg, zi_add, zi_sub, zi_mul, ↓reduceIte, zb0, zb1, bb_and, bb_t, bb_f, zi_ltT, zi_ltF, zi_leT, zi_leF, zi_eqT, zi_eqF, zi_ixT, zi_nat, Int.toNat_natCast, Int.reduceToNat, ltNT, and_self, hn, zshl, in_t]
theorem areLaws_f {M : PM} {n : Nat} {z : Int} (hn : mA M 103 0 = zi n) (hb : n ≤ 12) (hr : -2147483648 ≤ z ∧ z < 2147483648) (h : ¬ (0 ≤ z ∧ z < (2 ^ n : Nat))) : F_X11_areLaws_99 M (zi z) = rI (zi 0) M := by
  have hp := p2 hb
  unfold F_X11_areLaws_99
  simp (disch := omega) only [lt_z, cI_s, cJ_s, cV_s, bI_s, bI_e, bV_s, bV_e, zl, zi_neg, zi_add, zi_sub, zi_mul, ↓reduceIte, zb0, zb1, bb_and, bb_t, bb_f, zi_ltT, zi_ltF, zi_leT, zi_leF, zi_eqT, zi_eqF, zi_ixT, zi_nat, Int.toNat_natCast, Int.reduceToNat, ltNT, and_self, hn, zshl, in_f]
theorem areOthers_t {M : PM} {n : Nat} {z : Int} (hn : mA M 103 1 = zi n) (hb : n ≤ 12) (h : 0 ≤ z ∧ z < (2 ^ n : Nat)) : F_X11_areOthers_99 M (zi z) = rI (zi 1) M := by
  have hp := p2 hb
  unfold F_X11_areOthers_99
  simp (disch := omega) only [lt_z, cI_s, cJ_s, cV_s, bI_s, bI_e, bV_s, bV_e, zl, zi_neg, zi_add, zi_sub, zi_mul, ↓reduceIte, zb0, zb1, bb_and, bb_t, bb_f, zi_ltT, zi_ltF, zi_leT, zi_leF, zi_eqT, zi_eqF, zi_ixT, zi_nat, Int.toNat_natCast, Int.reduceToNat, ltNT, and_self, hn, zshl, in_t]
theorem areOthers_f {M : PM} {n : Nat} {z : Int} (hn : mA M 103 1 = zi n) (hb : n ≤ 12) (hr : -2147483648 ≤ z ∧ z < 2147483648) (h : ¬ (0 ≤ z ∧ z < (2 ^ n : Nat))) : F_X11_areOthers_99 M (zi z) = rI (zi 0) M := by
  have hp := p2 hb
  unfold F_X11_areOthers_99
  simp (disch := omega) only [lt_z, cI_s, cJ_s, cV_s, bI_s, bI_e, bV_s, bV_e, zl, zi_neg, zi_add, zi_sub, zi_mul, ↓reduceIte, zb0, zb1, bb_and, bb_t, bb_f, zi_ltT, zi_ltF, zi_leT, zi_leF, zi_eqT, zi_eqF, zi_ixT, zi_nat, Int.toNat_natCast, Int.reduceToNat, ltNT, and_self, hn, zshl, in_f]
