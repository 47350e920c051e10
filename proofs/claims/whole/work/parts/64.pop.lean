/-! how many bits a long has -/
theorem tbB {a x : Nat} (ha : a < 256) (i : Nat) : (a + 256 * x).testBit i = if i < 8 then a.testBit i else x.testBit (i - 8) := by
  have := Nat.testBit_two_pow_mul_add x (show a < 2 ^ 8 from ha) i
  rw [show 2 ^ 8 * x + a = a + 256 * x by omega] at this
  exact this
theorem andB {a b x y : Nat} (ha : a < 256) (hb : b < 256) : (a + 256 * x) &&& (b + 256 * y) = (a &&& b) + 256 * (x &&& y) := by
  have hab : a &&& b < 256 := Nat.lt_of_le_of_lt Nat.and_le_left ha
  refine Nat.eq_of_testBit_eq (fun i => ?_)
  rw [Nat.testBit_and, tbB ha, tbB hb, tbB hab]
  split <;> rw [Nat.testBit_and]
theorem shB {a b x y s : Nat} (ha : a < 256) (hs : s ≤ 7) (hb : b < 2 ^ (8 - s)) : (a + 256 * x) / 2 ^ s &&& (b + 256 * y) = (a / 2 ^ s &&& b) + 256 * (x / 2 ^ s &&& y) := by
  have hb8 : b < 256 := Nat.lt_of_lt_of_le hb (Nat.pow_le_pow_right (by decide) (by omega : 8 - s ≤ 8))
  have hab : a / 2 ^ s &&& b < 256 := Nat.lt_of_le_of_lt Nat.and_le_right hb8
  refine Nat.eq_of_testBit_eq (fun i => ?_)
  rw [Nat.testBit_and, tbB hb8, tbB hab, Nat.testBit_div_two_pow, tbB ha]
  by_cases h : i < 8
  · rw [if_pos h, if_pos h, Nat.testBit_and, Nat.testBit_div_two_pow]
    by_cases h2 : i + s < 8
    · rw [if_pos h2]
    · rw [Nat.testBit_lt_two_pow (Nat.lt_of_lt_of_le hb (Nat.pow_le_pow_right (by decide) (by omega : 8 - s ≤ i))), Bool.and_false, Bool.and_false]
  · rw [if_neg h, if_neg h, Nat.testBit_and, Nat.testBit_div_two_pow, if_neg (by omega), show i + s - 8 = i - 8 + s by omega]
def rpB (b : Nat) : Nat → Nat
  | 0 => 0
  | n + 1 => b + 256 * rpB b n
def p8 (a : Nat) : Nat := fb_ct (fun k => a.testBit k) 8
def y2B (a : Nat) : Nat := ((a - (a / 2 &&& 85)) &&& 51) + ((a - (a / 2 &&& 85)) / 4 &&& 51)
theorem p8_all : ∀ a : Fin 256, y2B a.val % 16 + y2B a.val / 16 = p8 a.val ∧ y2B a.val % 16 ≤ 4 ∧ y2B a.val / 16 ≤ 4 ∧ (a.val - (a.val / 2 &&& 85) < 256) := by decide +kernel
def y2N (n x : Nat) : Nat := ((x - (x / 2 &&& rpB 85 n)) &&& rpB 51 n) + ((x - (x / 2 &&& rpB 85 n)) / 4 &&& rpB 51 n)
theorem y2N_0 (x : Nat) : y2N 0 x = 0 := by
  show (_ &&& 0) + (_ &&& 0) = 0
  rw [Nat.and_zero, Nat.and_zero]
theorem y2N_s (n x : Nat) : y2N (n + 1) x = y2B (x % 256) + 256 * y2N n (x / 256) := by
  have hm : x % 256 < 256 := Nat.mod_lt _ (by decide)
  have e : x = x % 256 + 256 * (x / 256) := by omega
  have h1 := shB (a := x % 256) (x := x / 256) (b := 85) (y := rpB 85 n) (s := 1) hm (by decide) (by decide)
  rw [← e] at h1
  have l1 : x % 256 / 2 &&& 85 ≤ x % 256 := Nat.le_trans Nat.and_le_left (Nat.div_le_self _ _)
  have l2 : x / 256 / 2 &&& rpB 85 n ≤ x / 256 := Nat.le_trans Nat.and_le_left (Nat.div_le_self _ _)
  have h2 : x - (x / 2 &&& rpB 85 (n + 1)) = (x % 256 - (x % 256 / 2 &&& 85)) + 256 * (x / 256 - (x / 256 / 2 &&& rpB 85 n)) := by
    show x - (x / 2 ^ 1 &&& (85 + 256 * rpB 85 n)) = _
    rw [h1]
    show x - ((x % 256 / 2 &&& 85) + 256 * (x / 256 / 2 &&& rpB 85 n)) = _
    generalize x % 256 / 2 &&& 85 = u at *
    generalize x / 256 / 2 &&& rpB 85 n = v at *
    omega
  have h3 : x % 256 - (x % 256 / 2 &&& 85) < 256 := by omega
  unfold y2N y2B
  rw [h2]
  show (_ &&& (51 + 256 * rpB 51 n)) + (_ / 2 ^ 2 &&& (51 + 256 * rpB 51 n)) = _
  rw [andB h3 (by decide), shB h3 (by decide) (by decide), show 2 ^ 2 = 4 from rfl]
  generalize x % 256 - (x % 256 / 2 &&& 85) &&& 51 = u1
  generalize (x % 256 - (x % 256 / 2 &&& 85)) / 4 &&& 51 = u2
  generalize x / 256 - (x / 256 / 2 &&& rpB 85 n) &&& rpB 51 n = u3
  generalize (x / 256 - (x / 256 / 2 &&& rpB 85 n)) / 4 &&& rpB 51 n = u4
  omega
theorem y2N_lo : ∀ n x, y2N n x % 16 ≤ 4
  | 0, x => by rw [y2N_0]; decide
  | n + 1, x => by
    have := (p8_all ⟨x % 256, Nat.mod_lt _ (by decide)⟩).2.1
    simp only at this
    rw [y2N_s]
    omega
def dgN : Nat → Nat → Nat
  | 0, _ => 0
  | n + 1, x => p8 (x % 256) + 256 * dgN n (x / 256)
theorem step3 : ∀ n x, (y2N n x + y2N n x / 16) &&& rpB 15 n = dgN n x
  | 0, x => by
    show _ &&& 0 = 0
    rw [Nat.and_zero]
  | n + 1, x => by
    have ih := step3 n (x / 256)
    have hl := y2N_lo n (x / 256)
    obtain ⟨q1, q2, q3, -⟩ := p8_all ⟨x % 256, Nat.mod_lt _ (by decide)⟩
    simp only at q1 q2 q3
    rw [y2N_s, dgN, ← ih, ← q1]
    generalize y2B (x % 256) = a at *
    generalize y2N n (x / 256) = y at *
    have e : a + 256 * y + (a + 256 * y) / 16 = (a % 16 + a / 16 + 16 * (a / 16 + y % 16)) + 256 * (y + y / 16) := by omega
    rw [e]
    show _ &&& (15 + 256 * rpB 15 n) = _
    rw [andB (by omega) (by decide)]
    have e2 : (a % 16 + a / 16 + 16 * (a / 16 + y % 16)) &&& 15 = a % 16 + a / 16 := by
      have := Nat.and_two_pow_sub_one_eq_mod (a % 16 + a / 16 + 16 * (a / 16 + y % 16)) 4
      rw [show 2 ^ 4 - 1 = 15 from rfl] at this
      rw [this]
      omega
    rw [e2]
theorem p8_le (a : Nat) : p8 a ≤ 8 := fb_ct_le _ _
theorem ct_bytes : ∀ n x, fb_ct (fun k => x.testBit k) (8 * n) = (match n with | 0 => 0 | n + 1 => p8 (x % 256) + fb_ct (fun k => (x / 256).testBit k) (8 * n))
  | 0, x => rfl
  | n + 1, x => by
    show fb_ct (fun k => x.testBit k) (8 * (n + 1)) = p8 (x % 256) + fb_ct (fun k => (x / 256).testBit k) (8 * n)
    rw [show 8 * (n + 1) = 8 + 8 * n by omega, fb_ct_split]
    have e1 : fb_ct (fun k => x.testBit k) 8 = p8 (x % 256) := fb_ct_cong (fun k hk => by
      show x.testBit k = (x % 2 ^ 8).testBit k
      rw [Nat.testBit_mod_two_pow, decide_eq_true hk, Bool.true_and])
    have e2 : fb_ct (fun k => x.testBit (8 + k)) (8 * n) = fb_ct (fun k => (x / 256).testBit k) (8 * n) := fb_ct_cong (fun k hk => by
      show x.testBit (8 + k) = (x / 2 ^ 8).testBit k
      rw [Nat.testBit_div_two_pow, Nat.add_comm])
    rw [e1, e2]
theorem lNadd (a b : Nat) : lN a + lN b = lN (a + b) := (Int64.ofNat_add a b).symm
theorem lNsub {a b : Nat} (h : b ≤ a) : lN a - lN b = lN (a - b) := (Int64.ofNat_sub a b h).symm
theorem lb_lN (x : Nat) {i : Nat} (hi : i < 64) : lb (lN x) i = x.testBit i := by
  show (BitVec.ofNat 64 x).getLsbD i = _
  rw [BitVec.getLsbD_ofNat, decide_eq_true hi, Bool.true_and]
theorem lshr {n k : Nat} {y : UInt64} (hn : n < 2 ^ 64) (hk : k < 64) (hy : y = (nI k).toInt64.toUInt64 &&& Int64.toUInt64 63) : ((lN n).toUInt64 >>> y).toInt64 = lN (n / 2 ^ k) := by
  rw [hy]; exact wb_shr hn hk
theorem lsh1 {n : Nat} (hn : n < 2 ^ 64) : ((lN n).toUInt64 >>> ((1 : Int32).toInt64.toUInt64 &&& Int64.toUInt64 63)).toInt64 = lN (n / 2) := lshr (k := 1) hn (by decide) rfl
theorem lsh2 {n : Nat} (hn : n < 2 ^ 64) : ((lN n).toUInt64 >>> ((2 : Int32).toInt64.toUInt64 &&& Int64.toUInt64 63)).toInt64 = lN (n / 4) := lshr (k := 2) hn (by decide) rfl
theorem lsh4 {n : Nat} (hn : n < 2 ^ 64) : ((lN n).toUInt64 >>> ((4 : Int32).toInt64.toUInt64 &&& Int64.toUInt64 63)).toInt64 = lN (n / 16) := lshr (k := 4) hn (by decide) rfl
theorem lsh8 {n : Nat} (hn : n < 2 ^ 64) : ((lN n).toUInt64 >>> ((8 : Int32).toInt64.toUInt64 &&& Int64.toUInt64 63)).toInt64 = lN (n / 256) := lshr (k := 8) hn (by decide) rfl
theorem lsh16 {n : Nat} (hn : n < 2 ^ 64) : ((lN n).toUInt64 >>> ((16 : Int32).toInt64.toUInt64 &&& Int64.toUInt64 63)).toInt64 = lN (n / 65536) := lshr (k := 16) hn (by decide) rfl
theorem lsh32 {n : Nat} (hn : n < 2 ^ 64) : ((lN n).toUInt64 >>> ((32 : Int32).toInt64.toUInt64 &&& Int64.toUInt64 63)).toInt64 = lN (n / 4294967296) := lshr (k := 32) hn (by decide) rfl
