theorem divB {a q r k : Nat} (hk : 0 < k) (h : a = r + k * q) (hr : r < k) : a / k = q := by
  rw [h, Nat.add_mul_div_left _ _ hk, Nat.div_eq_of_lt hr, Nat.zero_add]
theorem modB {a q r k : Nat} (h : a = r + k * q) (hr : r < k) : a % k = r := by
  rw [h, Nat.add_mul_mod_self_left, Nat.mod_eq_of_lt hr]
/-- the last steps, of bytes that are 8 at most -/
def sm8 (y : Int64) : Int32 :=
  let y387 := y + ((y.toUInt64 >>> ((8 : Int32).toInt64.toUInt64 &&& Int64.toUInt64 63)).toInt64)
  let y388 := y387 + ((y387.toUInt64 >>> ((16 : Int32).toInt64.toUInt64 &&& Int64.toUInt64 63)).toInt64)
  let y389 := y388 + ((y388.toUInt64 >>> ((32 : Int32).toInt64.toUInt64 &&& Int64.toUInt64 63)).toInt64)
  y389.toInt32 &&& 127
theorem hor {x x2 y y2 a b : Nat} (h1 : x = a + 256 * y) (h2 : x2 = b + 256 * y2) : x + x2 = (a + b) + 256 * (y + y2) := by omega
theorem hor2 {x y z a b : Nat} (h1 : x = a + 256 * y) (h2 : y = b + 256 * z) : x = (a + 256 * b) + 65536 * z := by omega
theorem hor4 {x y z a b : Nat} (h1 : x = a + 65536 * y) (h2 : y = b + 65536 * z) : x = (a + 65536 * b) + 4294967296 * z := by omega
theorem horl {x y a k m : Nat} (h1 : x = a + 256 * y) (ha : a ≤ k) (hy : y ≤ m) : x ≤ k + 256 * m := by omega
theorem bd2 {a b : Nat} (ha : a ≤ 16) (hb : b ≤ 16) : a + 256 * b < 65536 := by omega
theorem bd4 {a b c d : Nat} (ha : a ≤ 32) (hb : b ≤ 32) (hc : c ≤ 32) (hd : d ≤ 32) : (a + 256 * b) + 65536 * (c + 256 * d) < 4294967296 := by omega
theorem ad2 {a b k : Nat} (ha : a ≤ k) (hb : b ≤ k) : a + b ≤ 2 * k := by omega
theorem ad3 {a b c d : Nat} (ha : a < 2 ^ 61) (hb : b < 2 ^ 61) (hc : c < 2 ^ 61) (hd : d < 2 ^ 61) : a < 2 ^ 64 ∧ a + b < 2 ^ 64 ∧ a + b + (c + d) < 2 ^ 64 := by omega
theorem s8a (c0 c1 c2 c3 c4 c5 c6 c7 z : Nat) : (c0 + c1 + (c2 + c3) + (c4 + c5 + (c6 + c7))) + 256 * z = (c0 + c1 + c2 + c3 + c4 + c5 + c6 + c7) + 128 * (2 * z) := by omega
theorem s8b {c0 c1 c2 c3 c4 c5 c6 c7 : Nat} (b0 : c0 ≤ 8) (b1 : c1 ≤ 8) (b2 : c2 ≤ 8) (b3 : c3 ≤ 8) (b4 : c4 ≤ 8) (b5 : c5 ≤ 8) (b6 : c6 ≤ 8) (b7 : c7 ≤ 8) : c0 + c1 + c2 + c3 + c4 + c5 + c6 + c7 < 128 := by omega
theorem sum8 {D D1 D2 D3 D4 D5 D6 D7 c0 c1 c2 c3 c4 c5 c6 c7 : Nat} (h0 : D = c0 + 256 * D1) (h1 : D1 = c1 + 256 * D2) (h2 : D2 = c2 + 256 * D3) (h3 : D3 = c3 + 256 * D4) (h4 : D4 = c4 + 256 * D5) (h5 : D5 = c5 + 256 * D6) (h6 : D6 = c6 + 256 * D7) (h7 : D7 = c7 + 256 * 0) (b0 : c0 ≤ 8) (b1 : c1 ≤ 8) (b2 : c2 ≤ 8) (b3 : c3 ≤ 8) (b4 : c4 ≤ 8) (b5 : c5 ≤ 8) (b6 : c6 ≤ 8) (b7 : c7 ≤ 8) : sm8 (lN D) = zi ((c0 + c1 + c2 + c3 + c4 + c5 + c6 + c7 : Nat)) := by
  have l7 := horl h7 b7 (Nat.le_refl 0)
  have l6 := horl h6 b6 l7
  have l5 := horl h5 b5 l6
  have l4 := horl h4 b4 l5
  have l3 := horl h3 b3 l4
  have l2 := horl h2 b2 l3
  have l1 := horl h1 b1 l2
  have l0 := horl h0 b0 l1
  have a0 := hor h0 h1
  have a1 := hor h1 h2
  have a2 := hor h2 h3
  have a3 := hor h3 h4
  have a4 := hor h4 h5
  have a5 := hor h5 h6
  have a6 := hor h6 h7
  have B0 := hor a0 a2
  have B1 := hor a1 a3
  have B2 := hor a2 a4
  have B3 := hor a3 a5
  have B4 := hor a4 a6
  have e1 : D / 256 = D1 := divB (by decide) h0 (Nat.lt_of_le_of_lt b0 (by decide))
  have e2 : (D + D1) / 65536 = D2 + D3 := divB (by decide) (hor2 a0 a1) (bd2 (ad2 b0 b1) (ad2 b1 b2))
  have e3 : (D + D1 + (D2 + D3)) / 4294967296 = D4 + D5 + (D6 + D7) := divB (by decide) (hor4 (hor2 B0 B1) (hor2 B2 B3)) (bd4 (ad2 (ad2 b0 b1) (ad2 b2 b3)) (ad2 (ad2 b1 b2) (ad2 b3 b4)) (ad2 (ad2 b2 b3) (ad2 b4 b5)) (ad2 (ad2 b3 b4) (ad2 b5 b6)))
  have e4 : (D + D1 + (D2 + D3) + (D4 + D5 + (D6 + D7))) % 128 = c0 + c1 + c2 + c3 + c4 + c5 + c6 + c7 := by
    have := hor B0 B4
    exact modB (this.trans (s8a c0 c1 c2 c3 c4 c5 c6 c7 _)) (s8b b0 b1 b2 b3 b4 b5 b6 b7)
  have m0 : D < 2 ^ 61 := Nat.lt_of_le_of_lt l0 (by decide)
  have m1 : D1 < 2 ^ 61 := Nat.lt_of_le_of_lt l1 (by decide)
  have m2 : D2 < 2 ^ 61 := Nat.lt_of_le_of_lt l2 (by decide)
  have m3 : D3 < 2 ^ 61 := Nat.lt_of_le_of_lt l3 (by decide)
  obtain ⟨n0, n1, n2⟩ := ad3 m0 m1 m2 m3
  unfold sm8
  simp only
  rw [lsh8 n0, lNadd, e1, lsh16 n1, lNadd, e2, lsh32 n2, lNadd, e3]
  have e9 : (lN (D + D1 + (D2 + D3) + (D4 + D5 + (D6 + D7)))).toInt32 = nI (D + D1 + (D2 + D3) + (D4 + D5 + (D6 + D7))) := Int64.toInt32_ofNat'
  rw [e9, show (127 : Int32) = nI (2 ^ 7 - 1) from rfl, fa_mask, show 2 ^ 7 = 128 from rfl, e4]
  rfl
