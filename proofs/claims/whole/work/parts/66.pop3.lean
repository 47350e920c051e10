theorem ctB (x m : Nat) : fb_ct (fun k => x.testBit k) (8 + m) = p8 (x % 256) + fb_ct (fun k => (x / 256).testBit k) m := by
  rw [fb_ct_split]
  have e1 : fb_ct (fun k => x.testBit k) 8 = p8 (x % 256) := fb_ct_cong (fun k hk => by
    show x.testBit k = (x % 2 ^ 8).testBit k
    rw [Nat.testBit_mod_two_pow, decide_eq_true hk, Bool.true_and])
  have e2 : fb_ct (fun k => x.testBit (8 + k)) m = fb_ct (fun k => (x / 256).testBit k) m := fb_ct_cong (fun k hk => by
    show x.testBit (8 + k) = (x / 2 ^ 8).testBit k
    rw [Nat.testBit_div_two_pow, Nat.add_comm])
  rw [e1, e2]
theorem y2_lt (X : Nat) : y2N 8 X < 2 ^ 64 := by
  unfold y2N
  have a3 : rpB 51 8 = 3689348814741910323 := by decide
  have a1 : (X - (X / 2 &&& rpB 85 8)) &&& rpB 51 8 ≤ rpB 51 8 := Nat.and_le_right
  have a2 : (X - (X / 2 &&& rpB 85 8)) / 4 &&& rpB 51 8 ≤ rpB 51 8 := Nat.and_le_right
  rw [a3] at a1 a2 ⊢
  generalize (X - (X / 2 &&& rpB 85 8)) &&& 3689348814741910323 = u at *
  generalize (X - (X / 2 &&& rpB 85 8)) / 4 &&& 3689348814741910323 = v at *
  omega
theorem bcs1 {X : Nat} (hX : X < 2 ^ 64) : lN X - (((lN X).toUInt64 >>> ((1 : Int32).toInt64.toUInt64 &&& Int64.toUInt64 63)).toInt64 &&& (6148914691236517205 : Int64)) = lN (X - (X / 2 &&& rpB 85 8)) := by
  have l1 : X / 2 &&& rpB 85 8 ≤ X := Nat.le_trans Nat.and_le_left (Nat.div_le_self _ _)
  rw [lsh1 hX, show (6148914691236517205 : Int64) = lN (rpB 85 8) from by decide +kernel, fb_andL]
  exact lNsub l1
theorem bcs2 {X : Nat} (hX : X < 2 ^ 64) : (lN (X - (X / 2 &&& rpB 85 8)) &&& (3689348814741910323 : Int64)) + (((lN (X - (X / 2 &&& rpB 85 8))).toUInt64 >>> ((2 : Int32).toInt64.toUInt64 &&& Int64.toUInt64 63)).toInt64 &&& (3689348814741910323 : Int64)) = lN (y2N 8 X) := by
  rw [lsh2 (Nat.lt_of_le_of_lt (Nat.sub_le _ _) hX), show (3689348814741910323 : Int64) = lN (rpB 51 8) from by decide +kernel, fb_andL, fb_andL, lNadd, y2N]
theorem bcs3 (X : Nat) : (lN (y2N 8 X) + ((lN (y2N 8 X)).toUInt64 >>> ((4 : Int32).toInt64.toUInt64 &&& Int64.toUInt64 63)).toInt64) &&& (1085102592571150095 : Int64) = lN (dgN 8 X) := by
  rw [lsh4 (y2_lt X), lNadd, show (1085102592571150095 : Int64) = lN (rpB 15 8) from by decide +kernel, fb_andL, step3]
theorem bitCountL {M : PM} {X : Nat} (hX : X < 2 ^ 64) : F_J13_bitCount_95d88 M (lN X) = rI (zi (fb_ct (fun k => X.testBit k) 64)) M := by
  unfold F_J13_bitCount_95d88
  rw [lt_z, bcs1 hX, lt_z, bcs2 hX, lt_z, bcs3]
  show rI (sm8 (lN (dgN 8 X))) M = _
  have k0 : fb_ct (fun k => X.testBit k) 64 = p8 (X % 256) + fb_ct (fun k => (X / 256).testBit k) 56 := ctB X 56
  have k1 : fb_ct (fun k => (X / 256).testBit k) 56 = p8 (X / 256 % 256) + fb_ct (fun k => (X / 256 / 256).testBit k) 48 := ctB (X / 256) 48
  have k2 : fb_ct (fun k => (X / 256 / 256).testBit k) 48 = p8 (X / 256 / 256 % 256) + fb_ct (fun k => (X / 256 / 256 / 256).testBit k) 40 := ctB (X / 256 / 256) 40
  have k3 : fb_ct (fun k => (X / 256 / 256 / 256).testBit k) 40 = p8 (X / 256 / 256 / 256 % 256) + fb_ct (fun k => (X / 256 / 256 / 256 / 256).testBit k) 32 := ctB (X / 256 / 256 / 256) 32
  have k4 : fb_ct (fun k => (X / 256 / 256 / 256 / 256).testBit k) 32 = p8 (X / 256 / 256 / 256 / 256 % 256) + fb_ct (fun k => (X / 256 / 256 / 256 / 256 / 256).testBit k) 24 := ctB (X / 256 / 256 / 256 / 256) 24
  have k5 : fb_ct (fun k => (X / 256 / 256 / 256 / 256 / 256).testBit k) 24 = p8 (X / 256 / 256 / 256 / 256 / 256 % 256) + fb_ct (fun k => (X / 256 / 256 / 256 / 256 / 256 / 256).testBit k) 16 := ctB (X / 256 / 256 / 256 / 256 / 256) 16
  have k6 : fb_ct (fun k => (X / 256 / 256 / 256 / 256 / 256 / 256).testBit k) 16 = p8 (X / 256 / 256 / 256 / 256 / 256 / 256 % 256) + fb_ct (fun k => (X / 256 / 256 / 256 / 256 / 256 / 256 / 256).testBit k) 8 := ctB (X / 256 / 256 / 256 / 256 / 256 / 256) 8
  have k7 : fb_ct (fun k => (X / 256 / 256 / 256 / 256 / 256 / 256 / 256).testBit k) 8 = p8 (X / 256 / 256 / 256 / 256 / 256 / 256 / 256 % 256) + 0 := ctB (X / 256 / 256 / 256 / 256 / 256 / 256 / 256) 0
  have hs := sum8 (D := dgN 8 X) (by rw [dgN]) (by rw [dgN]) (by rw [dgN]) (by rw [dgN]) (by rw [dgN]) (by rw [dgN]) (by rw [dgN]) (by rw [dgN, dgN]) (p8_le (X % 256)) (p8_le (X / 256 % 256)) (p8_le (X / 256 / 256 % 256)) (p8_le (X / 256 / 256 / 256 % 256)) (p8_le (X / 256 / 256 / 256 / 256 % 256)) (p8_le (X / 256 / 256 / 256 / 256 / 256 % 256)) (p8_le (X / 256 / 256 / 256 / 256 / 256 / 256 % 256)) (p8_le (X / 256 / 256 / 256 / 256 / 256 / 256 / 256 % 256))
  rw [hs, k0, k1, k2, k3, k4, k5, k6, k7]
  simp only [Nat.add_assoc, Nat.add_zero]
