/-! longs of ints; weeks; free -/
theorem loopL (lo n : Nat) (G : Nat → Nat → Option PR) (res : Option PR) (hend : ∀ f, G (f + 1) n = res) (hstep : ∀ f i, lo ≤ i → i < n → G (f + 1) i = G f (i + 1)) (i f : Nat) (hl : lo ≤ i) (hi : i ≤ n) (hf : n - i < f) : G f i = res :=
  loopI n G (fun o => o = res) (fun i => lo ≤ i) (fun f _ => hend f) (fun f i h h2 => Or.inr ⟨Nat.le_succ_of_le h2, hstep f i h2 h⟩) i f hi hl hf
def zj (z : Int) : Int64 := Int64.ofInt z
theorem zj_to {z : Int} (h : -9223372036854775808 ≤ z ∧ z < 9223372036854775808) : (zj z).toInt = z := Int64.toInt_ofInt_of_le (by omega) (by omega)
theorem zi_j {z : Int} (h : -2147483648 ≤ z ∧ z < 2147483648) : (zi z).toInt64 = zj z := Int64.toInt_inj.mp (by rw [Int32.toInt_toInt64, zi_to h, zj_to (by omega)])
theorem zj_add (a b : Int) : zj a + zj b = zj (a + b) := (Int64.ofInt_add a b).symm
theorem zj_sub (a b : Int) : zj a - zj b = zj (a - b) := (Int64.ofInt_sub a b).symm
theorem zj_mul (a b : Int) : zj a * zj b = zj (a * b) := (Int64.ofInt_mul a b).symm
theorem zj_lt {a b : Int} (ha : -9223372036854775808 ≤ a ∧ a < 9223372036854775808) (hb : -9223372036854775808 ≤ b ∧ b < 9223372036854775808) : (zj a < zj b) = (a < b) := by
  rw [Int64.lt_iff_toInt_lt, zj_to ha, zj_to hb]
theorem zj_eq {a b : Int} (ha : -9223372036854775808 ≤ a ∧ a < 9223372036854775808) (hb : -9223372036854775808 ≤ b ∧ b < 9223372036854775808) : (zj a = zj b) = (a = b) := by
  rw [← Int64.toInt_inj, zj_to ha, zj_to hb]
theorem cmp_lt {a b : Int} (ha : -9223372036854775808 ≤ a) (hb : b < 9223372036854775808) (h : a < b) : lg_cmp (zj a) (zj b) = zi (-1) := by
  unfold lg_cmp
  rw [if_neg (by show ¬ zj b < zj a; rw [zj_lt (by omega) (by omega)]; omega), if_neg (by rw [zj_eq (by omega) (by omega)]; omega)]
  rfl
theorem cmp_gt {a b : Int} (ha : -9223372036854775808 ≤ b) (hb : a < 9223372036854775808) (h : b < a) : lg_cmp (zj a) (zj b) = zi 1 := by
  unfold lg_cmp
  rw [if_pos (by show zj b < zj a; rw [zj_lt (by omega) (by omega)]; omega)]
  rfl
theorem cmp_eq {a b : Int} (h : a = b) : lg_cmp (zj a) (zj b) = zi 0 := by
  rw [h, lg_cmp_self]
  rfl
theorem isWeek_j {M : PM} {z : Int} (hz : -9223372036854775808 ≤ z ∧ z < 9223372036854775808) : F_X10_isWeek M (zj z) = rI (bb (decide (2 ≤ z ∧ z ≤ 24))) M := by
  unfold F_X10_isWeek
  rw [show (2 : Int64) = zj 2 from rfl, show (24 : Int64) = zj 24 from rfl]
  rcases Int.lt_trichotomy z 2 with h | h | h
  · rw [cmp_lt (by omega) (by omega) h, decide_eq_false (by omega)]; simp (disch := omega) only [lt_z, cI_s, cJ_s, cV_s, bI_s, bI_e, bV_s, bV_e, zl, zi_neg, zi_add, zi_sub, zi_mul, ↓reduceIte, zb0, zb1, bb_and, bb_t, bb_f, zi_ltT, zi_ltF, zi_leT, zi_leF, zi_eqT, zi_eqF, zi_ixT, zi_nat, Int.toNat_natCast, Int.reduceToNat, ltNT, and_self]
  · rw [cmp_eq h, cmp_lt (a := z) (b := 24) (by omega) (by omega) (by omega), decide_eq_true (by omega)]; simp (disch := omega) only [lt_z, cI_s, cJ_s, cV_s, bI_s, bI_e, bV_s, bV_e, zl, zi_neg, zi_add, zi_sub, zi_mul, ↓reduceIte, zb0, zb1, bb_and, bb_t, bb_f, zi_ltT, zi_ltF, zi_leT, zi_leF, zi_eqT, zi_eqF, zi_ixT, zi_nat, Int.toNat_natCast, Int.reduceToNat, ltNT, and_self]
  · rw [cmp_gt (by omega) (by omega) h]
    rcases Int.lt_trichotomy z 24 with q | q | q
    · rw [cmp_lt (by omega) (by omega) q, decide_eq_true (by omega)]; simp (disch := omega) only [lt_z, cI_s, cJ_s, cV_s, bI_s, bI_e, bV_s, bV_e, zl, zi_neg, zi_add, zi_sub, zi_mul, ↓reduceIte, zb0, zb1, bb_and, bb_t, bb_f, zi_ltT, zi_ltF, zi_leT, zi_leF, zi_eqT, zi_eqF, zi_ixT, zi_nat, Int.toNat_natCast, Int.reduceToNat, ltNT, and_self]
    · rw [cmp_eq q, decide_eq_true (by omega)]; simp (disch := omega) only [lt_z, cI_s, cJ_s, cV_s, bI_s, bI_e, bV_s, bV_e, zl, zi_neg, zi_add, zi_sub, zi_mul, ↓reduceIte, zb0, zb1, bb_and, bb_t, bb_f, zi_ltT, zi_ltF, zi_leT, zi_leF, zi_eqT, zi_eqF, zi_ixT, zi_nat, Int.toNat_natCast, Int.reduceToNat, ltNT, and_self]
    · rw [cmp_gt (by omega) (by omega) q, decide_eq_false (by omega)]; simp (disch := omega) only [lt_z, cI_s, cJ_s, cV_s, bI_s, bI_e, bV_s, bV_e, zl, zi_neg, zi_add, zi_sub, zi_mul, ↓reduceIte, zb0, zb1, bb_and, bb_t, bb_f, zi_ltT, zi_ltF, zi_leT, zi_leF, zi_eqT, zi_eqF, zi_ixT, zi_nat, Int.toNat_natCast, Int.reduceToNat, ltNT, and_self]
theorem lawsThatMeet_s {M : PM} {C : Cal} {v e : Nat} (hc : WFC C) (c : LawC M 4 (cN C) (cW C) (cD C)) (hv : 0 < v ∧ v ≤ 99) (he : e < 1000) : F_X2_lawsThatMeet_4 M (zi v) (zi e) = rI (ob (fun l => mee (cW C l) (cD C l) v e) (cN C)) M := by
  have hn := hc.1.1
  obtain ⟨a1, a2, a3, a4⟩ := c
  unfold F_X2_lawsThatMeet_4
  exact loopU (cN C) (fun f i => F_X2_lawsThatMeet_4_5 f M (zi v) (zi e) (ob (fun l => mee (cW C l) (cD C l) v e) i) (zi (i : Nat))) _ (fun f => by
      rw [F_X2_lawsThatMeet_4_5]
      simp (disch := omega) only [lt_z, cI_s, cJ_s, cV_s, bI_s, bI_e, bV_s, bV_e, zl, zi_neg, zi_add, zi_sub, zi_mul, ↓reduceIte, zb0, zb1, bb_and, bb_t, bb_f, zi_ltT, zi_ltF, zi_leT, zi_leF, zi_eqT, zi_eqF, zi_ixT, zi_nat, Int.toNat_natCast, Int.reduceToNat, ltNT, and_self, a1]) (fun f i hi => by
      have hw := hc.2.1 i hi
      have hg := gcd_pos (a := cW C i) hv.1
      have hg2 := gcd_le (a := cW C i) hv.1
      have hm1 := Int.emod_nonneg ((cD C i : Int) - e) (b := (Nat.gcd (cW C i) v : Int)) (by omega)
      have hm2 := Int.emod_lt_of_pos ((cD C i : Int) - e) (b := (Nat.gcd (cW C i) v : Int)) (by omega)
      have a2i := a2 i hi
      have a3i := a3 i hi
      rw [F_X2_lawsThatMeet_4_5, zc (show ((i + 1 : Nat) : Int) = i + 1 by omega), ob]
      unfold F_X2_lawsThatMeet_4_53
      by_cases q : ((cD C i : Int) - e) % (Nat.gcd (cW C i) v : Int) = 0
      · rw [show mee (cW C i) (cD C i) v e = true from decide_eq_true q, if_pos rfl]
        simp (disch := omega) only [lt_z, cI_s, cJ_s, cV_s, bI_s, bI_e, bV_s, bV_e, zl, zi_neg, zi_add, zi_sub, zi_mul, ↓reduceIte, zb0, zb1, bb_and, bb_t, bb_f, zi_ltT, zi_ltF, zi_leT, zi_leF, zi_eqT, zi_eqF, zi_ixT, zi_nat, Int.toNat_natCast, Int.reduceToNat, ltNT, and_self, a1, a2i, a3i, commonDivisor_s, left_s, q]
      · rw [show mee (cW C i) (cD C i) v e = false from decide_eq_false q, if_neg (by decide : ¬ false = true)]
        simp (disch := omega) only [lt_z, cI_s, cJ_s, cV_s, bI_s, bI_e, bV_s, bV_e, zl, zi_neg, zi_add, zi_sub, zi_mul, ↓reduceIte, zb0, zb1, bb_and, bb_t, bb_f, zi_ltT, zi_ltF, zi_leT, zi_leF, zi_eqT, zi_eqF, zi_ixT, zi_nat, Int.toNat_natCast, Int.reduceToNat, ltNT, and_self, a1, a2i, a3i, commonDivisor_s, left_s]) 0 FUEL (by omega) (FUEL_gt (by omega))
/-- none of the laws of L meets day d of a week of v -/
def nmt (C : Cal) (L v d : Nat) : Bool := noB (fun l => L.testBit l && mee v d (cW C l) (cD C l)) (cN C)
theorem noneMeets_s {M : PM} {C : Cal} {L v d : Nat} (hc : WFC C) (c : LawC M 4 (cN C) (cW C) (cD C)) (hL : L < 2 ^ cN C) (hv : 0 < v ∧ v ≤ 99) (hd : d < 1000) : F_X2_noneMeets_4 M (zi L) (zi v) (zi d) = rI (bb (nmt C L v d)) M := by
  have hn := hc.1.1
  have hp2 := p2 hn
  unfold F_X2_noneMeets_4
  rw [lawsThatMeet_s hc c hv hd, cI_s, ob_zi _ _ (by omega), zand]
  have hbit : ∀ k, (L &&& obN (fun l => mee (cW C l) (cD C l) v d) (cN C)).testBit k = (L.testBit k && (decide (k < cN C) && mee (cW C k) (cD C k) v d)) := fun k => by rw [Nat.testBit_and, obN_bit]
  have hlt : L &&& obN (fun l => mee (cW C l) (cD C l) v d) (cN C) < 4096 := Nat.lt_of_le_of_lt Nat.and_le_left (by omega)
  generalize L &&& obN (fun l => mee (cW C l) (cD C l) v d) (cN C) = X at hbit hlt
  by_cases e : X = 0
  · have e2 : nmt C L v d = true := noB_t (fun k hk => by
      have := hbit k
      rw [e, Nat.zero_testBit, decide_eq_true hk, Bool.true_and, mee_comm] at this
      exact this.symm)
    rw [e2, e]
    simp (disch := omega) only [lt_z, cI_s, cJ_s, cV_s, bI_s, bI_e, bV_s, bV_e, zl, zi_neg, zi_add, zi_sub, zi_mul, ↓reduceIte, zb0, zb1, bb_and, bb_t, bb_f, zi_ltT, zi_ltF, zi_leT, zi_leF, zi_eqT, zi_eqF, zi_ixT, zi_nat, Int.toNat_natCast, Int.reduceToNat, ltNT, and_self, Int.natCast_zero]
  · obtain ⟨k, hk⟩ := Nat.exists_testBit_of_ne_zero e
    rw [hbit k] at hk
    have hkn : k < cN C := by
      rcases Nat.lt_or_ge k (cN C) with h | h
      · exact h
      · rw [decide_eq_false (by omega), Bool.false_and, Bool.and_false] at hk
        exact absurd hk (by decide)
    rw [decide_eq_true hkn, Bool.true_and, mee_comm] at hk
    have e2 : nmt C L v d = false := noB_f hkn hk
    rw [e2]
    simp (disch := omega) only [lt_z, cI_s, cJ_s, cV_s, bI_s, bI_e, bV_s, bV_e, zl, zi_neg, zi_add, zi_sub, zi_mul, ↓reduceIte, zb0, zb1, bb_and, bb_t, bb_f, zi_ltT, zi_ltF, zi_leT, zi_leF, zi_eqT, zi_eqF, zi_ixT, zi_nat, Int.toNat_natCast, Int.reduceToNat, ltNT, and_self]
def frI (C : Cal) (L v : Nat) : Nat → Int × Int → Int × Int
  | 0, a => a
  | d + 1, a => if nmt C L v d = true then ((frI C L v d a).1 + 1, if (frI C L v d a).2 = -1 then 100 * (v : Int) + d else (frI C L v d a).2) else frI C L v d a
def frO (C : Cal) (L : Nat) (wk : Int) : Nat → Int × Int
  | 0 => (0, -1)
  | v + 1 => if v < 2 then (0, -1) else if wk = 0 ∨ wk = v then frI C L v v (frO C L wk v) else frO C L wk v
theorem frI_ok {C : Cal} {L v : Nat} {a : Int × Int} (hv : v ≤ 24) (ha : -1 ≤ a.2 ∧ a.2 < 3000) : ∀ d, d ≤ v → -1 ≤ (frI C L v d a).2 ∧ (frI C L v d a).2 < 3000
  | 0, _ => ha
  | d + 1, hd => by
    have ih := frI_ok (C := C) (L := L) hv ha d (by omega)
    rw [frI]
    split
    · simp only
      split <;> omega
    · exact ih
theorem frO_ok {C : Cal} {L : Nat} {wk : Int} : ∀ v, v ≤ 25 → -1 ≤ (frO C L wk v).2 ∧ (frO C L wk v).2 < 3000
  | 0, _ => by show -1 ≤ (-1 : Int) ∧ (-1 : Int) < 3000; omega
  | v + 1, hv => by
    have ih := frO_ok (C := C) (L := L) (wk := wk) v (by omega)
    rw [frO]
    split
    · simp only; omega
    · split
      · exact frI_ok (by omega) ih v (Nat.le_refl _)
      · exact ih
def frV (C : Cal) (L : Nat) (wk x : Int) : Int := if x = 0 then (frO C L wk 25).1 else (frO C L wk 25).2
theorem free50 {M : PM} {C : Cal} {L v : Nat} {wk x : Int} {a : Int × Int} {k : PM → Int32 → Int32 → Int32 → Int32 → Int32 → Int32 → Option PR} (hc : WFC C) (c : LawC M 4 (cN C) (cW C) (cD C)) (hL : L < 2 ^ cN C) (hv : 2 ≤ v ∧ v ≤ 24) (hk : wk = 0 ∨ 2 ≤ wk ∧ wk ≤ 24) (ha : -1 ≤ a.2 ∧ a.2 < 3000) : F_X10_free_0_50 k FUEL M (zi L) (zi wk) (zi x) (zi a.1) (zi a.2) (zi v) (zi 0) = k M (zi L) (zi wk) (zi x) (zi (if wk = 0 ∨ wk = v then frI C L v v a else a).1) (zi (if wk = 0 ∨ wk = v then frI C L v v a else a).2) (zi (v + 1)) := by
  by_cases hw : wk = 0 ∨ wk = v
  · rw [if_pos hw]
    exact loopU v (fun f d => F_X10_free_0_50 k f M (zi L) (zi wk) (zi x) (zi (frI C L v d a).1) (zi (frI C L v d a).2) (zi v) (zi (d : Nat))) _ (fun f => by
        rw [F_X10_free_0_50]
        unfold F_X10_free_0_115
        simp (disch := omega) only [lt_z, cI_s, cJ_s, cV_s, bI_s, bI_e, bV_s, bV_e, zl, zi_neg, zi_add, zi_sub, zi_mul, ↓reduceIte, zb0, zb1, bb_and, bb_t, bb_f, zi_ltT, zi_ltF, zi_leT, zi_leF, zi_eqT, zi_eqF, zi_ixT, zi_nat, Int.toNat_natCast, Int.reduceToNat, ltNT, and_self]) (fun f d hd => by
        have hr := frI_ok (C := C) (L := L) hv.2 ha d (by omega)
        have hm := noneMeets_s (d := d) hc c hL (v := v) (by omega) (by omega)
        rw [F_X10_free_0_50, zc (show ((d + 1 : Nat) : Int) = d + 1 by omega), frI]
        have key : F_X10_free_0_67 k (F_X10_free_0_50 k f) M (zi L) (zi wk) (zi x) (zi (frI C L v d a).1) (zi (frI C L v d a).2) (zi v) (zi d) = F_X10_free_0_50 k f M (zi L) (zi wk) (zi x) (zi (if nmt C L v d = true then ((frI C L v d a).1 + 1, if (frI C L v d a).2 = -1 then 100 * (v : Int) + d else (frI C L v d a).2) else frI C L v d a).1) (zi (if nmt C L v d = true then ((frI C L v d a).1 + 1, if (frI C L v d a).2 = -1 then 100 * (v : Int) + d else (frI C L v d a).2) else frI C L v d a).2) (zi v) (zi (d + 1)) := by
          unfold F_X10_free_0_67 F_X10_free_0_107 F_X10_free_0_109
          rw [hm, cI_s]
          generalize frI C L v d a = b at *
          cases nmt C L v d
          · rw [if_neg (by decide : ¬ false = true)]
            simp (disch := omega) only [lt_z, cI_s, cJ_s, cV_s, bI_s, bI_e, bV_s, bV_e, zl, zi_neg, zi_add, zi_sub, zi_mul, ↓reduceIte, zb0, zb1, bb_and, bb_t, bb_f, zi_ltT, zi_ltF, zi_leT, zi_leF, zi_eqT, zi_eqF, zi_ixT, zi_nat, Int.toNat_natCast, Int.reduceToNat, ltNT, and_self]
          · rw [if_pos rfl]
            by_cases q : b.2 = -1
            · rw [if_pos q]; simp (disch := omega) only [lt_z, cI_s, cJ_s, cV_s, bI_s, bI_e, bV_s, bV_e, zl, zi_neg, zi_add, zi_sub, zi_mul, ↓reduceIte, zb0, zb1, bb_and, bb_t, bb_f, zi_ltT, zi_ltF, zi_leT, zi_leF, zi_eqT, zi_eqF, zi_ixT, zi_nat, Int.toNat_natCast, Int.reduceToNat, ltNT, and_self]
            · rw [if_neg q]; simp (disch := omega) only [lt_z, cI_s, cJ_s, cV_s, bI_s, bI_e, bV_s, bV_e, zl, zi_neg, zi_add, zi_sub, zi_mul, ↓reduceIte, zb0, zb1, bb_and, bb_t, bb_f, zi_ltT, zi_ltF, zi_leT, zi_leF, zi_eqT, zi_eqF, zi_ixT, zi_nat, Int.toNat_natCast, Int.reduceToNat, ltNT, and_self]
        rw [key]
        rcases hw with rfl | rfl
        · simp (disch := omega) only [lt_z, cI_s, cJ_s, cV_s, bI_s, bI_e, bV_s, bV_e, zl, zi_neg, zi_add, zi_sub, zi_mul, ↓reduceIte, zb0, zb1, bb_and, bb_t, bb_f, zi_ltT, zi_ltF, zi_leT, zi_leF, zi_eqT, zi_eqF, zi_ixT, zi_nat, Int.toNat_natCast, Int.reduceToNat, ltNT, and_self]
        · simp (disch := omega) only [lt_z, cI_s, cJ_s, cV_s, bI_s, bI_e, bV_s, bV_e, zl, zi_neg, zi_add, zi_sub, zi_mul, ↓reduceIte, zb0, zb1, bb_and, bb_t, bb_f, zi_ltT, zi_ltF, zi_leT, zi_leF, zi_eqT, zi_eqF, zi_ixT, zi_nat, Int.toNat_natCast, Int.reduceToNat, ltNT, and_self]) 0 FUEL (by omega) (FUEL_gt (by omega))
  · rw [if_neg hw]
    have hF : ∃ g, FUEL = g + 1 := ⟨4294967295, rfl⟩
    obtain ⟨g, hg⟩ := hF
    rw [hg, F_X10_free_0_50]
    unfold F_X10_free_0_115
    simp (disch := omega) only [lt_z, cI_s, cJ_s, cV_s, bI_s, bI_e, bV_s, bV_e, zl, zi_neg, zi_add, zi_sub, zi_mul, ↓reduceIte, zb0, zb1, bb_and, bb_t, bb_f, zi_ltT, zi_ltF, zi_leT, zi_leF, zi_eqT, zi_eqF, zi_ixT, zi_nat, Int.toNat_natCast, Int.reduceToNat, ltNT, and_self]
theorem freeC {M : PM} {C : Cal} {L : Nat} {wk x : Int} (hc : WFC C) (c : LawC M 4 (cN C) (cW C) (cD C)) (hL : L < 2 ^ cN C) (hk : wk = 0 ∨ 2 ≤ wk ∧ wk ≤ 24) (hx : x = 0 ∨ x = 1) : F_X10_free_0_40 FUEL M (zi L) (zi wk) (zi x) (zi 0) (zi (-1)) (zi 2) = rI (zi (frV C L wk x)) M := by
  exact loopL 2 25 (fun f v => F_X10_free_0_40 f M (zi L) (zi wk) (zi x) (zi (frO C L wk v).1) (zi (frO C L wk v).2) (zi (v : Nat))) _ (fun f => by
      rw [F_X10_free_0_40]
      unfold frV
      rcases hx with rfl | rfl <;> simp (disch := omega) only [lt_z, cI_s, cJ_s, cV_s, bI_s, bI_e, bV_s, bV_e, zl, zi_neg, zi_add, zi_sub, zi_mul, ↓reduceIte, zb0, zb1, bb_and, bb_t, bb_f, zi_ltT, zi_ltF, zi_leT, zi_leF, zi_eqT, zi_eqF, zi_ixT, zi_nat, Int.toNat_natCast, Int.reduceToNat, ltNT, and_self, Int.reduceEq]) (fun f v h2 hv => by
      rw [F_X10_free_0_40, zc (show ((v + 1 : Nat) : Int) = v + 1 by omega), frO, if_neg (by omega : ¬ v < 2), if_neg (by rw [show (24 : Int32) = zi 24 from rfl, zi_lt (by omega) (by omega)]; omega)]
      exact free50 hc c hL (by omega) hk (frO_ok v (by omega))) 2 FUEL (by omega) (by omega) (FUEL_gt (by omega))
theorem free100 {M : PM} {C : Cal} {L v d : Nat} {wk x : Int} {b : Int × Int} {k69 : PM → Int32 → Int32 → Int32 → Int32 → Int32 → Int32 → Option PR} {k87 : PM → Int32 → Int32 → Int32 → Int32 → Int32 → Int32 → Int32 → Option PR} (hc : WFC C) (c : CalM M C) (hL : L < 2 ^ cN C) (hv : 2 ≤ v ∧ v ≤ 24) (hd : d < v) (hb : -1 ≤ b.2 ∧ b.2 < 3000) : F_X11_free_99_100 k69 k87 FUEL M (zi L) (zi wk) (zi x) (zi b.1) (zi b.2) (zi v) (zi d) (zi 1) (zi 0) = k87 M (zi L) (zi wk) (zi x) (zi (if nmt C L v d = true then (b.1 + 1, if b.2 = -1 then 100 * (v : Int) + d else b.2) else b).1) (zi (if nmt C L v d = true then (b.1 + 1, if b.2 = -1 then 100 * (v : Int) + d else b.2) else b).2) (zi v) (zi (d + 1)) := by
  have hn := hc.1.1
  have hp2 := p2 hn
  have a1 := c.1.1
  have key : ∀ e : Bool, nmt C L v d = e → F_X11_free_99_162 k69 k87 M (zi L) (zi wk) (zi x) (zi b.1) (zi b.2) (zi v) (zi d) (bb e) = k87 M (zi L) (zi wk) (zi x) (zi (if nmt C L v d = true then (b.1 + 1, if b.2 = -1 then 100 * (v : Int) + d else b.2) else b).1) (zi (if nmt C L v d = true then (b.1 + 1, if b.2 = -1 then 100 * (v : Int) + d else b.2) else b).2) (zi v) (zi (d + 1)) := by
    intro e he
    rw [he]
    unfold F_X11_free_99_162 F_X11_free_99_189 F_X11_free_99_194
    cases e
    · rw [if_neg (by decide : ¬ false = true)]
      simp (disch := omega) only [lt_z, cI_s, cJ_s, cV_s, bI_s, bI_e, bV_s, bV_e, zl, zi_neg, zi_add, zi_sub, zi_mul, ↓reduceIte, zb0, zb1, bb_and, bb_t, bb_f, zi_ltT, zi_ltF, zi_leT, zi_leF, zi_eqT, zi_eqF, zi_ixT, zi_nat, Int.toNat_natCast, Int.reduceToNat, ltNT, and_self]
    · rw [if_pos rfl]
      by_cases q : b.2 = -1
      · rw [if_pos q]; simp (disch := omega) only [lt_z, cI_s, cJ_s, cV_s, bI_s, bI_e, bV_s, bV_e, zl, zi_neg, zi_add, zi_sub, zi_mul, ↓reduceIte, zb0, zb1, bb_and, bb_t, bb_f, zi_ltT, zi_ltF, zi_leT, zi_leF, zi_eqT, zi_eqF, zi_ixT, zi_nat, Int.toNat_natCast, Int.reduceToNat, ltNT, and_self]
      · rw [if_neg q]; simp (disch := omega) only [lt_z, cI_s, cJ_s, cV_s, bI_s, bI_e, bV_s, bV_e, zl, zi_neg, zi_add, zi_sub, zi_mul, ↓reduceIte, zb0, zb1, bb_and, bb_t, bb_f, zi_ltT, zi_ltF, zi_leT, zi_leF, zi_eqT, zi_eqF, zi_ixT, zi_nat, Int.toNat_natCast, Int.reduceToNat, ltNT, and_self]
  refine loopS (σ := Nat × Bool) (fun f s => F_X11_free_99_100 k69 k87 f M (zi L) (zi wk) (zi x) (zi b.1) (zi b.2) (zi v) (zi d) (bb s.2) (zi (s.1 : Nat))) (fun o => o = _) (fun r s => s.1 ≤ cN C ∧ r = cN C - s.1 ∧ (s.2 = true → ∀ l, l < s.1 → (L.testBit l && mee v d (cW C l) (cD C l)) = false) ∧ (s.2 = false → nmt C L v d = false)) ?_ (cN C) (0, true) FUEL ⟨by show 0 ≤ cN C; omega, by show cN C = cN C - 0; omega, fun _ l hl => absurd hl (Nat.not_lt_zero l), fun h => absurd h (by decide)⟩ (FUEL_gt (by omega))
  rintro f r ⟨i, e⟩ ⟨h1, h2, h3, h4⟩
  simp only at h1 h2 h3 h4
  show (F_X11_free_99_100 k69 k87 (f + 1) M (zi L) (zi wk) (zi x) (zi b.1) (zi b.2) (zi v) (zi d) (bb e) (zi i) = _) ∨ _
  by_cases hi : i = cN C
  · left
    subst hi
    have he : nmt C L v d = e := by
      cases e
      · exact h4 rfl
      · exact noB_t (h3 rfl)
    rw [F_X11_free_99_100, ← key e he]
    simp (disch := omega) only [lt_z, cI_s, cJ_s, cV_s, bI_s, bI_e, bV_s, bV_e, zl, zi_neg, zi_add, zi_sub, zi_mul, ↓reduceIte, zb0, zb1, bb_and, bb_t, bb_f, zi_ltT, zi_ltF, zi_leT, zi_leF, zi_eqT, zi_eqF, zi_ixT, zi_nat, Int.toNat_natCast, Int.reduceToNat, ltNT, and_self, a1]
  · cases e
    · left
      rw [F_X11_free_99_100, ← key false (h4 rfl)]
      simp (disch := omega) only [lt_z, cI_s, cJ_s, cV_s, bI_s, bI_e, bV_s, bV_e, zl, zi_neg, zi_add, zi_sub, zi_mul, ↓reduceIte, zb0, zb1, bb_and, bb_t, bb_f, zi_ltT, zi_ltF, zi_leT, zi_leF, zi_eqT, zi_eqF, zi_ixT, zi_nat, Int.toNat_natCast, Int.reduceToNat, ltNT, and_self, a1]
    · right
      have hw := hc.2.1 i (by omega)
      have a2i := c.2.1 i (by omega)
      have a3i := c.2.2.1 i (by omega)
      have hcb := canBe_s (M := M) (w := v) (d := d) (v := cW C i) (e := cD C i) (by omega) (by omega) (by omega) (by omega)
      cases hb1 : L.testBit i with
      | false =>
        refine ⟨cN C - (i + 1), (i + 1, true), by omega, ⟨by show i + 1 ≤ cN C; omega, rfl, fun _ l hl => ?_, fun h => Bool.noConfusion (show true = false from h)⟩, ?_⟩
        · by_cases q : l = i
          · rw [q, hb1, Bool.false_and]
          · exact h3 rfl l (by show l < i; have : l < i + 1 := hl; omega)
        · show F_X11_free_99_100 k69 k87 (f + 1) M (zi L) (zi wk) (zi x) (zi b.1) (zi b.2) (zi v) (zi d) (bb true) (zi i) = F_X11_free_99_100 k69 k87 f M (zi L) (zi wk) (zi x) (zi b.1) (zi b.2) (zi v) (zi d) (bb true) (zi ((i + 1 : Nat)))
          rw [F_X11_free_99_100, zc (show ((i + 1 : Nat) : Int) = i + 1 by omega)]
          unfold F_X11_free_99_149 F_X11_free_99_154
          simp (disch := omega) only [lt_z, cI_s, cJ_s, cV_s, bI_s, bI_e, bV_s, bV_e, zl, zi_neg, zi_add, zi_sub, zi_mul, ↓reduceIte, zb0, zb1, bb_and, bb_t, bb_f, zi_ltT, zi_ltF, zi_leT, zi_leF, zi_eqT, zi_eqF, zi_ixT, zi_nat, Int.toNat_natCast, Int.reduceToNat, ltNT, and_self, a1, zbit1, hb1]
      | true =>
        cases hm : mee v d (cW C i) (cD C i) with
        | false =>
          refine ⟨cN C - (i + 1), (i + 1, true), by omega, ⟨by show i + 1 ≤ cN C; omega, rfl, fun _ l hl => ?_, fun h => Bool.noConfusion (show true = false from h)⟩, ?_⟩
          · by_cases q : l = i
            · rw [q, hm, Bool.and_false]
            · exact h3 rfl l (by show l < i; have : l < i + 1 := hl; omega)
          · show F_X11_free_99_100 k69 k87 (f + 1) M (zi L) (zi wk) (zi x) (zi b.1) (zi b.2) (zi v) (zi d) (bb true) (zi i) = F_X11_free_99_100 k69 k87 f M (zi L) (zi wk) (zi x) (zi b.1) (zi b.2) (zi v) (zi d) (bb true) (zi ((i + 1 : Nat)))
            rw [hm] at hcb
            rw [F_X11_free_99_100, zc (show ((i + 1 : Nat) : Int) = i + 1 by omega)]
            unfold F_X11_free_99_149 F_X11_free_99_154
            simp (disch := omega) only [lt_z, cI_s, cJ_s, cV_s, bI_s, bI_e, bV_s, bV_e, zl, zi_neg, zi_add, zi_sub, zi_mul, ↓reduceIte, zb0, zb1, bb_and, bb_t, bb_f, zi_ltT, zi_ltF, zi_leT, zi_leF, zi_eqT, zi_eqF, zi_ixT, zi_nat, Int.toNat_natCast, Int.reduceToNat, ltNT, and_self, a1, zbit1, hb1, a2i, a3i, hcb]
        | true =>
          refine ⟨cN C - (i + 1), (i + 1, false), by omega, ⟨by show i + 1 ≤ cN C; omega, rfl, fun h => Bool.noConfusion (show false = true from h), fun _ => noB_f (k := i) (by omega) (by show (L.testBit i && mee v d (cW C i) (cD C i)) = true; rw [hb1, hm]; rfl)⟩, ?_⟩
          show F_X11_free_99_100 k69 k87 (f + 1) M (zi L) (zi wk) (zi x) (zi b.1) (zi b.2) (zi v) (zi d) (bb true) (zi i) = F_X11_free_99_100 k69 k87 f M (zi L) (zi wk) (zi x) (zi b.1) (zi b.2) (zi v) (zi d) (bb false) (zi ((i + 1 : Nat)))
          rw [hm] at hcb
          rw [F_X11_free_99_100, zc (show ((i + 1 : Nat) : Int) = i + 1 by omega)]
          unfold F_X11_free_99_154
          simp (disch := omega) only [lt_z, cI_s, cJ_s, cV_s, bI_s, bI_e, bV_s, bV_e, zl, zi_neg, zi_add, zi_sub, zi_mul, ↓reduceIte, zb0, zb1, bb_and, bb_t, bb_f, zi_ltT, zi_ltF, zi_leT, zi_leF, zi_eqT, zi_eqF, zi_ixT, zi_nat, Int.toNat_natCast, Int.reduceToNat, ltNT, and_self, a1, zbit1, hb1, a2i, a3i, hcb]
theorem free87 {M : PM} {C : Cal} {L v : Nat} {wk x : Int} {a : Int × Int} {k : PM → Int32 → Int32 → Int32 → Int32 → Int32 → Int32 → Option PR} (hc : WFC C) (c : CalM M C) (hL : L < 2 ^ cN C) (hv : 2 ≤ v ∧ v ≤ 24) (ha : -1 ≤ a.2 ∧ a.2 < 3000) : F_X11_free_99_87 k FUEL M (zi L) (zi wk) (zi x) (zi a.1) (zi a.2) (zi v) (zi 0) = k M (zi L) (zi wk) (zi x) (zi (frI C L v v a).1) (zi (frI C L v v a).2) (zi (v + 1)) := by
  exact loopU v (fun f d => F_X11_free_99_87 k f M (zi L) (zi wk) (zi x) (zi (frI C L v d a).1) (zi (frI C L v d a).2) (zi v) (zi (d : Nat))) _ (fun f => by
      rw [F_X11_free_99_87]
      simp (disch := omega) only [lt_z, cI_s, cJ_s, cV_s, bI_s, bI_e, bV_s, bV_e, zl, zi_neg, zi_add, zi_sub, zi_mul, ↓reduceIte, zb0, zb1, bb_and, bb_t, bb_f, zi_ltT, zi_ltF, zi_leT, zi_leF, zi_eqT, zi_eqF, zi_ixT, zi_nat, Int.toNat_natCast, Int.reduceToNat, ltNT, and_self]) (fun f d hd => by
      rw [F_X11_free_99_87, zc (show ((d + 1 : Nat) : Int) = d + 1 by omega), frI, if_neg (by rw [zi_le (by omega) (by omega)]; omega)]
      exact free100 hc c hL hv hd (frI_ok hv.2 ha d (by omega))) 0 FUEL (by omega) (FUEL_gt (by omega))
theorem frO_lo {C : Cal} {L : Nat} {wk : Int} (hk : 2 ≤ wk) : ∀ v : Nat, (v : Int) ≤ wk → frO C L wk v = (0, -1)
  | 0, _ => rfl
  | v + 1, h => by
    rw [frO]
    split
    · rfl
    · rw [if_neg (by omega)]
      exact frO_lo hk v (by omega)
theorem frO_hi {C : Cal} {L : Nat} {w : Nat} (hk : 2 ≤ w) : ∀ j, frO C L w (w + 1 + j) = frO C L w (w + 1)
  | 0 => rfl
  | j + 1 => by
    have ih := frO_hi (C := C) (L := L) hk j
    show frO C L w (w + 1 + j + 1) = _
    rw [frO, if_neg (by omega), if_neg (by omega)]
    exact ih
theorem freeM {M : PM} {C : Cal} {L : Nat} {wk x : Int} (hc : WFC C) (c : CalM M C) (hL : L < 2 ^ cN C) (hk : wk = 0 ∨ 2 ≤ wk ∧ wk ≤ 24) (hx : x = 0 ∨ x = 1) : F_X11_free_99_69 FUEL M (zi L) (zi wk) (zi x) (zi 0) (zi (-1)) (zi (if wk = 0 then 2 else wk)) = rI (zi (frV C L wk x)) M := by
  rcases hk with rfl | hk
  · rw [if_pos rfl]
    exact loopL 2 25 (fun f v => F_X11_free_99_69 f M (zi L) (zi 0) (zi x) (zi (frO C L 0 v).1) (zi (frO C L 0 v).2) (zi (v : Nat))) _ (fun f => by
      rw [F_X11_free_99_69]
      unfold frV F_X11_free_99_81
      rcases hx with rfl | rfl <;> simp (disch := omega) only [lt_z, cI_s, cJ_s, cV_s, bI_s, bI_e, bV_s, bV_e, zl, zi_neg, zi_add, zi_sub, zi_mul, ↓reduceIte, zb0, zb1, bb_and, bb_t, bb_f, zi_ltT, zi_ltF, zi_leT, zi_leF, zi_eqT, zi_eqF, zi_ixT, zi_nat, Int.toNat_natCast, Int.reduceToNat, ltNT, and_self, Int.reduceEq]) (fun f v h2 hv => by
      rw [F_X11_free_99_69, zc (show ((v + 1 : Nat) : Int) = v + 1 by omega), frO, if_neg (by omega : ¬ v < 2), if_pos (Or.inl rfl : (0 : Int) = 0 ∨ (0 : Int) = v)]
      unfold F_X11_free_99_81
      have := free87 (wk := 0) (x := x) (k := F_X11_free_99_69 f) hc c hL (v := v) (by omega) (frO_ok (C := C) (L := L) (wk := 0) v (by omega))
      simp (disch := omega) only [lt_z, cI_s, cJ_s, cV_s, bI_s, bI_e, bV_s, bV_e, zl, zi_neg, zi_add, zi_sub, zi_mul, ↓reduceIte, zb0, zb1, bb_and, bb_t, bb_f, zi_ltT, zi_ltF, zi_leT, zi_leF, zi_eqT, zi_eqF, zi_ixT, zi_nat, Int.toNat_natCast, Int.reduceToNat, ltNT, and_self]
      exact this) 2 FUEL (by omega) (by omega) (FUEL_gt (by omega))
  · obtain ⟨w, rfl, hw⟩ := natOf (z := wk) (n := 25) ⟨by omega, by omega⟩
    rw [if_neg (by omega : ¬ (w : Int) = 0)]
    have e25 : frO C L w 25 = frO C L w (w + 1) := by
      have := frO_hi (C := C) (L := L) (w := w) (by omega) (25 - (w + 1))
      rw [show w + 1 + (25 - (w + 1)) = 25 by omega] at this
      exact this
    have h := loopL w (w + 1) (fun f v => F_X11_free_99_69 f M (zi L) (zi w) (zi x) (zi (frO C L w v).1) (zi (frO C L w v).2) (zi (v : Nat))) (rI (zi (frV C L w x)) M) (fun f => by
      rw [F_X11_free_99_69]
      unfold frV F_X11_free_99_81
      rw [e25]
      rcases hx with rfl | rfl <;> simp (disch := omega) only [lt_z, cI_s, cJ_s, cV_s, bI_s, bI_e, bV_s, bV_e, zl, zi_neg, zi_add, zi_sub, zi_mul, ↓reduceIte, zb0, zb1, bb_and, bb_t, bb_f, zi_ltT, zi_ltF, zi_leT, zi_leF, zi_eqT, zi_eqF, zi_ixT, zi_nat, Int.toNat_natCast, Int.reduceToNat, ltNT, and_self, Int.reduceEq]) (fun f v h2 hv => by
      have hvw : v = w := by omega
      subst hvw
      rw [F_X11_free_99_69, zc (show ((v + 1 : Nat) : Int) = v + 1 by omega), frO, if_neg (by omega : ¬ v < 2), if_pos (Or.inr rfl : (v : Int) = 0 ∨ (v : Int) = v)]
      unfold F_X11_free_99_81
      have := free87 (wk := v) (x := x) (k := F_X11_free_99_69 f) hc c hL (v := v) (by omega) (frO_ok (C := C) (L := L) (wk := v) v (by omega))
      simp (disch := omega) only [lt_z, cI_s, cJ_s, cV_s, bI_s, bI_e, bV_s, bV_e, zl, zi_neg, zi_add, zi_sub, zi_mul, ↓reduceIte, zb0, zb1, bb_and, bb_t, bb_f, zi_ltT, zi_ltF, zi_leT, zi_leF, zi_eqT, zi_eqF, zi_ixT, zi_nat, Int.toNat_natCast, Int.reduceToNat, ltNT, and_self]
      exact this) w FUEL (by omega) (by omega) (FUEL_gt (by omega))
    simp only [frO_lo (C := C) (L := L) (wk := (w : Int)) (by omega) w (by omega)] at h
    exact h
theorem ok19 : OK_19 Rel := fun M a1 a2 a3 hR => by
  obtain ⟨z, rfl, hz⟩ := zi_rng a1
  obtain ⟨w, rfl, hw⟩ := zi_rng a2
  obtain ⟨x, rfl, hx⟩ := zi_rng a3
  have hR2 := hR
  obtain ⟨C, S, W, h1, h2, h3, h4, h5, h6, h7, h8, h9, h10, h11, h12⟩ := hR2
  have hb := h1.1.1
  have hp2 := p2 hb
  unfold c_19 w_free
  have a0 : mA (sI (rf M 2) 99 0 (zi 0)) 103 0 = zi (cN C) := h3.1.1
  have bad37 : F_X11_free_99_37 (sI (rf M 2) 99 0 (zi 0)) (zi z) (zi w) (zi x) = rI (zi 0) (rm (rf M 2) (zi 1) 2) := by
    unfold F_X11_free_99_37 F_X11_free_99_42
    simp (disch := omega) only [lt_z, cI_s, cJ_s, cV_s, bI_s, bI_e, bV_s, bV_e, zl, zi_neg, zi_add, zi_sub, zi_mul, ↓reduceIte, zb0, zb1, bb_and, bb_t, bb_f, zi_ltT, zi_ltF, zi_leT, zi_leF, zi_eqT, zi_eqF, zi_ixT, zi_nat, Int.toNat_natCast, Int.reduceToNat, ltNT, and_self, bad_t th0]
    rfl
  have hiw : ∀ N, F_X10_isWeek N (zi w).toInt64 = rI (bb (decide (2 ≤ w ∧ w ≤ 24))) N := fun N => by rw [zi_j hw]; exact isWeek_j (by omega)
  by_cases h : 0 ≤ z ∧ z < (2 ^ cN C : Nat)
  · obtain ⟨L, rfl, hL⟩ := natOf h
    by_cases hk : w = 0 ∨ 2 ≤ w ∧ w ≤ 24
    · by_cases hx2 : x = 0 ∨ x = 1
      · refine okq1 (x := zi (frV C L w x)) (M1 := M) hR ?_ Sam0.rf (fun M' hs => ⟨sI M' 99 0 (zi 0), ?_, th0, Sam.th⟩)
        · have key : F_X10_free_0_18 M (zi L) (zi w) (zi x) = rI (zi (frV C L w x)) M := by
            unfold F_X10_free_0_18 F_X10_free_0_23
            simp (disch := omega) only [lt_z, cI_s, cJ_s, cV_s, bI_s, bI_e, bV_s, bV_e, zl, zi_neg, zi_add, zi_sub, zi_mul, ↓reduceIte, zb0, zb1, bb_and, bb_t, bb_f, zi_ltT, zi_ltF, zi_leT, zi_leF, zi_eqT, zi_eqF, zi_ixT, zi_nat, Int.toNat_natCast, Int.reduceToNat, ltNT, and_self, need_t, needEither_t, freeC h1 h2.1 hL hk hx2]
          unfold F_X10_free_0
          rw [needLaws_t h2.1.1 hb h, bV_s, hiw, cI_s, key]
          rcases hk with rfl | hk
          · exact if_pos rfl
          · rw [decide_eq_true hk]; simp (disch := omega) only [lt_z, cI_s, cJ_s, cV_s, bI_s, bI_e, bV_s, bV_e, zl, zi_neg, zi_add, zi_sub, zi_mul, ↓reduceIte, zb0, zb1, bb_and, bb_t, bb_f, zi_ltT, zi_ltF, zi_leT, zi_leF, zi_eqT, zi_eqF, zi_ixT, zi_nat, Int.toNat_natCast, Int.reduceToNat, ltNT, and_self]
        · have c : CalM (sI M' 99 0 (zi 0)) C := h3.sm (hs.tr Sam.th.1)
          have key : F_X11_free_99_42 (sI M' 99 0 (zi 0)) (zi L) (zi w) (zi x) (zi 0) = rI (zi (frV C L w x)) (sI M' 99 0 (zi 0)) := by
            have := freeM h1 c hL hk hx2
            unfold F_X11_free_99_42 F_X11_free_99_67
            rw [bad_f th0, cI_s]
            rcases hk with rfl | hk
            · rw [if_pos rfl] at this; simp (disch := omega) only [lt_z, cI_s, cJ_s, cV_s, bI_s, bI_e, bV_s, bV_e, zl, zi_neg, zi_add, zi_sub, zi_mul, ↓reduceIte, zb0, zb1, bb_and, bb_t, bb_f, zi_ltT, zi_ltF, zi_leT, zi_leF, zi_eqT, zi_eqF, zi_ixT, zi_nat, Int.toNat_natCast, Int.reduceToNat, ltNT, and_self]; exact this
            · rw [if_neg (by omega)] at this; simp (disch := omega) only [lt_z, cI_s, cJ_s, cV_s, bI_s, bI_e, bV_s, bV_e, zl, zi_neg, zi_add, zi_sub, zi_mul, ↓reduceIte, zb0, zb1, bb_and, bb_t, bb_f, zi_ltT, zi_ltF, zi_leT, zi_leF, zi_eqT, zi_eqF, zi_ixT, zi_nat, Int.toNat_natCast, Int.reduceToNat, ltNT, and_self]; exact this
          have key2 : F_X11_free_99_28 (sI M' 99 0 (zi 0)) (zi L) (zi w) (zi x) = rI (zi (frV C L w x)) (sI M' 99 0 (zi 0)) := by
            unfold F_X11_free_99_28
            simp (disch := omega) only [lt_z, cI_s, cJ_s, cV_s, bI_s, bI_e, bV_s, bV_e, zl, zi_neg, zi_add, zi_sub, zi_mul, ↓reduceIte, zb0, zb1, bb_and, bb_t, bb_f, zi_ltT, zi_ltF, zi_leT, zi_leF, zi_eqT, zi_eqF, zi_ixT, zi_nat, Int.toNat_natCast, Int.reduceToNat, ltNT, and_self, in_t, key]
          unfold F_X11_free_99
          rcases hk with rfl | hk
          · simp (disch := omega) only [lt_z, cI_s, cJ_s, cV_s, bI_s, bI_e, bV_s, bV_e, zl, zi_neg, zi_add, zi_sub, zi_mul, ↓reduceIte, zb0, zb1, bb_and, bb_t, bb_f, zi_ltT, zi_ltF, zi_leT, zi_leF, zi_eqT, zi_eqF, zi_ixT, zi_nat, Int.toNat_natCast, Int.reduceToNat, ltNT, and_self, areLaws_t c.1.1 hb, key2]
          · simp (disch := omega) only [lt_z, cI_s, cJ_s, cV_s, bI_s, bI_e, bV_s, bV_e, zl, zi_neg, zi_add, zi_sub, zi_mul, ↓reduceIte, zb0, zb1, bb_and, bb_t, bb_f, zi_ltT, zi_ltF, zi_leT, zi_leF, zi_eqT, zi_eqF, zi_ixT, zi_nat, Int.toNat_natCast, Int.reduceToNat, ltNT, and_self, areLaws_t c.1.1 hb, in_t, key2]
      · refine okr1 (y := zi 0) 2 hR (by decide) ?_ ?_
        · have key : F_X10_free_0_18 M (zi L) (zi w) (zi x) = rE nIAE (rf M 2) := by
            unfold F_X10_free_0_18 F_X10_free_0_23
            simp (disch := omega) only [lt_z, cI_s, cJ_s, cV_s, bI_s, bI_e, bV_s, bV_e, zl, zi_neg, zi_add, zi_sub, zi_mul, ↓reduceIte, zb0, zb1, bb_and, bb_t, bb_f, zi_ltT, zi_ltF, zi_leT, zi_leF, zi_eqT, zi_eqF, zi_ixT, zi_nat, Int.toNat_natCast, Int.reduceToNat, ltNT, and_self, need_t, needEither_f]
          unfold F_X10_free_0
          rw [needLaws_t h2.1.1 hb h, bV_s, hiw, cI_s, key]
          rcases hk with rfl | hk
          · exact if_pos rfl
          · rw [decide_eq_true hk]; simp (disch := omega) only [lt_z, cI_s, cJ_s, cV_s, bI_s, bI_e, bV_s, bV_e, zl, zi_neg, zi_add, zi_sub, zi_mul, ↓reduceIte, zb0, zb1, bb_and, bb_t, bb_f, zi_ltT, zi_ltF, zi_leT, zi_leF, zi_eqT, zi_eqF, zi_ixT, zi_nat, Int.toNat_natCast, Int.reduceToNat, ltNT, and_self]
        · have key2 : F_X11_free_99_28 (sI (rf M 2) 99 0 (zi 0)) (zi L) (zi w) (zi x) = rI (zi 0) (rm (rf M 2) (zi 1) 2) := by
            unfold F_X11_free_99_28
            simp (disch := omega) only [lt_z, cI_s, cJ_s, cV_s, bI_s, bI_e, bV_s, bV_e, zl, zi_neg, zi_add, zi_sub, zi_mul, ↓reduceIte, zb0, zb1, bb_and, bb_t, bb_f, zi_ltT, zi_ltF, zi_leT, zi_leF, zi_eqT, zi_eqF, zi_ixT, zi_nat, Int.toNat_natCast, Int.reduceToNat, ltNT, and_self, in_f, bad37]
          unfold F_X11_free_99
          rcases hk with rfl | hk
          · simp (disch := omega) only [lt_z, cI_s, cJ_s, cV_s, bI_s, bI_e, bV_s, bV_e, zl, zi_neg, zi_add, zi_sub, zi_mul, ↓reduceIte, zb0, zb1, bb_and, bb_t, bb_f, zi_ltT, zi_ltF, zi_leT, zi_leF, zi_eqT, zi_eqF, zi_ixT, zi_nat, Int.toNat_natCast, Int.reduceToNat, ltNT, and_self, areLaws_t a0 hb, key2]
          · simp (disch := omega) only [lt_z, cI_s, cJ_s, cV_s, bI_s, bI_e, bV_s, bV_e, zl, zi_neg, zi_add, zi_sub, zi_mul, ↓reduceIte, zb0, zb1, bb_and, bb_t, bb_f, zi_ltT, zi_ltF, zi_leT, zi_leF, zi_eqT, zi_eqF, zi_ixT, zi_nat, Int.toNat_natCast, Int.reduceToNat, ltNT, and_self, areLaws_t a0 hb, in_t, key2]
    · refine okr1 (y := zi 0) 2 hR (by decide) ?_ ?_
      · unfold F_X10_free_0
        rw [needLaws_t h2.1.1 hb h, bV_s, hiw, cI_s, decide_eq_false (by omega)]
        unfold F_X10_free_0_23
        simp (disch := omega) only [lt_z, cI_s, cJ_s, cV_s, bI_s, bI_e, bV_s, bV_e, zl, zi_neg, zi_add, zi_sub, zi_mul, ↓reduceIte, zb0, zb1, bb_and, bb_t, bb_f, zi_ltT, zi_ltF, zi_leT, zi_leF, zi_eqT, zi_eqF, zi_ixT, zi_nat, Int.toNat_natCast, Int.reduceToNat, ltNT, and_self, need_f]
      · unfold F_X11_free_99
        simp (disch := omega) only [lt_z, cI_s, cJ_s, cV_s, bI_s, bI_e, bV_s, bV_e, zl, zi_neg, zi_add, zi_sub, zi_mul, ↓reduceIte, zb0, zb1, bb_and, bb_t, bb_f, zi_ltT, zi_ltF, zi_leT, zi_leF, zi_eqT, zi_eqF, zi_ixT, zi_nat, Int.toNat_natCast, Int.reduceToNat, ltNT, and_self, areLaws_t a0 hb, in_f, bad37]
  · refine okr1 (y := zi 0) 2 hR (by decide) ?_ ?_
    · unfold F_X10_free_0
      simp (disch := omega) only [lt_z, cI_s, cJ_s, cV_s, bI_s, bI_e, bV_s, bV_e, zl, zi_neg, zi_add, zi_sub, zi_mul, ↓reduceIte, zb0, zb1, bb_and, bb_t, bb_f, zi_ltT, zi_ltF, zi_leT, zi_leF, zi_eqT, zi_eqF, zi_ixT, zi_nat, Int.toNat_natCast, Int.reduceToNat, ltNT, and_self, needLaws_f h2.1.1 hb]
    · unfold F_X11_free_99
      simp (disch := omega) only [lt_z, cI_s, cJ_s, cV_s, bI_s, bI_e, bV_s, bV_e, zl, zi_neg, zi_add, zi_sub, zi_mul, ↓reduceIte, zb0, zb1, bb_and, bb_t, bb_f, zi_ltT, zi_ltF, zi_leT, zi_leF, zi_eqT, zi_eqF, zi_ixT, zi_nat, Int.toNat_natCast, Int.reduceToNat, ltNT, and_self, areLaws_f a0 hb, bad37]
