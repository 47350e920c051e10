/-! weeks: digits to the base 100 -/
theorem zj_div {a b : Int} (ha : 0 ≤ a ∧ a < 9223372036854775808) (hb : 0 < b ∧ b < 9223372036854775808) : zj a / zj b = zj (a / b) := by
  have h := Int64.ofInt_tdiv (a := a) (b := b) (by show (-9223372036854775808 : Int) ≤ a; omega) (by show a ≤ (9223372036854775807 : Int); omega) (by show (-9223372036854775808 : Int) ≤ b; omega) (by show b ≤ (9223372036854775807 : Int); omega)
  rw [Int.tdiv_eq_ediv_of_nonneg ha.1] at h
  exact h.symm
theorem zj_rng (a : Int64) : ∃ z : Int, a = zj z ∧ -9223372036854775808 ≤ z ∧ z < 9223372036854775808 := ⟨a.toInt, (Int64.ofInt_toInt a).symm, Int64.le_toInt a, Int64.toInt_lt a⟩
theorem zj_i (a : Int) : (zj a).toInt32 = zi a := Int64.toInt32_ofInt
theorem zcj {a b : Int} (h : a = b) : zj a = zj b := congrArg zj h
def dgt (t j : Nat) : Nat := t / 100 ^ j % 100
def dgM (t : Nat) : Nat := fa_first (fun i => decide (t / 100 ^ i = 0)) 6
def dgW (t m k : Nat) : Nat := dgt t (m - 1 - k)
def PK (t m : Nat) : Prop := t / 100 ^ m = 0 ∧ 2 ≤ m ∧ ∀ j, j < m → 2 ≤ dgt t j ∧ dgt t j ≤ 24
theorem p100 {i : Nat} (hi : i ≤ 6) : 1 ≤ 100 ^ i ∧ 100 ^ i ≤ 1000000000000 := ⟨Nat.pow_pos (by decide), Nat.pow_le_pow_right (by decide) hi⟩
theorem zj_digit {t i : Nat} (ht : t < 9223372036854775808) : zj ((t / 100 ^ i : Nat) : Int) - zj ((t / 100 ^ i : Nat) : Int) / zj 100 * zj 100 = zj (dgt t i) := by
  have h1 : t / 100 ^ i ≤ t := Nat.div_le_self _ _
  unfold dgt
  generalize t / 100 ^ i = x at *
  rw [zj_div (by omega) (by omega), zj_mul, zj_sub]
  refine congrArg zj ?_
  omega
theorem zj_next {t i : Nat} (ht : t < 9223372036854775808) : zj ((t / 100 ^ i : Nat) : Int) / zj 100 = zj ((t / 100 ^ (i + 1) : Nat) : Int) := by
  have h1 : t / 100 ^ i ≤ t := Nat.div_le_self _ _
  rw [Nat.pow_succ, ← Nat.div_div_eq_div_mul]
  generalize t / 100 ^ i = x at *
  rw [zj_div (by omega) (by omega)]
  rfl
theorem dgM_le (t : Nat) : dgM t ≤ 6 := fa_first_le _ _
theorem dgM_no {t i : Nat} (h : i < dgM t) : t / 100 ^ i ≠ 0 := of_decide_eq_false (fa_first_no (fun i => decide (t / 100 ^ i = 0)) 6 i h)
theorem dgM_yes {t : Nat} (h : dgM t < 6) : t / 100 ^ dgM t = 0 := of_decide_eq_true (fa_first_yes (fun i => decide (t / 100 ^ i = 0)) 6 h)
theorem tk_sam {M : PM} {x : Int32} : Sam0 M (sI M 95 3 x) := (Sam.i 95 3 x (by decide) Sam.rf).1
theorem sI_sI (M : PM) (q k : Nat) (x y : Int32) : sI (sI M q k x) q k y = sI M q k y := by
  unfold sI
  dsimp only
  rw [u2_same]
theorem take_no {M : PM} {z : Int} (hz : -9223372036854775808 ≤ z ∧ z ≤ 0) : F_X6_take_95 M (zj z) = rI (zi 0) (sI M 95 3 (zi 0)) := by
  have e1 : zj z / (1 : Int64) = zj z := by
    have h := Int64.ofInt_tdiv (a := z) (b := 1) (by show (-9223372036854775808 : Int) ≤ z; omega) (by show z ≤ (9223372036854775807 : Int); omega) (by decide) (by decide)
    rw [Int.tdiv_one] at h
    exact h.symm
  have e3 : mI (sI M 95 3 (zi 0)) 95 3 = zi 0 := rI_at
  unfold F_X6_take_95
  rw [lt_z]
  refine loopS (σ := Unit) (fun f _ => F_X6_take_95_10 f (sI M 95 3 0) (zj z) 1 0) (fun o => o = rI (zi 0) (sI M 95 3 (zi 0))) (fun _ _ => True) ?_ 0 () FUEL trivial (FUEL_gt (by omega))
  rintro f r _ _
  left
  show F_X6_take_95_10 (f + 1) (sI M 95 3 (zi 0)) (zj z) 1 0 = _
  rw [F_X6_take_95_10, if_neg (by decide), if_neg (by decide), e1]
  have c2 : lg_cmp (zj z) (0 : Int64) ≤ 0 := by
    rw [show (0 : Int64) = zj 0 from rfl]
    rcases Int.lt_or_eq_of_le hz.2 with u | u
    · rw [cmp_lt (by omega) (by omega) u]; decide
    · rw [cmp_eq u]; decide
  rw [if_pos c2]
  unfold F_X6_take_95_47
  rw [if_neg (by decide), e1, e3]
  by_cases q : lg_cmp (zj z) (0 : Int64) = 0
  · rw [if_pos q, if_neg (by decide), if_pos (by decide)]
    rfl
  · rw [if_neg q, if_pos (by decide)]
    rfl
theorem take10 {M : PM} {t : Nat} (ht : t < 9223372036854775808) : F_X6_take_95 M (zj t) = F_X6_take_95_47 (sI M 95 3 (zi (dgM t))) (zj t) (zj ((100 ^ dgM t : Nat) : Int)) := by
  have hm := dgM_le t
  unfold F_X6_take_95
  rw [lt_z]
  refine loopS (σ := Nat) (fun f i => F_X6_take_95_10 f (sI M 95 3 (zi (i : Nat))) (zj t) (zj ((100 ^ i : Nat) : Int)) (zi (i : Nat))) (fun o => o = F_X6_take_95_47 (sI M 95 3 (zi (dgM t))) (zj t) (zj ((100 ^ dgM t : Nat) : Int))) (fun r i => r = dgM t - i ∧ i ≤ dgM t) ?_ (dgM t) 0 FUEL ⟨rfl, Nat.zero_le _⟩ (FUEL_gt (by omega))
  rintro f r i ⟨i1, i2⟩
  show F_X6_take_95_10 (f + 1) (sI M 95 3 (zi (i : Nat))) (zj t) (zj ((100 ^ i : Nat) : Int)) (zi (i : Nat)) = _ ∨ _
  have p1 := p100 (i := i) (by omega)
  have ed : zj t / zj ((100 ^ i : Nat) : Int) = zj ((t / 100 ^ i : Nat) : Int) := by
    rw [zj_div (by omega) (by omega), Int.natCast_ediv]
  have e3 : mI (sI M 95 3 (zi (i : Nat))) 95 3 = zi i := rI_at
  have hle : t / 100 ^ i ≤ t := Nat.div_le_self _ _
  rw [F_X6_take_95_10]
  by_cases q1 : i = dgM t
  · left
    by_cases q2 : i = 6
    · rw [if_pos (by rw [q2]; decide), q1]
    · have h0 := dgM_yes (t := t) (by omega)
      rw [← q1] at h0
      rw [if_neg (by rw [show (6 : Int32) = zi 6 from rfl, zi_le (by omega) (by omega)]; omega), if_neg (by rw [show (0 : Int64) = zj 0 from rfl, zj_eq (by omega) (by omega)]; omega), ed, h0, if_pos (by decide), q1]
  · right
    have h0 := dgM_no (t := t) (i := i) (by omega)
    refine ⟨dgM t - (i + 1), i + 1, by omega, ⟨rfl, by omega⟩, ?_⟩
    rw [if_neg (by rw [show (6 : Int32) = zi 6 from rfl, zi_le (by omega) (by omega)]; omega), if_neg (by rw [show (0 : Int64) = zj 0 from rfl, zj_eq (by omega) (by omega)]; omega), ed]
    rw [if_neg (by rw [show (0 : Int64) = zj 0 from rfl, cmp_gt (by omega) (by generalize t / 100 ^ i = x at *; omega) (by generalize t / 100 ^ i = x at *; omega)]; decide), lt_z, e3, sI_sI, show (1 : Int32) = zi 1 from rfl, zi_add, lt_z, show (100 : Int64) = zj 100 from rfl, zj_mul, zc (show (i : Int) + 1 = ((i + 1 : Nat) : Int) by omega), zcj (show ((100 ^ i : Nat) : Int) * 100 = ((100 ^ (i + 1) : Nat) : Int) by rw [Nat.pow_succ, Int.natCast_mul]; rfl)]
theorem take_s {M : PM} {t : Nat} (ht : t < 9223372036854775808) : ∃ b M', F_X6_take_95 M (zj t) = rI (bb b) M' ∧ Sam0 M M' ∧ (b = true ↔ PK t (dgM t)) ∧ (b = true → mI M' 95 3 = zi (dgM t) ∧ ∀ i, i < dgM t → mA M' 96 i = zi (dgW t (dgM t) i)) := by
  have hm := dgM_le t
  rw [take10 ht]
  have p1 := p100 hm
  have e3 : mI (sI M 95 3 (zi (dgM t))) 95 3 = zi (dgM t) := rI_at
  have ed : zj t / zj ((100 ^ dgM t : Nat) : Int) = zj ((t / 100 ^ dgM t : Nat) : Int) := by
    rw [zj_div (by omega) (by omega), Int.natCast_ediv]
  have hle : t / 100 ^ dgM t ≤ t := Nat.div_le_self _ _
  unfold F_X6_take_95_47
  rw [if_neg (by rw [show (0 : Int64) = zj 0 from rfl, zj_eq (by omega) (by omega)]; omega), ed, e3]
  by_cases q1 : t / 100 ^ dgM t = 0
  · rw [if_pos (by rw [q1]; exact (cmp0 _).mpr rfl)]
    by_cases q2 : 2 ≤ dgM t
    · rw [if_pos (by rw [show (2 : Int32) = zi 2 from rfl, zi_le (by omega) (by omega)]; omega), show (0 : Int32) = zi ((0 : Nat) : Int) from rfl]
      refine loopS (σ := PM × Nat) (fun f q => F_X6_take_95_68 f q.1 (zj t) (zj ((100 ^ (dgM t - q.2) : Nat) : Int)) (zi (q.2 : Nat))) (fun o => ∃ b M', o = rI (bb b) M' ∧ Sam0 M M' ∧ (b = true ↔ PK t (dgM t)) ∧ (b = true → mI M' 95 3 = zi (dgM t) ∧ ∀ i, i < dgM t → mA M' 96 i = zi (dgW t (dgM t) i))) (fun r q => r = dgM t - q.2 ∧ q.2 ≤ dgM t ∧ Sam0 M q.1 ∧ mI q.1 95 3 = zi (dgM t) ∧ ∀ i, i < q.2 → mA q.1 96 i = zi (dgW t (dgM t) i) ∧ 2 ≤ dgW t (dgM t) i ∧ dgW t (dgM t) i ≤ 24) ?_ (dgM t) (sI M 95 3 (zi (dgM t)), 0) FUEL ⟨rfl, Nat.zero_le _, tk_sam, e3, fun i hi => absurd hi (Nat.not_lt_zero i)⟩ (FUEL_gt (by omega))
      rintro f r ⟨M1, i⟩ ⟨i1, i2, i3, i4, i5⟩
      simp only at i1 i2 i3 i4 i5
      show (∃ b M', F_X6_take_95_68 (f + 1) M1 (zj t) (zj ((100 ^ (dgM t - i) : Nat) : Int)) (zi (i : Nat)) = rI (bb b) M' ∧ _) ∨ _
      rw [F_X6_take_95_68, i4]
      by_cases q3 : i = dgM t
      · left
        refine ⟨true, M1, by rw [if_pos (by rw [zi_le (by omega) (by omega)]; omega), if_pos (by decide)]; rfl, i3, ⟨fun _ => ⟨q1, q2, fun j hj => ?_⟩, fun _ => rfl⟩, fun _ => ⟨i4, fun j hj => (i5 j (by omega)).1⟩⟩
        have := (i5 (dgM t - 1 - j) (by omega)).2
        unfold dgW at this
        rw [show dgM t - 1 - (dgM t - 1 - j) = j by omega] at this
        exact this
      · have p2 := p100 (i := dgM t - 1 - i) (by omega)
        have epw : 100 ^ (dgM t - i) = 100 ^ (dgM t - 1 - i) * 100 := by rw [show dgM t - i = dgM t - 1 - i + 1 by omega, Nat.pow_succ]
        have ep : zj ((100 ^ (dgM t - i) : Nat) : Int) / zj 100 = zj ((100 ^ (dgM t - 1 - i) : Nat) : Int) := by
          rw [epw]
          generalize 100 ^ (dgM t - 1 - i) = x at *
          rw [zj_div (by omega) (by omega)]
          refine congrArg zj ?_
          omega
        have emx : F_J9_max_f86c9 M1 (zj ((100 ^ (dgM t - 1 - i) : Nat) : Int)) (1 : Int64) = rJ (zj ((100 ^ (dgM t - 1 - i) : Nat) : Int)) M1 := by
          unfold F_J9_max_f86c9
          rw [show (1 : Int64) = zj 1 from rfl, if_neg]
          generalize 100 ^ (dgM t - 1 - i) = x at *
          rcases Nat.eq_or_lt_of_le p2.1 with u | u
          · rw [cmp_eq (by omega)]; decide
          · rw [cmp_gt (by omega) (by omega) (by omega)]; decide
        have ed2 : zj t / zj ((100 ^ (dgM t - 1 - i) : Nat) : Int) = zj ((t / 100 ^ (dgM t - 1 - i) : Nat) : Int) := by
          rw [Int.natCast_ediv]
          generalize 100 ^ (dgM t - 1 - i) = x at *
          rw [zj_div (by omega) (by omega)]
        have hdg : dgt t (dgM t - 1 - i) < 100 := Nat.mod_lt _ (by decide)
        have hdl := zj_digit (t := t) (i := dgM t - 1 - i) ht
        rw [if_neg (by rw [zi_le (by omega) (by omega)]; omega), if_neg (by decide), show (100 : Int64) = zj 100 from rfl, ep, emx, cJ_s, if_neg (by rw [show (0 : Int64) = zj 0 from rfl, zj_eq (by omega) (by omega)]; omega), if_neg (by decide), ed2, hdl, lt_z, isWeek_j (by omega), cI_s]
        by_cases q4 : 2 ≤ dgt t (dgM t - 1 - i) ∧ dgt t (dgM t - 1 - i) ≤ 24
        · right
          rw [decide_eq_true (by omega : 2 ≤ (dgt t (dgM t - 1 - i) : Int) ∧ (dgt t (dgM t - 1 - i) : Int) ≤ 24), if_neg (by decide), if_pos (zi_ixT (by omega) (by omega)), zi_natN (by omega), zj_i]
          refine ⟨dgM t - (i + 1), (sA M1 96 i (zi (dgt t (dgM t - 1 - i))), i + 1), by omega, ⟨rfl, by show i + 1 ≤ dgM t; omega, i3.tr (Sam.a 96 i _ (by decide) Sam.rf).1, i4, fun j hj => ?_⟩, ?_⟩
          · have hj' : j < i + 1 := hj
            by_cases q5 : j = i
            · rw [q5]
              exact ⟨rA_at, q4⟩
            · exact ⟨(rA_nk q5).trans (i5 j (by omega)).1, (i5 j (by omega)).2⟩
          · rw [show (1 : Int32) = zi 1 from rfl, zi_add, lt_z, zc (show (i : Int) + 1 = ((i + 1 : Nat) : Int) by omega)]
            dsimp only
            rw [show dgM t - (i + 1) = dgM t - 1 - i by omega]
        · left
          rw [decide_eq_false (by omega : ¬ (2 ≤ (dgt t (dgM t - 1 - i) : Int) ∧ (dgt t (dgM t - 1 - i) : Int) ≤ 24)), if_pos (by decide), if_pos (by decide)]
          exact ⟨false, M1, rfl, i3, ⟨fun h => absurd h (by decide), fun h => absurd (h.2.2 (dgM t - 1 - i) (by omega)) q4⟩, fun h => absurd h (by decide)⟩
    · rw [if_neg (by rw [show (2 : Int32) = zi 2 from rfl, zi_le (by omega) (by omega)]; omega), if_pos (by decide)]
      exact ⟨false, _, rfl, tk_sam, ⟨fun h => absurd h (by decide), fun h => absurd h.2.1 q2⟩, fun h => absurd h (by decide)⟩
  · rw [if_neg (fun h => q1 (by
      have h2 := (cmp0 _).mp h
      rw [show (0 : Int64) = zj 0 from rfl, zj_eq (by generalize t / 100 ^ dgM t = x at *; omega) (by omega)] at h2
      generalize t / 100 ^ dgM t = x at *
      omega)), if_pos (by decide)]
    exact ⟨false, _, rfl, tk_sam, ⟨fun h => absurd h (by decide), fun h => absurd h.1 q1⟩, fun h => absurd h (by decide)⟩
