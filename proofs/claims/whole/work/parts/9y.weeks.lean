/-! weeks: the reference's digits, and the case -/
def isG (b0 : Bool) (t : Nat) (i : Nat) : Bool := b0 && noB (fun j => !decide (2 ≤ dgt t j ∧ dgt t j ≤ 24)) i
theorem ref36 {M : PM} {t : Nat} {x1 : Int64} {x3 : Int32} {b0 : Bool} (ht : t < 9223372036854775808) : F_X11_weeks_99_36 FUEL (sI M 99 44 (zi 0)) x1 x3 (zj t) (bb b0) = F_X11_weeks_99_101 (sI M 99 44 (zi (dgM t))) x1 x3 (zj ((t / 100 ^ dgM t : Nat) : Int)) (bb (isG b0 t (dgM t))) := by
  have hm := dgM_le t
  have start : zj (t : Int) = zj ((t / 100 ^ 0 : Nat) : Int) := by rw [Nat.pow_zero, Nat.div_one]
  have start2 : b0 = isG b0 t 0 := (Bool.and_true b0).symm
  rw [start]
  refine loopS (σ := Nat) (fun f i => F_X11_weeks_99_36 f (sI M 99 44 (zi (i : Nat))) x1 x3 (zj ((t / 100 ^ i : Nat) : Int)) (bb (isG b0 t i))) (fun o => o = F_X11_weeks_99_101 (sI M 99 44 (zi (dgM t))) x1 x3 (zj ((t / 100 ^ dgM t : Nat) : Int)) (bb (isG b0 t (dgM t)))) (fun r i => r = dgM t - i ∧ i ≤ dgM t) ?_ (dgM t) 0 FUEL ⟨rfl, Nat.zero_le _⟩ (FUEL_gt (by omega)) |> (fun h => by
    rw [← start2] at h
    exact h)
  rintro f r i ⟨i1, i2⟩
  show F_X11_weeks_99_36 (f + 1) (sI M 99 44 (zi (i : Nat))) x1 x3 (zj ((t / 100 ^ i : Nat) : Int)) (bb (isG b0 t i)) = _ ∨ _
  have e3 : mI (sI M 99 44 (zi (i : Nat))) 99 44 = zi i := rI_at
  have hle : t / 100 ^ i ≤ t := Nat.div_le_self _ _
  rw [F_X11_weeks_99_36, e3]
  by_cases q1 : i = dgM t
  · left
    by_cases q2 : i = 6
    · by_cases q3 : lg_cmp (zj ((t / 100 ^ i : Nat) : Int)) (0 : Int64) ≤ 0
      · rw [if_pos q3, q1]
      · rw [if_neg q3, if_pos (by rw [q2]; decide), q1]
    · have h0 := dgM_yes (t := t) (by omega)
      rw [← q1] at h0
      rw [if_pos (by rw [h0]; decide), q1]
  · right
    have h0 := dgM_no (t := t) (i := i) (by omega)
    have hdg : dgt t i < 100 := Nat.mod_lt _ (by decide)
    refine ⟨dgM t - (i + 1), i + 1, by omega, ⟨rfl, by omega⟩, ?_⟩
    rw [if_neg (by rw [show (0 : Int64) = zj 0 from rfl, cmp_gt (by omega) (by generalize t / 100 ^ i = x at *; omega) (by generalize t / 100 ^ i = x at *; omega)]; decide), if_neg (by rw [show (6 : Int32) = zi 6 from rfl, zi_le (by omega) (by omega)]; omega)]
    have hg : isG b0 t (i + 1) = (isG b0 t i && decide (2 ≤ dgt t i ∧ dgt t i ≤ 24)) := by
      unfold isG
      rw [noB_succ, Bool.not_not, Bool.and_assoc]
    have fin : ∀ c : Bool, F_X11_weeks_99_78 (F_X11_weeks_99_36 f) (sI M 99 44 (zi (i : Nat))) x1 x3 (zj ((t / 100 ^ i : Nat) : Int)) (bb c) = F_X11_weeks_99_36 f (sI M 99 44 (zi ((i + 1 : Nat)))) x1 x3 (zj ((t / 100 ^ (i + 1) : Nat) : Int)) (bb c) := fun c => by
      unfold F_X11_weeks_99_78
      rw [if_neg (by decide), show (100 : Int64) = zj 100 from rfl, zj_next ht, lt_z, e3, sI_sI, show (1 : Int32) = zi 1 from rfl, zi_add, zc (show (i : Int) + 1 = ((i + 1 : Nat) : Int) by omega)]
    unfold F_X11_weeks_99_77
    rw [hg]
    cases hb : isG b0 t i with
    | false =>
      rw [if_pos (by decide)]
      exact fin false
    | true =>
      rw [if_neg (by decide), if_neg (by decide), show (100 : Int64) = zj 100 from rfl, zj_digit ht, zj_i, show (2 : Int32) = zi 2 from rfl, show (24 : Int32) = zi 24 from rfl, Bool.true_and]
      by_cases q4 : 2 ≤ dgt t i ∧ dgt t i ≤ 24
      · rw [in_t (by omega) (by omega), cI_s, if_neg (by decide), decide_eq_true q4]
        exact fin true
      · rw [in_f (by omega) (by omega) (by omega), cI_s, if_pos (by decide), decide_eq_false q4]
        exact fin false
theorem isG_PK {b0 : Bool} {t : Nat} : (isG b0 t (dgM t) = true ∧ t / 100 ^ dgM t = 0 ∧ 2 ≤ dgM t) ↔ (b0 = true ∧ PK t (dgM t)) := by
  unfold isG PK
  rw [Bool.and_eq_true]
  constructor
  · rintro ⟨⟨h1, h2⟩, h3, h4⟩
    refine ⟨h1, h3, h4, fun j hj => ?_⟩
    have := fb_ct_zero.mp (of_decide_eq_true h2) j hj
    rw [Bool.not_eq_false', decide_eq_true_eq] at this
    exact this
  · rintro ⟨h1, h3, h4, h5⟩
    refine ⟨⟨h1, noB_t (fun j hj => ?_)⟩, h3, h4⟩
    rw [decide_eq_true (h5 j hj)]
    rfl
theorem ref101 {M : PM} {t : Nat} {x1 : Int64} {x3 : Int32} {b0 : Bool} (ht : t < 9223372036854775808) (hM : mI M 99 44 = zi (dgM t)) : (b0 = true ∧ PK t (dgM t) → F_X11_weeks_99_101 M x1 x3 (zj ((t / 100 ^ dgM t : Nat) : Int)) (bb (isG b0 t (dgM t))) = F_X11_weeks_99_127 M x1 x3 (zi 0)) ∧ (¬ (b0 = true ∧ PK t (dgM t)) → F_X11_weeks_99_101 M x1 x3 (zj ((t / 100 ^ dgM t : Nat) : Int)) (bb (isG b0 t (dgM t))) = F_X11_weeks_99_127 M x1 x3 (zi 1)) := by
  have hm := dgM_le t
  have hle : t / 100 ^ dgM t ≤ t := Nat.div_le_self _ _
  unfold F_X11_weeks_99_101 F_X11_weeks_99_122
  rw [hM]
  constructor
  · intro h
    obtain ⟨h1, h2, h3⟩ := isG_PK.mpr h
    rw [h1, h2, if_neg (by decide), if_neg (by decide), if_pos (by rw [show (2 : Int32) = zi 2 from rfl, zi_le (by omega) (by omega)]; omega)]
    rfl
  · intro h
    by_cases q1 : isG b0 t (dgM t) = true
    · rw [q1, if_neg (by decide)]
      by_cases q2 : t / 100 ^ dgM t = 0
      · rw [q2, if_neg (by decide), if_neg (by rw [show (2 : Int32) = zi 2 from rfl, zi_le (by omega) (by omega)]; exact fun u => h (isG_PK.mp ⟨q1, q2, by omega⟩))]
        rfl
      · rw [if_pos (by rw [show (0 : Int64) = zj 0 from rfl, cmp_gt (by omega) (by generalize t / 100 ^ dgM t = x at *; omega) (by generalize t / 100 ^ dgM t = x at *; omega)]; decide)]
        rfl
    · rw [Bool.not_eq_true] at q1
      rw [q1, if_pos (by decide)]
      rfl
def dsm (d : Nat → Nat) : Nat → Nat
  | 0 => 0
  | k + 1 => 100 * dsm d k + d k
theorem dsm_lt {d : Nat → Nat} : ∀ k, (∀ i, i < k → d i < 100) → dsm d k < 100 ^ k
  | 0, _ => (by decide : 0 < 1)
  | k + 1, h => by
    have := dsm_lt k (fun i hi => h i (by omega))
    have := h k (by omega)
    rw [dsm, Nat.pow_succ]
    omega
theorem dsm_cong {d e : Nat → Nat} : ∀ k, (∀ i, i < k → d i = e i) → dsm d k = dsm e k
  | 0, _ => rfl
  | k + 1, h => by rw [dsm, dsm, dsm_cong k (fun i hi => h i (by omega)), h k (by omega)]
theorem sumC {M : PM} {d : Nat → Nat} {m : Nat} (hm : mI M 95 3 = zi m) (hm6 : m ≤ 6) (hd : ∀ i, i < m → mA M 97 i = zi (d i) ∧ d i < 100) : F_X6_firstDays_95_19 FUEL M (zj 0) (zi 0) = rJ (zj (dsm d m)) M := by
  refine loopU m (fun f i => F_X6_firstDays_95_19 f M (zj (dsm d i)) (zi (i : Nat))) _ (fun f => ?_) (fun f i hi => ?_) 0 FUEL (Nat.zero_le _) (FUEL_gt (by omega))
  · rw [F_X6_firstDays_95_19, hm, if_pos (by rw [zi_le (by omega) (by omega)]; omega)]
  · obtain ⟨h1, h2⟩ := hd i hi
    rw [F_X6_firstDays_95_19, hm, if_neg (by rw [zi_le (by omega) (by omega)]; omega), if_pos (zi_ixT (by omega) (by omega)), zi_natN (by omega), h1, zi_j (by omega), show (100 : Int64) = zj 100 from rfl, zj_mul, zj_add, lt_z, show (1 : Int32) = zi 1 from rfl, zi_add, lt_z, zc (show (i : Int) + 1 = ((i + 1 : Nat) : Int) by omega), zcj (show (100 : Int) * (dsm d i : Int) + (d i : Int) = ((dsm d (i + 1) : Nat) : Int) by rw [dsm]; omega)]
theorem sumM {M : PM} {d : Nat → Nat} {m : Nat} (hm : mI M 99 44 = zi m) (hm6 : m ≤ 6) (hd : ∀ i, i < m → mA M 125 i = zi (d i) ∧ d i < 100) : F_X11_weeks_99_200 FUEL M (zj 0) (zi 0) = rJ (zj (dsm d m)) M := by
  refine loopU m (fun f i => F_X11_weeks_99_200 f M (zj (dsm d i)) (zi (i : Nat))) _ (fun f => ?_) (fun f i hi => ?_) 0 FUEL (Nat.zero_le _) (FUEL_gt (by omega))
  · rw [F_X11_weeks_99_200, hm, if_pos (by rw [zi_le (by omega) (by omega)]; omega)]
  · obtain ⟨h1, h2⟩ := hd i hi
    rw [F_X11_weeks_99_200, hm, if_neg (by rw [zi_le (by omega) (by omega)]; omega), if_pos (zi_ixT (by omega) (by omega)), zi_natN (by omega), h1, zi_j (by omega), show (100 : Int64) = zj 100 from rfl, zj_mul, zj_add, lt_z, show (1 : Int32) = zi 1 from rfl, zi_add, lt_z, zc (show (i : Int) + 1 = ((i + 1 : Nat) : Int) by omega), zcj (show (100 : Int) * (dsm d i : Int) + (d i : Int) = ((dsm d (i + 1) : Nat) : Int) by rw [dsm]; omega)]
theorem ref148 {M : PM} {t n : Nat} (ht : t < 9223372036854775808) (hm : mI M 99 44 = zi (dgM t)) (h2 : 2 ≤ dgM t) : ∃ M', F_X11_weeks_99_148 FUEL M (zi n) (zj t) (zi ((dgM t : Int) - 1)) = (cI (G_lays 10 0 M' 0 (zi n)) fun v1395 M1394 => (if v1395 = 0 then some (.inl (some (.long (-1 : Int64))), M1394) else lt ((0 : Int64)) fun y1396 => F_X11_weeks_99_200 FUEL M1394 y1396 0)) ∧ M'.1 = M.1 ∧ Sam M M' ∧ ∀ i, i < dgM t → mA M' 124 i = zi (dgW t (dgM t) i) := by
  have hm6 := dgM_le t
  have start : zj (t : Int) = zj ((t / 100 ^ 0 : Nat) : Int) := by rw [Nat.pow_zero, Nat.div_one]
  rw [start]
  refine loopS (σ := PM × Nat) (fun f q => F_X11_weeks_99_148 f q.1 (zi n) (zj ((t / 100 ^ q.2 : Nat) : Int)) (zi ((dgM t : Int) - 1 - q.2))) (fun o => ∃ M', o = (cI (G_lays 10 0 M' 0 (zi n)) fun v1395 M1394 => (if v1395 = 0 then some (.inl (some (.long (-1 : Int64))), M1394) else lt ((0 : Int64)) fun y1396 => F_X11_weeks_99_200 FUEL M1394 y1396 0)) ∧ M'.1 = M.1 ∧ Sam M M' ∧ ∀ i, i < dgM t → mA M' 124 i = zi (dgW t (dgM t) i)) (fun r q => r = dgM t - q.2 ∧ q.2 ≤ dgM t ∧ q.1.1 = M.1 ∧ Sam M q.1 ∧ ∀ i, dgM t - q.2 ≤ i → i < dgM t → mA q.1 124 i = zi (dgW t (dgM t) i)) ?_ (dgM t) (M, 0) FUEL ⟨rfl, Nat.zero_le _, rfl, Sam.rf, fun i h1 h2 => by have h1' : dgM t - 0 ≤ i := h1; omega⟩ (FUEL_gt (by omega)) |> (fun h => by
    simp only [Int.natCast_zero, Int.sub_zero] at h
    exact h)
  rintro f r ⟨M1, j⟩ ⟨i1, i2, i3, i4, i5⟩
  simp only at i1 i2 i3 i4 i5
  show (∃ M', F_X11_weeks_99_148 (f + 1) M1 (zi n) (zj ((t / 100 ^ j : Nat) : Int)) (zi ((dgM t : Int) - 1 - j)) = _ ∧ _) ∨ _
  rw [F_X11_weeks_99_148]
  by_cases q1 : j = dgM t
  · left
    exact ⟨M1, by rw [if_pos (by rw [show (0 : Int32) = zi 0 from rfl, zi_lt (by omega) (by omega)]; omega)], i3, i4, fun i hi => i5 i (by omega) hi⟩
  · right
    have hdg : dgt t j < 100 := Nat.mod_lt _ (by decide)
    refine ⟨dgM t - (j + 1), (sA M1 124 (dgM t - 1 - j) (zi (dgt t j)), j + 1), by omega, ⟨rfl, by show j + 1 ≤ dgM t; omega, i3, Sam.a 124 _ _ (by decide) i4, fun i h1 h2 => ?_⟩, ?_⟩
    · have h1' : dgM t - (j + 1) ≤ i := h1
      by_cases q2 : i = dgM t - 1 - j
      · rw [q2]
        show (sA M1 124 _ _).2.2.1 124 _ = _
        rw [rA_at]
        unfold dgW
        rw [show dgM t - 1 - (dgM t - 1 - j) = j by omega]
      · exact (rA_nk q2).trans (i5 i (by omega) h2)
    · rw [if_neg (by rw [show (0 : Int32) = zi 0 from rfl, zi_lt (by omega) (by omega)]; omega), if_neg (by decide), if_pos (zi_ixT (by omega) (by omega)), if_neg (by decide), show (100 : Int64) = zj 100 from rfl, zj_digit ht, zj_next ht, zj_i, lt_z, show (-1 : Int32) = zi (-1) from rfl, zi_add, lt_z, zc (show (dgM t : Int) - 1 - j = ((dgM t - 1 - j : Nat) : Int) by omega), zi_natN (by omega), zc (show (dgM t : Int) - 1 - j + -1 = (dgM t : Int) - 1 - ((j + 1 : Nat) : Int) by omega)]
theorem okqJ {M M1 : PM} {x : Int64} {E : String} {f : Option PR} {g : PM → Option PR} (hR : Rel M) (hf : f = rJ x M1) (hs : Sam0 M M1) (hg : ∀ M', Sam0 M M' → ∃ M2, g M' = rJ x M2 ∧ mI M2 99 0 = zi 0 ∧ Sam M' M2) : ∃ M', stepJ (wJ1 E f) g = some M' ∧ Rel M' := by
  obtain ⟨M2, h1, h2, h3⟩ := hg (sB M1 129 (0 : Int32).toNatClampNeg x) (hs.tr (Sam0.out _ _))
  refine ⟨M2, ?_, hR.sm ((hs.tr (Sam0.out _ _)).tr h3.1)⟩
  rw [hf]
  unfold stepJ wJ1
  simp only [h1]
  unfold F_X11_thrown_99
  refine if_pos ⟨h2, fun _ => ?_⟩
  show M2.2.2.2.1 129 _ = _
  rw [h3.2, rB_sB, if_pos rfl, if_pos rfl]
theorem okrJ {M M1 M2 : PM} {y : Int64} {f : Option PR} {g : PM → Option PR} (hR : Rel M) (hs : Sam0 M M1) (hf : f = rE nIAE (rf M1 2)) (hg : g (rf M1 2) = rJ y M2) (h0 : mI M2 99 0 = zi 1) (hsm : Sam0 (rm (rf M1 2) (zi 1) 2) M2) : ∃ M', stepJ (wJ1 nIAE f) g = some M' ∧ Rel M' := by
  refine ⟨M2, ?_, (Rel_rf 2 (by decide) (zi 1) (hR.sm hs)).sm hsm⟩
  rw [hf]
  have e1 : wJ1 nIAE (rE nIAE (rf M1 2)) = some (1, rf M1 2) := by
    unfold wJ1
    exact if_pos rfl
  rw [e1]
  unfold stepJ
  simp only [hg]
  unfold F_X11_thrown_99
  exact if_pos ⟨h0, fun e => absurd e (by decide)⟩
theorem weeks_pre {M : PM} {z y : Int} (hz : -9223372036854775808 ≤ z ∧ z < 9223372036854775808) (hy : -2147483648 ≤ y ∧ y < 2147483648) : F_X11_weeks_99 M (zj z) (zi y) = F_X11_weeks_99_36 FUEL (sI (sI M 99 0 (zi 0)) 99 44 (zi 0)) (zj z) (zi y) (zj z) (bb (decide (1 ≤ y ∧ y ≤ 6) && decide (0 < z))) := by
  unfold F_X11_weeks_99
  rw [show (0 : Int32) = zi 0 from rfl, show (1 : Int32) = zi 1 from rfl, show (6 : Int32) = zi 6 from rfl]
  unfold F_X11_weeks_99_28 F_X11_weeks_99_29
  by_cases q1 : 1 ≤ y ∧ y ≤ 6
  · rw [in_t (by omega) (by omega), cI_s, if_neg (by decide), decide_eq_true q1, Bool.true_and]
    by_cases q2 : 0 < z
    · rw [if_neg (by rw [show (0 : Int64) = zj 0 from rfl, cmp_gt (by omega) (by omega) q2]; decide), decide_eq_true q2]
      rfl
    · rw [if_pos (by
        rw [show (0 : Int64) = zj 0 from rfl]
        rcases Int.lt_or_eq_of_le (show z ≤ 0 by omega) with u | u
        · rw [cmp_lt (by omega) (by omega) u]; decide
        · rw [cmp_eq u]; decide), decide_eq_false q2]
      rfl
  · rw [in_f (by omega) (by omega) (by omega), cI_s, if_pos rfl, decide_eq_false q1, Bool.false_and]
    rfl
theorem weeksC_no {M M1 : PM} {b : Bool} {x : Int64} {y : Int} (hy : -2147483648 ≤ y ∧ y < 2147483648) (ht : F_X6_take_95 M x = rI (bb b) M1) (h : ¬ (b = true ∧ 1 ≤ y ∧ y ≤ 6)) : F_X10_weeks_0 M x (zi y) = rE nIAE (rf M1 2) := by
  unfold F_X10_weeks_0
  rw [ht, cI_s]
  have e : F_X10_weeks_0_27 M1 (zi y) = rE nIAE (rf M1 2) := by
    unfold F_X10_weeks_0_27 F_X10_weeks_0_28
    rw [show (0 : Int32) = zi 0 from rfl, need_f, bV_e]
  cases b with
  | false => rw [if_pos (by decide)]; exact e
  | true =>
    rw [if_neg (by decide)]
    by_cases q1 : y < 1
    · rw [if_pos (by rw [show (1 : Int32) = zi 1 from rfl, zi_lt (by omega) (by omega)]; exact q1)]; exact e
    · rw [if_neg (by rw [show (1 : Int32) = zi 1 from rfl, zi_lt (by omega) (by omega)]; exact q1), if_pos (by rw [show (6 : Int32) = zi 6 from rfl, zi_lt (by omega) (by omega)]; have : ¬ (1 ≤ y ∧ y ≤ 6) := fun u => h ⟨rfl, u⟩; omega)]
      exact e
theorem weeksM_no {M1 : PM} {x1 : Int64} {x3 : Int32} {v : Int32} : F_X11_weeks_99_127 (sI (sI (rf M1 2) 99 0 (zi 0)) 99 44 v) x1 x3 (zi 1) = rJ 0 (sA (sI (sI (sI (rf M1 2) 99 0 (zi 0)) 99 44 v) 99 0 (zi 1)) 101 2 (mA (rf M1 2) 101 2 + zi 1)) := by
  have h0 : mI (sI (sI (rf M1 2) 99 0 (zi 0)) 99 44 v) 99 0 = zi 0 := (rI_nk (by decide)).trans th0
  have hb := bad_t (w := 1) (r := 2) h0 (Or.inl rfl) (by decide)
  unfold F_X11_weeks_99_127
  rw [show (1 : Int32) = zi 1 from rfl, show (2 : Int32) = zi 2 from rfl, hb, cI_s, if_neg (by decide)]
  rfl
theorem weeksM_sm {M1 : PM} {v : Int32} : Sam0 (rm (rf M1 2) (zi 1) 2) (sA (sI (sI (sI (rf M1 2) 99 0 (zi 0)) 99 44 v) 99 0 (zi 1)) 101 2 (mA (rf M1 2) 101 2 + zi 1)) := by
  refine ⟨fun p hp => ?_, fun _ _ => rfl, fun _ _ => rfl, fun _ _ _ => rfl⟩
  have n1 : ¬ (p.1 = 99 ∧ p.2 = 0) := fun e => by
    obtain ⟨p1, p2⟩ := p
    simp only at e
    obtain ⟨rfl, rfl⟩ := e
    exact absurd hp (by decide)
  have n2 : ¬ (p.1 = 99 ∧ p.2 = 44) := fun e => by
    obtain ⟨p1, p2⟩ := p
    simp only at e
    obtain ⟨rfl, rfl⟩ := e
    exact absurd hp (by decide)
  show (sI (sI (sI (rf M1 2) 99 0 (zi 0)) 99 44 v) 99 0 (zi 1)).1 p.1 p.2 = (sI (sI (rf M1 2) 99 0 (zi 0)) 99 0 (zi 1)).1 p.1 p.2
  exact ((u2_ne n1).trans ((u2_ne n2).trans (u2_ne n1))).trans ((u2_ne n1).trans (u2_ne n1)).symm
theorem ok21 : OK_21 Rel := fun M a1 a2 a3 hR => by
  unfold c_21 w_weeks
  generalize (a1.toInt64 <<< ((32 : Int32).toInt64 &&& 63)) ||| (a2.toInt64 &&& 4294967295) = X
  obtain ⟨z, rfl, hz⟩ := zj_rng X
  obtain ⟨y, rfl, hy⟩ := zi_rng a3
  by_cases hp : 0 < z
  · obtain ⟨t, rfl⟩ : ∃ t : Nat, z = (t : Int) := ⟨z.toNat, by omega⟩
    have ht : t < 9223372036854775808 := by omega
    have hm6 := dgM_le t
    obtain ⟨b, M1, t1, t2, t3, t4⟩ := take_s (M := M) ht
    by_cases hgood : PK t (dgM t) ∧ 1 ≤ y ∧ y ≤ 6
    · have hb : b = true := t3.mpr hgood.1
      obtain ⟨t5, t6⟩ := t4 hb
      obtain ⟨n, rfl, hn⟩ := natOf (z := y) (n := 7) ⟨by omega, by omega⟩
      have hW0 : ∀ i, i < dgM t → 1 ≤ dgW t (dgM t) i ∧ dgW t (dgM t) i ≤ 24 := fun i hi => by
        have := hgood.1.2.2 (dgM t - 1 - i) (by omega)
        unfold dgW
        omega
      have hW1 : ∀ i, i < dgM t → 0 < dgW t (dgM t) i := fun i hi => (hW0 i hi).1
      obtain ⟨M2, k1, k2⟩ := isSet_s (W := dgW t (dgM t)) (n := n) (m := dgM t) hm6 (by omega) hW0 10 0 M1 (fun _ => 0) (Nat.zero_le _) (by omega) t5 t6 (fun i hi => absurd hi (Nat.not_lt_zero i))
      have eC : F_X10_weeks_0 M (zj t) (zi n) = (cJ (cI (G_isSet 10 0 M1 (zi ((0 : Nat) : Int)) (zi n) (zi (lcW (dgW t (dgM t)) 0))) fun v618 M617 => (if v618 = 0 then some (.inl (some (.long (-1 : Int64))), M617) else lt ((0 : Int64)) fun y619 => F_X6_firstDays_95_19 FUEL M617 y619 0)) fun v622 M621 => some (.inl (some (.long v622)), M621)) := by
        unfold F_X10_weeks_0
        rw [t1, hb, cI_s, if_neg (by decide), if_neg (by rw [show (1 : Int32) = zi 1 from rfl, zi_lt (by omega) (by omega)]; omega), if_neg (by rw [show (6 : Int32) = zi 6 from rfl, zi_lt (by omega) (by omega)]; omega)]
        unfold F_X10_weeks_0_28
        rw [show (1 : Int32) = zi 1 from rfl, need_t, bV_s]
        rfl
      have eM : ∀ M', Sam0 M M' → ∃ M3, F_X11_weeks_99 M' (zj t) (zi n) = (cI (G_lays 10 0 M3 (zi ((0 : Nat) : Int)) (zi n)) fun v1395 M1394 => (if v1395 = 0 then some (.inl (some (.long (-1 : Int64))), M1394) else lt ((0 : Int64)) fun y1396 => F_X11_weeks_99_200 FUEL M1394 y1396 0)) ∧ mI M3 99 0 = zi 0 ∧ mI M3 99 44 = zi (dgM t) ∧ Sam M' M3 ∧ ∀ i, i < dgM t → mA M3 124 i = zi (dgW t (dgM t) i) := fun M' hs => by
        have h44 : mI (sI (sI M' 99 0 (zi 0)) 99 44 (zi (dgM t))) 99 44 = zi (dgM t) := rI_at
        have h00 : mI (sI (sI M' 99 0 (zi 0)) 99 44 (zi (dgM t))) 99 0 = zi 0 := (rI_nk (by decide)).trans th0
        obtain ⟨M3, r1, r2, r3, r4⟩ := ref148 (M := sI (sI M' 99 0 (zi 0)) 99 44 (zi (dgM t))) (n := n) ht h44 hgood.1.2.1
        refine ⟨M3, ?_, by rw [mI, r2]; exact h00, by rw [mI, r2]; exact h44, (Sam.th.tr (Sam.i 99 44 _ (by decide) Sam.rf)).tr r3, r4⟩
        rw [weeks_pre hz hy, ref36 ht, (ref101 ht h44).1 ⟨by rw [decide_eq_true hgood.2, decide_eq_true hp]; rfl, hgood.1⟩]
        unfold F_X11_weeks_99_127
        rw [bad_f h00, cI_s, if_pos (show zi 0 = 0 from rfl), h44, show (1 : Int32) = zi 1 from rfl, zi_sub, lt_z]
        exact r1
      rcases k2 with ⟨g1, d, _, g3, g4⟩ | ⟨g1, _, g3⟩
      · have hd100 : ∀ i, i < dgM t → d i < 100 := fun i hi => by
          have := (g3.1 i (Nat.zero_le _) hi).2.1
          have : hiC (dgW t (dgM t)) i ≤ dgW t (dgM t) i := Nat.le_of_dvd (hW1 i hi) (Nat.gcd_dvd_right _ _)
          have := (hW0 i hi).2
          omega
        refine okqJ (x := zj (dsm d (dgM t))) (M1 := M2) hR ?_ (t2.tr k1.2.1) (fun M' hs => ?_)
        · have m95 : mI M2 95 3 = zi (dgM t) := by rw [mI, k1.1]; exact t5
          rw [eC, g1, cI_s, if_neg (by decide), lt_z]
          have := sumC m95 hm6 (fun i hi => ⟨g4 i hi, hd100 i hi⟩)
          have this' : F_X6_firstDays_95_19 FUEL M2 0 0 = rJ (zj (dsm d (dgM t))) M2 := this
          rw [this', cJ_s]
        · obtain ⟨M3, e1, e2, e3, e4, e5⟩ := eM M' hs
          obtain ⟨M4, l1, l2⟩ := lays_s (W := dgW t (dgM t)) (n := n) (m := dgM t) hm6 (by omega) 10 0 M3 (fun _ => 0) (Nat.zero_le _) (by omega) e3 (fun i hi => ⟨e5 i hi, hW0 i hi⟩) (fun i hi => absurd hi (Nat.not_lt_zero i))
          refine ⟨M4, ?_, by rw [mI, l1.1]; exact e2, e4.tr l1.2.1⟩
          rcases l2 with ⟨f1, r, _, f3, f4⟩ | ⟨f1, _, f3⟩
          · have hsame := fun j (hj : j < dgM t) => weeks_same hW1 f3 g3 _ j (Nat.lt_succ_self _) hj
            have m99 : mI M4 99 44 = zi (dgM t) := by rw [mI, l1.1]; exact e3
            rw [e1, f1, cI_s, if_neg (by decide), lt_z]
            have := sumM m99 hm6 (fun i hi => ⟨f4 i hi, by rw [← hsame i hi]; exact hd100 i hi⟩)
            have this' : F_X11_weeks_99_200 FUEL M4 0 0 = rJ (zj (dsm r (dgM t))) M4 := this
            rw [this', dsm_cong (d := d) (e := r) (dgM t) hsame]
          · exact absurd (weeks_red hW1 g3.1) (f3 _ (fun i hi => absurd hi (Nat.not_lt_zero i)))
      · refine okqJ (x := zj (-1)) (M1 := M2) hR ?_ (t2.tr k1.2.1) (fun M' hs => ?_)
        · rw [eC, g1, cI_s, if_pos (by decide), cJ_s]
          rfl
        · obtain ⟨M3, e1, e2, e3, e4, e5⟩ := eM M' hs
          obtain ⟨M4, l1, l2⟩ := lays_s (W := dgW t (dgM t)) (n := n) (m := dgM t) hm6 (by omega) 10 0 M3 (fun _ => 0) (Nat.zero_le _) (by omega) e3 (fun i hi => ⟨e5 i hi, hW0 i hi⟩) (fun i hi => absurd hi (Nat.not_lt_zero i))
          refine ⟨M4, ?_, by rw [mI, l1.1]; exact e2, e4.tr l1.2.1⟩
          rcases l2 with ⟨f1, r, _, f3, f4⟩ | ⟨f1, _, f3⟩
          · exact absurd (weeks_in hW1 f3) (g3 _ (fun i hi => absurd hi (Nat.not_lt_zero i)))
          · rw [e1, f1, cI_s, if_pos (by decide)]
            rfl
    · refine okrJ (y := 0) (M1 := M1) (M2 := sA (sI (sI (sI (rf M1 2) 99 0 (zi 0)) 99 44 (zi (dgM t))) 99 0 (zi 1)) 101 2 (mA (rf M1 2) 101 2 + zi 1)) hR t2 (weeksC_no hy t1 (fun u => hgood ⟨t3.mp u.1, u.2⟩)) ?_ (rI_at (M := sI (sI (rf M1 2) 99 0 (zi 0)) 99 44 (zi (dgM t))) (q := 99) (k := 0) (x := zi 1)) weeksM_sm
      rw [weeks_pre hz hy, ref36 ht, (ref101 ht rI_at).2 (fun u => hgood ⟨u.2, by
        have := ((Bool.and_eq_true _ _).mp u.1).1
        exact of_decide_eq_true this⟩)]
      exact weeksM_no
  · have hsm : Sam0 M (sI M 95 3 (zi 0)) := tk_sam
    refine okrJ (y := 0) (M1 := sI M 95 3 (zi 0)) (M2 := sA (sI (sI (sI (rf (sI M 95 3 (zi 0)) 2) 99 0 (zi 0)) 99 44 (zi 0)) 99 0 (zi 1)) 101 2 (mA (rf (sI M 95 3 (zi 0)) 2) 101 2 + zi 1)) hR hsm (weeksC_no (b := false) hy (take_no (by omega)) (fun u => absurd u.1 (by decide))) ?_ (rI_at (M := sI (sI (rf (sI M 95 3 (zi 0)) 2) 99 0 (zi 0)) 99 44 (zi 0)) (q := 99) (k := 0) (x := zi 1)) weeksM_sm
    rw [weeks_pre hz hy, decide_eq_false hp, Bool.and_false]
    refine loopS (σ := Unit) (fun f _ => F_X11_weeks_99_36 f (sI (sI (rf (sI M 95 3 (zi 0)) 2) 99 0 (zi 0)) 99 44 (zi 0)) (zj z) (zi y) (zj z) (bb false)) (fun o => o = rJ 0 (sA (sI (sI (sI (rf (sI M 95 3 (zi 0)) 2) 99 0 (zi 0)) 99 44 (zi 0)) 99 0 (zi 1)) 101 2 (mA (rf (sI M 95 3 (zi 0)) 2) 101 2 + zi 1))) (fun _ _ => True) ?_ 0 () FUEL trivial (FUEL_gt (by omega))
    rintro f r _ _
    left
    show F_X11_weeks_99_36 (f + 1) _ _ _ _ _ = _
    rw [F_X11_weeks_99_36, if_pos (by
      rw [show (0 : Int64) = zj 0 from rfl]
      rcases Int.lt_or_eq_of_le (show z ≤ 0 by omega) with u | u
      · rw [cmp_lt (by omega) (by omega) u]; decide
      · rw [cmp_eq u]; decide)]
    unfold F_X11_weeks_99_101 F_X11_weeks_99_122
    rw [if_pos (by decide)]
    exact weeksM_no
