/-! calendar: the whole text -/
def C00 : Cal := ((0, fun _ => 0, fun _ => 0), (0, fun _ => 0, fun _ => 0), 0, 0, fun _ => 0)
def A00 : Nat → Nat → Nat := fun _ _ => 0
def rdo (b : Nat → Nat) (n : Nat) : Nat → Out
  | 0 => oGood 0 C00 A00
  | k + 1 => oCl b n k (rdo b n k).2.2.1 (rdo b n k).2.2.2.1 (rdo b n k).2.2.2.2
def rdS (b : Nat → Nat) (n k : Nat) : Bool := decide ((rdo b n k).1 ≠ 0 ∨ sb b n (rdo b n k).2.2.1 = n)
def rdK (b : Nat → Nat) (n : Nat) : Nat := fa_first (rdS b n) 61
theorem WFD00 : WFD C00 A00 := ⟨by decide, fun l h => absurd h (Nat.not_lt_zero l), fun l h => absurd h (Nat.not_lt_zero l), fun l h => absurd h (Nat.not_lt_zero l), fun i j _ h => absurd h (Nat.not_lt_zero j), fun h l a => absurd a (Nat.not_lt_zero h), fun _ _ _ _ => rfl⟩
theorem oBad_1 {C : Cal} {A : Nat → Nat → Nat} {f : Int} {g : Nat} : (oBad C A f g).1 = f := rfl
theorem oCl60 {b : Nat → Nat} {n p : Nat} {C : Cal} {A : Nat → Nat → Nat} : (oCl b n 60 p C A).1 ≠ 0 := by
  unfold oCl
  split
  · rw [if_pos (Or.inl rfl), oBad_1]; decide
  · split
    · rw [if_pos (Or.inl rfl), oBad_1]; decide
    · split
      · rw [if_pos (Or.inl rfl), oBad_1]; decide
      · split
        · rw [if_pos rfl, oBad_1]; decide
        · split
          · rw [if_pos (Or.inl rfl), oBad_1]; decide
          · rw [oBad_1]; decide
theorem oCl_sb {b : Nat → Nat} {n cl p : Nat} {C : Cal} {A : Nat → Nat → Nat} (hp : p ≤ n) : oCl b n cl (sb b n p) C A = oCl b n cl p C A := by
  unfold oCl
  rw [sb_sb hp]
theorem rdo_succ (b : Nat → Nat) (n k : Nat) : rdo b n (k + 1) = oCl b n k (rdo b n k).2.2.1 (rdo b n k).2.2.2.1 (rdo b n k).2.2.2.2 := rfl
theorem rdo_60 {b : Nat → Nat} {n k : Nat} (h : k = 60) : (rdo b n (k + 1)).1 ≠ 0 := by
  rw [rdo_succ]
  generalize (rdo b n k).2.2.1 = p
  generalize (rdo b n k).2.2.2.1 = C
  generalize (rdo b n k).2.2.2.2 = A
  rw [h]
  exact oCl60
def StF (b : Nat → Nat) (n : Nat) (M : PM) (o : Out) : Prop := (o.1 = 0 ∧ (∃ p s, TC b M n p s 0 (-1)) ∧ DC M o.2.2.2.1 o.2.2.2.2 ∧ WFD o.2.2.2.1 o.2.2.2.2) ∨ (o.1 ≠ 0 ∧ (∃ p s, TC b M n p s o.1 o.2.1) ∧ ∃ C A, DC M C A ∧ WFD C A)
theorem read52 {b : Nat → Nat} {M : PM} {n s : Nat} (h : TC b M n 0 s 0 (-1)) (hd : DC M C00 A00) : ∃ M', F_X0_read_29_1_52 FUEL M 0 = F_X0_read_29_1_94 M' ∧ Sam0 M M' ∧ StF b n M' (rdo b n (rdK b n)) ∧ ∀ k, k ≤ rdK b n → (rdo b n k).1 = 0 → WFD (rdo b n k).2.2.2.1 (rdo b n k).2.2.2.2 ∧ (rdo b n k).2.2.1 ≤ n := by
  have hK := fa_first_le (rdS b n) 61
  have hK' : rdK b n ≤ 61 := hK
  refine loopS (σ := PM × Nat) (fun f q => F_X0_read_29_1_52 f q.1 (zi (q.2 : Nat))) (fun o => ∃ M', o = F_X0_read_29_1_94 M' ∧ Sam0 M M' ∧ StF b n M' (rdo b n (rdK b n)) ∧ ∀ k, k ≤ rdK b n → (rdo b n k).1 = 0 → WFD (rdo b n k).2.2.2.1 (rdo b n k).2.2.2.2 ∧ (rdo b n k).2.2.1 ≤ n) (fun r q => r = rdK b n - q.2 ∧ q.2 ≤ rdK b n ∧ Sam0 M q.1 ∧ StC b n q.1 (rdo b n q.2) ∧ ∀ k, k ≤ q.2 → (rdo b n k).1 = 0 → WFD (rdo b n k).2.2.2.1 (rdo b n k).2.2.2.2 ∧ (rdo b n k).2.2.1 ≤ n) ?_ (rdK b n) (M, 0) FUEL ⟨(Nat.sub_zero _).symm, Nat.zero_le _, Sam0.rf, Or.inl ⟨rfl, ⟨s, h⟩, hd, WFD00⟩, fun k hk _ => by
    have hk' : k ≤ 0 := hk
    rw [show k = 0 by omega]
    exact ⟨WFD00, Nat.zero_le n⟩⟩ (FUEL_gt (by omega))
  rintro f r ⟨M1, k⟩ ⟨i1, i2, i3, i4, i5⟩
  simp only at i1 i2 i3 i4 i5
  show (∃ M', F_X0_read_29_1_52 (f + 1) M1 (zi (k : Nat)) = _ ∧ _) ∨ _
  rw [F_X0_read_29_1_52]
  have toF : StC b n M1 (rdo b n k) → StF b n M1 (rdo b n k) := fun u => by
    rcases u with ⟨u1, ⟨s, u2⟩, u3⟩ | u
    · exact Or.inl ⟨u1, ⟨_, s, u2⟩, u3⟩
    · exact Or.inr u
  by_cases q1 : k = 61
  · left
    have e : rdK b n = k := by omega
    exact ⟨M1, by rw [if_pos (by rw [q1]; decide)], i3, e ▸ toF i4, e ▸ i5⟩
  rw [if_neg (by rw [show (60 : Int32) = zi 60 from rfl, zi_lt (by omega) (by omega)]; omega)]
  have i4' := i4
  rcases i4 with ⟨u1, ⟨s1, u2⟩, u3, u4⟩ | ⟨u1, ⟨p1, s1, u2⟩, u3⟩
  · obtain ⟨M2, a1, a2, a3⟩ := atEnd_c u2
    have hp := u2.2.2.2.2.2.1
    rw [isFine_c u2, cI_s, decide_eq_true rfl, if_neg (by decide), a1, cI_s]
    by_cases q2 : sb b n (rdo b n k).2.2.1 = n
    · left
      have e : rdK b n = k := by
        rcases Nat.eq_or_lt_of_le i2 with v | v
        · exact v.symm
        · have := fa_first_no (rdS b n) 61 k v
          unfold rdS at this
          rw [decide_eq_true (Or.inr q2)] at this
          exact absurd this (by decide)
      rw [decide_eq_true q2, if_neg (by decide)]
      exact ⟨M2, rfl, i3.tr a3.sam, e ▸ Or.inl ⟨u1, ⟨_, _, a2⟩, u3.kt a3, u4⟩, e ▸ i5⟩
    · right
      have hlt : k < rdK b n := by
        rcases Nat.eq_or_lt_of_le i2 with v | v
        · have hy := fa_first_yes (rdS b n) 61 (show rdK b n < 61 by omega)
          have hy2 := of_decide_eq_true hy
          have e : fa_first (rdS b n) 61 = k := v.symm
          rw [e] at hy2
          rcases hy2 with w | w
          · exact absurd u1 w
          · exact absurd w q2
        · exact v
      obtain ⟨M3, c1, c2, c3⟩ := clause_c (cl := k) (md := if k = 60 then 0 else 1) a2 (u3.kt a3) u4 rfl
      rw [oCl_sb hp] at c3
      refine ⟨rdK b n - (k + 1), (M3, k + 1), by omega, ⟨rfl, by show k + 1 ≤ rdK b n; omega, (i3.tr a3.sam).tr c2, c3, fun j hj hj0 => ?_⟩, ?_⟩
      · have hj' : j ≤ k + 1 := hj
        by_cases q3 : j = k + 1
        · subst q3
          rcases c3 with ⟨_, ⟨s9, w9⟩, _, w⟩ | ⟨w, _⟩
          · exact ⟨w, w9.2.2.2.2.2.1⟩
          · exact absurd hj0 w
        · exact i5 j (by omega) hj0
      · rw [decide_eq_false q2, if_pos (by decide)]
        unfold F_X0_read_29_1_85
        by_cases q4 : k = 60
        · rw [if_pos q4] at c1
          have c1' : F_X0_readClause_29_1 M2 0 = rV M3 := c1
          rw [if_pos (by rw [q4]; decide), c1', cV_s, show (1 : Int32) = zi 1 from rfl, zi_add, lt_z, zc (show (k : Int) + 1 = ((k + 1 : Nat) : Int) by omega)]
        · rw [if_neg q4] at c1
          have c1' : F_X0_readClause_29_1 M2 1 = rV M3 := c1
          rw [if_neg (by rw [show (60 : Int32) = zi 60 from rfl, zi_le (by omega) (by omega)]; omega), c1', cV_s, show (1 : Int32) = zi 1 from rfl, zi_add, lt_z, zc (show (k : Int) + 1 = ((k + 1 : Nat) : Int) by omega)]
  · left
    have e : rdK b n = k := by
      rcases Nat.eq_or_lt_of_le i2 with v | v
      · exact v.symm
      · have := fa_first_no (rdS b n) 61 k v
        unfold rdS at this
        rw [decide_eq_true (Or.inl u1)] at this
        exact absurd this (by decide)
    rw [isFine_c u2, cI_s, decide_eq_false u1, if_pos (by decide)]
    exact ⟨M1, rfl, i3, e ▸ toF i4', e ▸ i5⟩
/-! the whole turns, with the bound -/
def cpT (x : Nat) (W : Nat → Nat) : Nat → Nat
  | 0 => x
  | k + 1 => if 100000 < cpT x W k then cpT x W k else Nat.lcm (cpT x W k) (W k)
def cpM (x : Nat) (W : Nat → Nat) : Nat → Nat
  | 0 => x
  | k + 1 => if 100000 < cpM x W k then cpM x W k else if 100000 < Nat.lcm (cpM x W k) (W k) then 100001 else Nat.lcm (cpM x W k) (W k)
theorem lcmW24 {a w : Nat} (ha : a ≤ 100000) (hw : 1 ≤ w ∧ w ≤ 24) (h0 : 0 < a) : 0 < Nat.lcm a w ∧ Nat.lcm a w ≤ 2400000 := by
  refine ⟨Nat.lcm_pos h0 hw.1, Nat.le_trans (Nat.le_of_dvd (Nat.mul_pos h0 hw.1) (Nat.lcm_dvd_mul _ _)) ?_⟩
  exact Nat.mul_le_mul ha hw.2
theorem cpT_rng {x : Nat} {W : Nat → Nat} {m : Nat} (hx : 0 < x ∧ x ≤ 2400000) (hW : ∀ i, i < m → 1 ≤ W i ∧ W i ≤ 24) : ∀ k, k ≤ m → 0 < cpT x W k ∧ cpT x W k ≤ 2400000
  | 0, _ => hx
  | k + 1, hk => by
    have ih := cpT_rng hx hW k (by omega)
    rw [cpT]
    split
    · exact ih
    · exact lcmW24 (by omega) (hW k (by omega)) ih.1
theorem cpM_rng {x : Nat} {W : Nat → Nat} {m : Nat} (hx : 0 < x ∧ x ≤ 100001) (hW : ∀ i, i < m → 1 ≤ W i ∧ W i ≤ 24) : ∀ k, k ≤ m → 0 < cpM x W k ∧ cpM x W k ≤ 100001
  | 0, _ => hx
  | k + 1, hk => by
    have ih := cpM_rng hx hW k (by omega)
    rw [cpM]
    split
    · exact ih
    · split
      · decide
      · have := lcmW24 (w := W k) (show cpM x W k ≤ 100000 by omega) (hW k (by omega)) ih.1
        omega
theorem lcs_mono {x : Nat} {W : Nat → Nat} {m : Nat} (hx : 0 < x) (hW : ∀ i, i < m → 1 ≤ W i ∧ W i ≤ 24) {k : Nat} (hk : k < m) : lcs x (fun _ => true) W k ≤ lcs x (fun _ => true) W (k + 1) := by
  have hp : 0 < lcs x (fun _ => true) W (k + 1) := lcs_pos hx (fun j hj => (hW j (by omega)).1)
  refine Nat.le_of_dvd hp ?_
  rw [lcs, if_pos rfl]
  exact Nat.dvd_lcm_left _ _
theorem cpT_s {x : Nat} {W : Nat → Nat} {m : Nat} (hx : 0 < x) (hW : ∀ i, i < m → 1 ≤ W i ∧ W i ≤ 24) : ∀ k, k ≤ m → (cpT x W k ≤ 100000 ∨ lcs x (fun _ => true) W k ≤ 100000) → cpT x W k = lcs x (fun _ => true) W k
  | 0, _, _ => rfl
  | k + 1, hk, h => by
    have hmo := lcs_mono (k := k) hx hW (by omega)
    rw [cpT] at h ⊢
    rw [lcs, if_pos rfl] at hmo h ⊢
    by_cases q : 100000 < cpT x W k
    · rw [if_pos q] at h ⊢
      rcases h with h | h
      · omega
      · have := cpT_s hx hW k (by omega) (Or.inr (by omega))
        omega
    · rw [if_neg q, cpT_s hx hW k (by omega) (Or.inl (by omega))]
theorem cpM_s {x : Nat} {W : Nat → Nat} {m : Nat} (hx : 0 < x) (hW : ∀ i, i < m → 1 ≤ W i ∧ W i ≤ 24) : ∀ k, k ≤ m → (cpM x W k ≤ 100000 ∨ lcs x (fun _ => true) W k ≤ 100000) → cpM x W k = lcs x (fun _ => true) W k
  | 0, _, _ => rfl
  | k + 1, hk, h => by
    have hmo := lcs_mono (k := k) hx hW (by omega)
    rw [cpM] at h ⊢
    rw [lcs, if_pos rfl] at hmo h ⊢
    by_cases q : 100000 < cpM x W k
    · rw [if_pos q] at h ⊢
      rcases h with h | h
      · omega
      · have := cpM_s hx hW k (by omega) (Or.inr (by omega))
        omega
    · rw [if_neg q] at h ⊢
      have e := cpM_s hx hW k (by omega) (Or.inl (by omega))
      by_cases q2 : 100000 < Nat.lcm (cpM x W k) (W k)
      · rw [if_pos q2] at h ⊢
        rw [e] at q2
        omega
      · rw [if_neg q2, e]
theorem commonTurn_c {M : PM} {a w : Nat} (ha : 0 < a ∧ a ≤ 2400000) (hw : 1 ≤ w ∧ w ≤ 24) : F_X10_commonTurn M (zi a) (zi w) = rI (zi (if 100000 < a then a else Nat.lcm a w : Nat)) M := by
  by_cases q : 100000 < a
  · unfold F_X10_commonTurn
    rw [if_pos q, commonDivisor_s (by omega) (by omega), cI_s, if_pos (by rw [show (100000 : Int32) = zi 100000 from rfl, zi_lt (by omega) (by omega)]; omega)]
  · rw [if_neg q, commonTurn_s (by omega) (by omega)]
theorem both_m {M : PM} {a w : Nat} (ha : 0 < a ∧ a ≤ 100001) (hw : 1 ≤ w ∧ w ≤ 99) : F_X11_both M (zi a) (zi w) = rI (zi (if 100000 < a then a else if 100000 < Nat.lcm a w then 100001 else Nat.lcm a w : Nat)) M := by
  by_cases q : 100000 < a
  · unfold F_X11_both
    rw [if_pos q]
    simp (disch := omega) only [lt_z, cI_s, cJ_s, cV_s, bI_s, bI_e, bV_s, bV_e, zl, zi_neg, zi_add, zi_sub, zi_mul, ↓reduceIte, zb0, zb1, bb_and, bb_t, bb_f, zi_ltT, zi_ltF, zi_leT, zi_leF, zi_eqT, zi_eqF, zi_ixT, zi_nat, Int.toNat_natCast, Int.reduceToNat, ltNT, and_self]
  · rw [if_neg q]
    by_cases q2 : 100000 < Nat.lcm a w
    · have hg := gcd_pos (a := a) (b := w) (by omega)
      have hl2 := gcd_le (a := a) (b := w) (by omega)
      have hle : Nat.lcm a w ≤ 10000000 := Nat.le_trans (Nat.le_of_dvd (Nat.mul_pos (by omega) (by omega)) (Nat.lcm_dvd_mul _ _)) (Nat.le_trans (Nat.mul_le_mul (show a ≤ 100000 by omega) (show w ≤ 100 by omega)) (by decide))
      have e : ((Nat.lcm a w : Nat) : Int) = (a : Int) / (Nat.gcd a w : Int) * (w : Int) := by rw [← lcm_eq (show 0 < w by omega), Int.natCast_mul, Int.natCast_ediv]
      rw [if_pos q2]
      unfold F_X11_both
      rw [common_s (by omega) (by omega), cI_s, zi_div (by omega) (by omega), zi_mul, ← e]
      simp (disch := omega) only [lt_z, cI_s, cJ_s, cV_s, bI_s, bI_e, bV_s, bV_e, zl, zi_neg, zi_add, zi_sub, zi_mul, ↓reduceIte, zb0, zb1, bb_and, bb_t, bb_f, zi_ltT, zi_ltF, zi_leT, zi_leF, zi_eqT, zi_eqF, zi_ixT, zi_nat, Int.toNat_natCast, Int.reduceToNat, ltNT, and_self]
      rfl
    · rw [if_neg q2]
      exact both_s (by omega) (by omega) (by omega)
theorem all12_dec : ∀ n : Fin 13, (1 <<< (zi (n.val : Int) &&& 31)) - 1 = zi ((2 ^ n.val - 1 : Nat) : Int) := by decide +kernel
theorem all12 {n : Nat} (hn : n ≤ 12) : (1 <<< (zi (n : Int) &&& 31)) - 1 = zi ((2 ^ n - 1 : Nat) : Int) := all12_dec ⟨n, by omega⟩
theorem turn30 {M : PM} {W : Nat → Nat} {m x : Nat} (hm : mI M 30 4 = zi m) (hm2 : m ≤ 12) (hx : 0 < x ∧ x ≤ 2400000) (hW : ∀ i, i < m → mA M 31 i = zi (W i) ∧ 1 ≤ W i ∧ W i ≤ 24) : F_X2_turnWith_30 M (zi ((2 ^ m - 1 : Nat))) (zi x) = rI (zi (cpT x W m)) M := by
  have hp := p2 hm2
  unfold F_X2_turnWith_30
  refine loopU m (fun f i => F_X2_turnWith_30_5 f M (zi ((2 ^ m - 1 : Nat))) (zi (cpT x W i)) (zi (i : Nat))) _ (fun f => ?_) (fun f i hi => ?_) 0 FUEL (Nat.zero_le _) (FUEL_gt (by omega))
  · rw [F_X2_turnWith_30_5, hm, if_pos (by rw [zi_le (by omega) (by omega)]; omega)]
  · obtain ⟨w1, w2⟩ := hW i hi
    have hr := cpT_rng hx (fun j hj => (hW j hj).2) i (by omega)
    have hb : (2 ^ m - 1).testBit i = true := by rw [Nat.testBit_two_pow_sub_one, decide_eq_true hi]
    rw [F_X2_turnWith_30_5, hm, if_neg (by rw [zi_le (by omega) (by omega)]; omega), isIn_s (by omega) (by omega), hb, cI_s, if_neg (by decide), if_pos (zi_ixT (by omega) (by omega)), zi_natN (by omega), w1, commonTurn_c hr w2, cI_s]
    unfold F_X2_turnWith_30_35
    rw [show (1 : Int32) = zi 1 from rfl, zi_add, lt_z, zc (show (i : Int) + 1 = ((i + 1 : Nat) : Int) by omega), cpT]
theorem turn35 {M : PM} {W : Nat → Nat} {m x : Nat} (hm : mI M 35 4 = zi m) (hm2 : m ≤ 6) (hx : 0 < x ∧ x ≤ 2400000) (hW : ∀ i, i < m → mA M 36 i = zi (W i) ∧ 1 ≤ W i ∧ W i ≤ 24) : F_X2_turnWith_35 M (zi ((2 ^ m - 1 : Nat))) (zi x) = rI (zi (cpT x W m)) M := by
  have hp := p2 (n := m) (by omega)
  unfold F_X2_turnWith_35
  refine loopU m (fun f i => F_X2_turnWith_35_5 f M (zi ((2 ^ m - 1 : Nat))) (zi (cpT x W i)) (zi (i : Nat))) _ (fun f => ?_) (fun f i hi => ?_) 0 FUEL (Nat.zero_le _) (FUEL_gt (by omega))
  · rw [F_X2_turnWith_35_5, hm, if_pos (by rw [zi_le (by omega) (by omega)]; omega)]
  · obtain ⟨w1, w2⟩ := hW i hi
    have hr := cpT_rng hx (fun j hj => (hW j hj).2) i (by omega)
    have hb : (2 ^ m - 1).testBit i = true := by rw [Nat.testBit_two_pow_sub_one, decide_eq_true hi]
    rw [F_X2_turnWith_35_5, hm, if_neg (by rw [zi_le (by omega) (by omega)]; omega), isIn_s (by omega) (by omega), hb, cI_s, if_neg (by decide), if_pos (zi_ixT (by omega) (by omega)), zi_natN (by omega), w1, commonTurn_c hr w2, cI_s]
    unfold F_X2_turnWith_35_35
    rw [show (1 : Int32) = zi 1 from rfl, zi_add, lt_z, zc (show (i : Int) + 1 = ((i + 1 : Nat) : Int) by omega), cpT]
