/-! calendar: the reference reads -/
def StG (b : Nat → Nat) (n : Nat) (M : PM) (o : Out) : Prop := (o.1 = 0 ∧ TM b M n n 0 (-1) ∧ DM M o.2.2.2.1 o.2.2.2.2) ∨ (o.1 ≠ 0 ∧ ∃ p, TM b M n p o.1 o.2.1)
theorem read58 {b : Nat → Nat} {M : PM} {n : Nat} (h : TM b M n (sb b n 0) 0 (-1)) (hd : DM M C00 A00) (hcl : mI M 99 7 = zi 0) (hW : ∀ k, k ≤ rdK b n → (rdo b n k).1 = 0 → WFD (rdo b n k).2.2.2.1 (rdo b n k).2.2.2.2) (hP : ∀ k, k ≤ rdK b n → (rdo b n k).1 = 0 → (rdo b n k).2.2.1 ≤ n) : ∃ M', F_X11_calendar_99_58 FUEL M = F_X11_calendar_99_87 M' ∧ SamM M M' ∧ StG b n M' (rdo b n (rdK b n)) := by
  have hK' : rdK b n ≤ 61 := fa_first_le (rdS b n) 61
  refine loopS (σ := PM × Nat) (fun f q => F_X11_calendar_99_58 f q.1) (fun o => ∃ M', o = F_X11_calendar_99_87 M' ∧ SamM M M' ∧ StG b n M' (rdo b n (rdK b n))) (fun r q => r = rdK b n - q.2 ∧ q.2 ≤ rdK b n ∧ SamM M q.1 ∧ (((rdo b n q.2).1 = 0 ∧ TM b q.1 n (sb b n (rdo b n q.2).2.2.1) 0 (-1) ∧ DM q.1 (rdo b n q.2).2.2.2.1 (rdo b n q.2).2.2.2.2 ∧ mI q.1 99 7 = zi (q.2 : Nat)) ∨ ((rdo b n q.2).1 ≠ 0 ∧ ∃ p, TM b q.1 n p (rdo b n q.2).1 (rdo b n q.2).2.1))) ?_ (rdK b n) (M, 0) FUEL ⟨(Nat.sub_zero _).symm, Nat.zero_le _, SamM.rf, Or.inl ⟨rfl, h, hd, hcl⟩⟩ (FUEL_gt (by omega))
  rintro f r ⟨M1, k⟩ ⟨i1, i2, i3, i4⟩
  simp only at i1 i2 i3 i4
  show (∃ M', F_X11_calendar_99_58 (f + 1) M1 = _ ∧ _) ∨ _
  rw [F_X11_calendar_99_58]
  rcases i4 with ⟨u1, u2, u3, u4⟩ | ⟨u1, p1, u2⟩
  · have hp := u2.2.2.2.2.1
    have hn := u2.2.2.2.2.2.1
    rw [u2.2.2.1, if_pos (show zi 0 = 0 from rfl), u2.1, u2.2.1]
    by_cases q2 : sb b n (rdo b n k).2.2.1 = n
    · left
      have e : rdK b n = k := by
        rcases Nat.eq_or_lt_of_le i2 with v | v
        · exact v.symm
        · have := fa_first_no (rdS b n) 61 k v
          unfold rdS at this
          rw [decide_eq_true (Or.inr q2)] at this
          exact absurd this (by decide)
      rw [if_pos (by rw [zi_le (by omega) (by omega)]; omega)]
      rw [q2] at u2
      exact ⟨M1, rfl, i3, e ▸ Or.inl ⟨u1, u2, u3⟩⟩
    · right
      have hlt : k < rdK b n := by
        rcases Nat.eq_or_lt_of_le i2 with v | v
        · exfalso
          by_cases q61 : k = 61
          · obtain ⟨k', rfl⟩ : ∃ k', k = k' + 1 := ⟨k - 1, by omega⟩
            exact rdo_60 (b := b) (n := n) (k := k') (by omega) u1
          · have hy := fa_first_yes (rdS b n) 61 (show rdK b n < 61 by omega)
            have hy2 := of_decide_eq_true hy
            have e : fa_first (rdS b n) 61 = k := v.symm
            rw [e] at hy2
            rcases hy2 with w | w
            · exact absurd u1 w
            · exact absurd w q2
        · exact v
      have hpk := hP k i2 u1
      obtain ⟨M2, c1, c2, c3⟩ := clause_m u2 u3 (hW k i2 u1) u4 (by omega)
      rw [oCl_sb hpk] at c3
      rw [if_neg (by rw [zi_le (by omega) (by omega)]; omega), c1, cV_s]
      have key : ∃ M3, F_X11_blanks_99 M2 = rV M3 ∧ SamM M2 M3 ∧ (((rdo b n (k + 1)).1 = 0 ∧ TM b M3 n (sb b n (rdo b n (k + 1)).2.2.1) 0 (-1) ∧ DM M3 (rdo b n (k + 1)).2.2.2.1 (rdo b n (k + 1)).2.2.2.2 ∧ mI M3 99 7 = zi ((k + 1 : Nat))) ∨ ((rdo b n (k + 1)).1 ≠ 0 ∧ ∃ p, TM b M3 n p (rdo b n (k + 1)).1 (rdo b n (k + 1)).2.1)) := by
        rw [rdo_succ]
        generalize oCl b n k (rdo b n k).2.2.1 (rdo b n k).2.2.2.1 (rdo b n k).2.2.2.2 = o at *
        rcases c3 with ⟨w1, w2, w3, w4⟩ | ⟨w1, p2, w2⟩
        · obtain ⟨M3, m1, m2, m3⟩ := blanks_m w2
          exact ⟨M3, m1, m3.samM, Or.inl ⟨w1, m2, w3.e2 m3.2, (m3.1 99 7 (by decide)).trans w4⟩⟩
        · obtain ⟨M3, m1, m2, m3⟩ := blanks_m w2
          exact ⟨M3, m1, m3.samM, Or.inr ⟨w1, _, m2⟩⟩
      obtain ⟨M3, m1, m2, m3⟩ := key
      exact ⟨rdK b n - (k + 1), (M3, k + 1), by omega, ⟨rfl, by show k + 1 ≤ rdK b n; omega, (i3.tr c2).tr m2, m3⟩, by rw [m1, cV_s]⟩
  · left
    have hf := u2.2.2.2.2.2.2.1
    have e : rdK b n = k := by
      rcases Nat.eq_or_lt_of_le i2 with v | v
      · exact v.symm
      · have := fa_first_no (rdS b n) 61 k v
        unfold rdS at this
        rw [decide_eq_true (Or.inl u1)] at this
        exact absurd this (by decide)
    rw [u2.2.2.1, if_neg (by rw [show (0 : Int32) = zi 0 from rfl, zi_eq (by omega) (by omega)]; exact u1)]
    exact ⟨M1, rfl, i3, e ▸ Or.inr ⟨u1, p1, u2⟩⟩
theorem t5_cm {C : Cal} {A : Nat → Nat → Nat} (hw : WFD C A) : (cpM (cpM 1 (cW C) (cN C)) (oW C) (oN C) ≤ 100000 ↔ t5 C ≤ 100000) ∧ (t5 C ≤ 100000 → cpM 1 (cW C) (cN C) = t4 C ∧ cpM (cpM 1 (cW C) (cN C)) (oW C) (oN C) = t5 C) ∧ (0 < cpM 1 (cW C) (cN C) ∧ cpM 1 (cW C) (cN C) ≤ 100001) := by
  have hW : ∀ i, i < cN C → 1 ≤ cW C i ∧ cW C i ≤ 24 := fun i hi => by have := (hw.2.1 i hi).1; omega
  have hO : ∀ i, i < oN C → 1 ≤ oW C i ∧ oW C i ≤ 24 := fun i hi => by have := (hw.2.2.1 i hi).1; omega
  have r4 := cpM_rng (x := 1) (W := cW C) (by decide) hW (cN C) (Nat.le_refl _)
  have s4 := cpM_s (x := 1) (W := cW C) (by decide) hW (cN C) (Nat.le_refl _)
  have t4p : 0 < t4 C := lcs_pos (by decide) (fun j hj => (hW j hj).1)
  have m45 : t4 C ≤ t5 C := Nat.le_of_dvd (lcs_pos t4p (fun j hj => (hO j hj).1)) (lcs_base _ _ _ _)
  have big : 100000 < cpM 1 (cW C) (cN C) → ∀ k, cpM (cpM 1 (cW C) (cN C)) (oW C) k = cpM 1 (cW C) (cN C) := fun q k => by
    induction k with
    | zero => rfl
    | succ k ih => rw [cpM, ih, if_pos q]
  by_cases q : 100000 < cpM 1 (cW C) (cN C)
  · have nt : ¬ t5 C ≤ 100000 := fun h => by
      have : cpM 1 (cW C) (cN C) = t4 C := s4 (Or.inr (by show lcs 1 (fun _ => true) (cW C) (cN C) ≤ 100000; have : lcs 1 (fun _ => true) (cW C) (cN C) = t4 C := rfl; omega))
      omega
    rw [big q]
    exact ⟨⟨fun h => by omega, fun h => absurd h nt⟩, fun h => absurd h nt, r4⟩
  · have e4 : cpM 1 (cW C) (cN C) = t4 C := s4 (Or.inl (by omega))
    rw [e4] at r4 ⊢
    have s5 := cpM_s (x := t4 C) (W := oW C) t4p hO (oN C) (Nat.le_refl _)
    have e5 : lcs (t4 C) (fun _ => true) (oW C) (oN C) = t5 C := rfl
    rw [e5] at s5
    exact ⟨⟨fun h => by rw [← s5 (Or.inl h)]; exact h, fun h => by rw [s5 (Or.inr h)]; exact h⟩, fun h => ⟨rfl, s5 (Or.inr h)⟩, r4⟩
/-- the reference's turns, and the fault at the end -/
theorem read87 {b : Nat → Nat} {M : PM} {n : Nat} {o : Out} {f1 f2 : Int} (h : StG b n M o) (hw : o.1 = 0 → WFD o.2.2.2.1 o.2.2.2.2) (h1 : f1 = if o.1 ≠ 0 then o.1 else if t5 o.2.2.2.1 ≤ 100000 then 0 else 4) (h2 : f2 = if o.1 ≠ 0 then o.2.1 else if t5 o.2.2.2.1 ≤ 100000 then -1 else (n : Int)) : ∃ M', F_X11_calendar_99_87 M = F_X11_calendar_99_218 M' ∧ SamM M M' ∧ mI M' 99 5 = zi f1 ∧ mI M' 99 6 = zi f2 ∧ (f1 = 0 → DM M' o.2.2.2.1 o.2.2.2.2 ∧ mA M' 102 4 = zi (t4 o.2.2.2.1) ∧ mA M' 102 5 = zi (t5 o.2.2.2.1)) := by
  have z4 : (4 : Int32).toNatClampNeg = 4 := by decide
  have z5 : (5 : Int32).toNatClampNeg = 5 := by decide
  have z0 : (0 : Int32).toNatClampNeg = 0 := by decide
  have z1 : (1 : Int32).toNatClampNeg = 1 := by decide
  unfold F_X11_calendar_99_87
  rw [if_pos (by decide), z4]
  rcases h with ⟨u1, u2, u3⟩ | ⟨u1, p, u2⟩
  · have hw := hw u1
    rw [if_neg (fun w => w u1)] at h1 h2
    generalize o.2.2.2.1 = C at *
    generalize o.2.2.2.2 = A at *
    obtain ⟨c1, c2, c3⟩ := t5_cm hw
    have hW : ∀ i, i < cN C → 1 ≤ cW C i ∧ cW C i ≤ 24 := fun i hi => by have := (hw.2.1 i hi).1; omega
    have hO : ∀ i, i < oN C → 1 ≤ oW C i ∧ oW C i ≤ 24 := fun i hi => by have := (hw.2.2.1 i hi).1; omega
    have hcn := hw.1.1
    have hon := hw.1.2.1
    -- a memory that differs in places 4 and 5 of array 102
    have fr : ∀ (x y : Nat → Nat) (N : PM), True := fun _ _ _ => trivial
    have l96 : ∃ M1, F_X11_calendar_99_96 FUEL (sA M 102 4 1) 0 = F_X11_calendar_99_140 M1 ∧ SamM M M1 ∧ M1.1 = M.1 ∧ M1.2.2.2 = M.2.2.2 ∧ (∀ q, q ≠ 102 → M1.2.2.1 q = M.2.2.1 q) ∧ (∀ j, j ≠ 4 → mA M1 102 j = mA M 102 j) ∧ mA M1 102 4 = zi (cpM 1 (cW C) (cN C)) := by
      refine loopS (σ := PM × Nat) (fun f q => F_X11_calendar_99_96 f q.1 (zi (q.2 : Nat))) (fun o => ∃ M1, o = F_X11_calendar_99_140 M1 ∧ SamM M M1 ∧ M1.1 = M.1 ∧ M1.2.2.2 = M.2.2.2 ∧ (∀ q, q ≠ 102 → M1.2.2.1 q = M.2.2.1 q) ∧ (∀ j, j ≠ 4 → mA M1 102 j = mA M 102 j) ∧ mA M1 102 4 = zi (cpM 1 (cW C) (cN C))) (fun r q => r = cN C - q.2 ∧ q.2 ≤ cN C ∧ SamM M q.1 ∧ q.1.1 = M.1 ∧ q.1.2.2.2 = M.2.2.2 ∧ (∀ p, p ≠ 102 → q.1.2.2.1 p = M.2.2.1 p) ∧ (∀ j, j ≠ 4 → mA q.1 102 j = mA M 102 j) ∧ mA q.1 102 4 = zi (cpM 1 (cW C) q.2)) ?_ (cN C) (sA M 102 4 1, 0) FUEL ⟨rfl, Nat.zero_le _, SamM.a 102 4 _ (by decide), rfl, rfl, fun p hp => rA_ne hp, fun j hj => rA_nk hj, rA_at⟩ (FUEL_gt (by omega))
      rintro f r ⟨M1, i⟩ ⟨i1, i2, i3, i4, i5, i6, i7, i8⟩
      simp only at i1 i2 i3 i4 i5 i6 i7 i8
      show (∃ M2, F_X11_calendar_99_96 (f + 1) M1 (zi (i : Nat)) = _ ∧ _) ∨ _
      have eN : mA M1 102 0 = zi (cN C) := (i7 0 (by decide)).trans u3.1.1
      have e5 : mI M1 99 5 = zi 0 := by rw [mI, i4]; exact u2.2.2.1
      rw [F_X11_calendar_99_96, z0, eN, if_pos (by decide)]
      by_cases q : i = cN C
      · left
        exact ⟨M1, by rw [if_pos (by rw [zi_le (by omega) (by omega)]; omega)], i3, i4, i5, i6, i7, q ▸ i8⟩
      · right
        have ew : mA M1 106 i = zi (cW C i) := by rw [mA, i6 106 (by decide)]; exact (u3.2.1 i (by omega)).1
        have hr := cpM_rng (x := 1) (by decide) hW i i2
        have hwi := hW i (by omega)
        rw [if_neg (by rw [zi_le (by omega) (by omega)]; omega), e5, if_pos (show zi 0 = 0 from rfl), if_pos (by decide), if_pos (zi_ixT (by omega) (by omega)), z4, i8, zi_natN (by omega), ew, both_m hr (by omega), cI_s, if_pos (by decide), show (1 : Int32) = zi 1 from rfl, zi_add, lt_z, zc (show (i : Int) + 1 = ((i + 1 : Nat) : Int) by omega)]
        exact ⟨cN C - (i + 1), (sA M1 102 4 (zi (cpM 1 (cW C) (i + 1))), i + 1), by omega, ⟨rfl, by show i + 1 ≤ cN C; omega, i3.tr (SamM.a 102 4 _ (by decide)), i4, i5, fun p hp => (rA_ne hp).trans (i6 p hp), fun j hj => (rA_nk hj).trans (i7 j hj), rA_at⟩, rfl⟩
    obtain ⟨M1, a1, a2, a3, a4, a5, a6, a7⟩ := l96
    generalize hv4 : cpM 1 (cW C) (cN C) = v4 at *
    have l154 : ∃ M2, F_X11_calendar_99_154 FUEL (sA M1 102 5 (zi v4)) 0 = F_X11_calendar_99_198 M2 ∧ SamM M M2 ∧ M2.1 = M.1 ∧ M2.2.2.2 = M.2.2.2 ∧ (∀ q, q ≠ 102 → M2.2.2.1 q = M.2.2.1 q) ∧ (∀ j, j ≠ 4 → j ≠ 5 → mA M2 102 j = mA M 102 j) ∧ mA M2 102 4 = zi v4 ∧ mA M2 102 5 = zi (cpM v4 (oW C) (oN C)) := by
      refine loopS (σ := PM × Nat) (fun f q => F_X11_calendar_99_154 f q.1 (zi (q.2 : Nat))) (fun o => ∃ M2, o = F_X11_calendar_99_198 M2 ∧ SamM M M2 ∧ M2.1 = M.1 ∧ M2.2.2.2 = M.2.2.2 ∧ (∀ q, q ≠ 102 → M2.2.2.1 q = M.2.2.1 q) ∧ (∀ j, j ≠ 4 → j ≠ 5 → mA M2 102 j = mA M 102 j) ∧ mA M2 102 4 = zi v4 ∧ mA M2 102 5 = zi (cpM v4 (oW C) (oN C))) (fun r q => r = oN C - q.2 ∧ q.2 ≤ oN C ∧ SamM M q.1 ∧ q.1.1 = M.1 ∧ q.1.2.2.2 = M.2.2.2 ∧ (∀ p, p ≠ 102 → q.1.2.2.1 p = M.2.2.1 p) ∧ (∀ j, j ≠ 4 → j ≠ 5 → mA q.1 102 j = mA M 102 j) ∧ mA q.1 102 4 = zi v4 ∧ mA q.1 102 5 = zi (cpM v4 (oW C) q.2)) ?_ (oN C) (sA M1 102 5 (zi v4), 0) FUEL ⟨rfl, Nat.zero_le _, a2.tr (SamM.a 102 5 _ (by decide)), a3, a4, fun p hp => (rA_ne hp).trans (a5 p hp), fun j h1 h2 => (rA_nk h2).trans (a6 j h1), (rA_nk (by decide)).trans a7, rA_at⟩ (FUEL_gt (by omega))
      rintro f r ⟨N, i⟩ ⟨i1, i2, i3, i4, i5, i6, i7, i8, i9⟩
      simp only at i1 i2 i3 i4 i5 i6 i7 i8 i9
      show (∃ M2, F_X11_calendar_99_154 (f + 1) N (zi (i : Nat)) = _ ∧ _) ∨ _
      have eN : mA N 102 1 = zi (oN C) := (i7 1 (by decide) (by decide)).trans u3.1.2.1
      have e5 : mI N 99 5 = zi 0 := by rw [mI, i4]; exact u2.2.2.1
      rw [F_X11_calendar_99_154, z1, eN, if_pos (by decide)]
      by_cases q : i = oN C
      · left
        exact ⟨N, by rw [if_pos (by rw [zi_le (by omega) (by omega)]; omega)], i3, i4, i5, i6, i7, i8, q ▸ i9⟩
      · right
        have ew : mA N 110 i = zi (oW C i) := by rw [mA, i6 110 (by decide)]; exact (u3.2.2.1 i (by omega)).1
        have hr := cpM_rng (x := v4) c3 hO i i2
        have hwi := hO i (by omega)
        rw [if_neg (by rw [zi_le (by omega) (by omega)]; omega), e5, if_pos (show zi 0 = 0 from rfl), if_pos (by decide), if_pos (zi_ixT (by omega) (by omega)), z5, i9, zi_natN (by omega), ew, both_m hr (by omega), cI_s, if_pos (by decide), show (1 : Int32) = zi 1 from rfl, zi_add, lt_z, zc (show (i : Int) + 1 = ((i + 1 : Nat) : Int) by omega)]
        exact ⟨oN C - (i + 1), (sA N 102 5 (zi (cpM v4 (oW C) (i + 1))), i + 1), by omega, ⟨rfl, by show i + 1 ≤ oN C; omega, i3.tr (SamM.a 102 5 _ (by decide)), i4, i5, fun p hp => (rA_ne hp).trans (i6 p hp), fun j h1 h2 => (rA_nk h2).trans (i7 j h1 h2), (rA_nk (by decide)).trans i8, rA_at⟩, rfl⟩
    obtain ⟨M2, d1, d2, d3, d4, d5, d6, d7, d8⟩ := l154
    have r5 := cpM_rng (x := v4) (W := oW C) c3 hO (oN C) (Nat.le_refl _)
    generalize hv5 : cpM v4 (oW C) (oN C) = v5 at *
    have dm : DM M2 C A := by
      obtain ⟨k1, k2, k3, k4, k5⟩ := u3
      have ea : ∀ q i, q ≠ 102 → mA M2 q i = mA M q i := fun q i hq => congrFun (d5 q hq) i
      have eg : ∀ g i j, mG M2 g i j = mG M g i j := fun g i j => by rw [mG, mG, d4]
      exact ⟨⟨(d6 0 (by decide) (by decide)).trans k1.1, (d6 1 (by decide) (by decide)).trans k1.2.1, (d6 2 (by decide) (by decide)).trans k1.2.2.1, (d6 3 (by decide) (by decide)).trans k1.2.2.2⟩, fun l hl => ⟨(ea 106 l (by decide)).trans (k2 l hl).1, (ea 108 l (by decide)).trans (k2 l hl).2⟩, fun l hl => ⟨(ea 110 l (by decide)).trans (k3 l hl).1, (ea 112 l (by decide)).trans (k3 l hl).2⟩, fun i hi => (ea 104 i (by decide)).trans (k4 i hi), fun h' l x1 x2 => (eg 114 h' l).trans (k5 h' l x1 x2)⟩
    have tm : TM b M2 n n 0 (-1) := u2.kp (fun k _ _ => by rw [d3]) (d5 100 (by decide))
    rw [a1]
    unfold F_X11_calendar_99_140
    rw [if_pos (by decide), if_pos (by decide), z4, z5, a7, d1]
    unfold F_X11_calendar_99_198
    rw [if_pos (by decide), z5, d8]
    by_cases q : t5 C ≤ 100000
    · rw [if_pos q] at h1 h2
      obtain ⟨g4, g5⟩ := c2 q
      rw [if_pos (by rw [show (100000 : Int32) = zi 100000 from rfl, zi_le (by omega) (by omega)]; have := c1.mpr q; omega)]
      exact ⟨M2, rfl, d2, by rw [h1]; exact tm.2.2.1, by rw [h2]; exact tm.2.2.2.1, fun _ => ⟨dm, by rw [d7, g4], by rw [d8, g5]⟩⟩
    · rw [if_neg q] at h1 h2
      obtain ⟨M3, w1, w2, w3⟩ := wrong_m (x := 4) (y := (n : Int)) tm (by decide)
      rw [if_pos rfl, if_pos rfl] at w2
      rw [if_neg (by rw [show (100000 : Int32) = zi 100000 from rfl, zi_le (by omega) (by omega)]; intro u; exact q (c1.mp (by omega))), tm.1, show (4 : Int32) = zi 4 from rfl, w1, cV_s]
      exact ⟨M3, rfl, d2.tr w3.samM, by rw [h1]; exact w2.2.2.1, by rw [h2]; exact w2.2.2.2.1, fun u => by omega⟩
  · have hf := u2.2.2.2.2.2.2.1
    rw [if_pos u1] at h1 h2
    have t1 : ∀ x y, TM b (sA (sA M 102 4 x) 102 5 y) n p o.1 o.2.1 := fun x y => u2.kp (fun k _ _ => rfl) ((rA_ne (by decide)).trans (rA_ne (by decide)) : (sA (sA M 102 4 x) 102 5 y).2.2.1 100 = M.2.2.1 100)
    have f5 : ∀ N : PM, mI N 99 5 = zi o.1 → ¬ mI N 99 5 = 0 := fun N e => by rw [e, show (0 : Int32) = zi 0 from rfl, zi_eq (by omega) (by omega)]; exact u1
    have e96 : F_X11_calendar_99_96 FUEL (sA M 102 4 1) 0 = F_X11_calendar_99_140 (sA M 102 4 1) := by
      refine loopS (σ := Unit) (fun f _ => F_X11_calendar_99_96 f (sA M 102 4 1) 0) (fun o => o = F_X11_calendar_99_140 (sA M 102 4 1)) (fun _ _ => True) ?_ 0 () FUEL trivial (FUEL_gt (by omega))
      rintro f r _ _
      left
      show F_X11_calendar_99_96 (f + 1) (sA M 102 4 1) 0 = _
      rw [F_X11_calendar_99_96, if_pos (by decide)]
      split
      · rfl
      · rw [if_neg (f5 (sA M 102 4 1) u2.2.2.1)]
    have e154 : ∀ N : PM, mI N 99 5 = zi o.1 → F_X11_calendar_99_154 FUEL N 0 = F_X11_calendar_99_198 N := fun N hN => by
      refine loopS (σ := Unit) (fun f _ => F_X11_calendar_99_154 f N 0) (fun o => o = F_X11_calendar_99_198 N) (fun _ _ => True) ?_ 0 () FUEL trivial (FUEL_gt (by omega))
      rintro f r _ _
      left
      show F_X11_calendar_99_154 (f + 1) N 0 = _
      rw [F_X11_calendar_99_154, if_pos (by decide)]
      split
      · rfl
      · rw [if_neg (f5 N hN)]
    rw [e96]
    unfold F_X11_calendar_99_140
    rw [if_pos (by decide), if_pos (by decide), z4, z5, show mA (sA M 102 4 1) 102 4 = 1 from rA_at, e154 (sA (sA M 102 4 1) 102 5 1) u2.2.2.1]
    unfold F_X11_calendar_99_198
    rw [if_pos (by decide), z5, show mA (sA (sA M 102 4 1) 102 5 1) 102 5 = 1 from rA_at, if_pos (by decide)]
    exact ⟨_, rfl, (SamM.a 102 4 _ (by decide)).tr (SamM.a 102 5 _ (by decide)), by rw [h1]; exact (t1 1 1).2.2.1, by rw [h2]; exact (t1 1 1).2.2.2.1, fun u => absurd (h1.symm.trans u) u1⟩
